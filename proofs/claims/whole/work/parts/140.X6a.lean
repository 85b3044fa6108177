set_option maxHeartbeats 4000000 in
set_option maxRecDepth 100000 in
theorem k6_addHouse (l : Launch) (hst : l.stackTraces = false) (D : va_G) (base : Nat) (g : g_H) (a0 : Nat) (rr : Nat × Int32) (gz : g_H) (hF : f6_addHouse g a0 = some (rr, gz)) : vx_Met l yX6_addHouse wsX6_addHouse ({ frames := 6, cells := 1, slots := 6, locals := 90 } : Room) (va_Pc [.ref a0] (gC base D g)) (gXi base D rr gz) (gX base D rr gz) 1 6 (gA base) := by
  refine g_xmet (cc := cX6_addHouse) (maxL := 1) (ret := (some .int)) (lst := [(0, .ref a0)]) (by decide) rfl (Nat.le_of_ble_eq_true rfl) rfl ?_
  intro p e s m args below meth c ls hx hb hr hml hown hlocks hname hts hE hP hl ht
  have hown : s.vm.findClass RX6 = some m.cls := hown
  have hK := hE.1
  have hov := hE.2.2.2.2.2.2.2.1
  have hbz := hE.2.2.2.2.2.2.2.2.2.2.2.2
  have hS : va_S (gA base) s.heap s.heap [] := va_S.rf
  have hiX5 : ∀ w ∈ wsX50, w ∈ wsX6_addHouse := by decide +kernel
  have hiX6 : ∀ w ∈ wsX60, w ∈ wsX6_addHouse := by decide +kernel
  unfold f6_addHouse at hF
  refine lv_aload_n hx hb dX6_addHouse_0 rfl (lv_at hl 0 rfl) ?_
  obtain ⟨h1, hF⟩ := g_if hF
  obtain ⟨q2, hq3, hF⟩ := g_bind hF
  refine g_get hx hb hts hiX6 hown hK hP 6 rfl (by decide) h1 0 (by decide) (hts (.fieldLink RX6 10 "CourierBees" "town" "LCourierBees$Town;") (by decide +kernel)) (fun _ h9 => h9) ((gFv_r (by decide)).trans (congrArg va_rf hq3)) dX6_addHouse_1 ?_
  obtain ⟨h4, hF⟩ := g_if hF
  refine g_get hx hb hts hiX5 hown hK hP 5 rfl (by decide) h4 0 (by decide) (hts (.fieldLink RX6 35 "CourierBees$Town" "houseCount" "I") (by decide +kernel)) (fun _ h9 => h9) (gFv_i (Or.inl rfl)) dX6_addHouse_4 ?_
  refine lv_bipush (v := 14) hx hb dX6_addHouse_7 (by decide) ?_
  refine lv_icmp_lt (tgt := 22) hx hb dX6_addHouse_9 (by decide) (fun c5 => ?_) (fun c5 => ?_)
  · have hF := g_t c5 hF
    refine lv_aload_n hx hb dX6_addHouse_22 rfl (lv_at hl 0 rfl) ?_
    obtain ⟨q6, hq7, hF⟩ := g_bind hF
    refine g_get hx hb hts hiX6 hown hK hP 6 rfl (by decide) h1 0 (by decide) (hts (.fieldLink RX6 10 "CourierBees" "town" "LCourierBees$Town;") (by decide +kernel)) (fun _ h9 => h9) ((gFv_r (by decide)).trans (congrArg va_rf hq7)) dX6_addHouse_23 ?_
    refine lv_dup hx hb dX6_addHouse_26 rfl ?_
    obtain ⟨h8, hF⟩ := g_if hF
    refine g_get hx hb hts hiX5 hown hK hP 5 rfl (by decide) h8 0 (by decide) (hts (.fieldLink RX6 35 "CourierBees$Town" "houseCount" "I") (by decide +kernel)) (fun _ h9 => h9) (gFv_i (Or.inl rfl)) dX6_addHouse_27 ?_
    refine lv_dup_x1 hx hb dX6_addHouse_30 rfl rfl ?_
    refine lv_iconst (v := 1) hx hb dX6_addHouse_31 (by decide) ?_
    refine lv_iadd hx hb dX6_addHouse_32 ?_
    refine g_puti hx hb hts hiX5 tyX5 tyX5_ok nmX5 hown hK hP hS 5 rfl (by decide) h8 0 (by decide) (hts (.fieldLink RX6 35 "CourierBees$Town" "houseCount" "I") (by decide +kernel)) (fun _ h9 => h9) (Or.inl rfl) (Or.inl rfl) rfl rfl dX6_addHouse_33 (fun H locs hP hS => ?_)
    exact g_xretI hx hb hr hlocks hF hP hS (Nat.le_of_ble_eq_true rfl) (Nat.le_of_ble_eq_true rfl) dX6_addHouse_36
  · have hF := g_f c5 hF
    exact g_throwF hx hb hst hF (text := "there are 14 houses") hown hts (by decide +kernel) (hts (.classLink RX6 39 gES) (by decide +kernel)) (hts (.initialized gES) (by decide +kernel)) (by decide +kernel) g_bad3_43 (by decide) g_good3_39_43 (by decide) hE hP hS (hl.1.trans hml.symm) dX6_addHouse_12 dX6_addHouse_15 dX6_addHouse_16 dX6_addHouse_18 dX6_addHouse_21 ht (Nat.le_of_ble_eq_true rfl) (Nat.le_of_ble_eq_true rfl) (Nat.le_of_ble_eq_true rfl) (Nat.le_of_ble_eq_true rfl) hlocks (by decide) rfl (Nat.le_of_ble_eq_true rfl) (Nat.le_of_ble_eq_true rfl)
set_option maxHeartbeats 4000000 in
set_option maxRecDepth 100000 in
theorem k6_checkHouse (l : Launch) (hst : l.stackTraces = false) (D : va_G) (base : Nat) (g : g_H) (a0 : Nat) (x1 : Int32) (rr : Nat × Int32) (gz : g_H) (hF : f6_checkHouse g a0 x1 = some (rr, gz)) : vx_Met l yX6_checkHouse wsX6_checkHouse ({ frames := 6, cells := 1, slots := 6, locals := 90 } : Room) (va_Pc [.ref a0, .int x1] (gC base D g)) (gXv base D rr gz) (gX base D rr gz) 1 6 (gA base) := by
  refine g_xmet (cc := cX6_checkHouse) (maxL := 2) (ret := none) (lst := [(0, .ref a0), (1, .int x1)]) (by decide) rfl (Nat.le_of_ble_eq_true rfl) rfl ?_
  intro p e s m args below meth c ls hx hb hr hml hown hlocks hname hts hE hP hl ht
  have hown : s.vm.findClass RX6 = some m.cls := hown
  have hK := hE.1
  have hov := hE.2.2.2.2.2.2.2.1
  have hbz := hE.2.2.2.2.2.2.2.2.2.2.2.2
  have hS : va_S (gA base) s.heap s.heap [] := va_S.rf
  have hiX6 : ∀ w ∈ wsX60, w ∈ wsX6_checkHouse := by decide +kernel
  unfold f6_checkHouse at hF
  refine lv_aload_n hx hb dX6_checkHouse_0 rfl (lv_at hl 0 rfl) ?_
  obtain ⟨h1, hF⟩ := g_if hF
  obtain ⟨q2, hq3, hF⟩ := g_bind hF
  refine g_get hx hb hts hiX6 hown hK hP 6 rfl (by decide) h1 0 (by decide) (hts (.fieldLink RX6 10 "CourierBees" "town" "LCourierBees$Town;") (by decide +kernel)) (fun _ h9 => h9) ((gFv_r (by decide)).trans (congrArg va_rf hq3)) dX6_checkHouse_1 ?_
  refine lv_iload_n hx hb dX6_checkHouse_4 rfl (lv_at hl 1 rfl) ?_
  obtain ⟨h5, hF⟩ := g_if hF
  obtain ⟨v7, g6, h4, hF⟩ := g_bind2 hF
  refine g_calli (va_runV (As := [.int x1]) (rest := []) ⟨hx, hb, hml, hown, hts⟩ (k5_hasHouse l D base g q2 x1 v7 g6 h4) (cwV 1 hts gX6_checkHouse_X5_hasHouse rfl rfl rfl (by decide +kernel) ⟨Nat.le_of_ble_eq_true rfl, Nat.le_of_ble_eq_true rfl⟩) (gC.preV hE hP hS 5 rfl (by decide) h5 [.int x1]) rfl rfl hl.1 rfl (lv_room (Nat.le_of_ble_eq_true rfl)) dX6_checkHouse_5 ⟨(Nat.le_of_ble_eq_true rfl), (Nat.le_of_ble_eq_true rfl)⟩) hS (fun H locs hP hS => ?_)
  refine lv_if_ne (tgt := 21) hx hb dX6_checkHouse_8 (by decide) (fun c8 => ?_) (fun c8 => ?_)
  · have hF := g_f c8 hF
    exact g_xretV hx hb hr hlocks hF hP hS (Nat.le_of_ble_eq_true rfl) (Nat.le_of_ble_eq_true rfl) dX6_checkHouse_21
  · have hF := g_t c8 hF
    exact g_throwF hx hb hst hF (text := "no such house") hown hts (by decide +kernel) (hts (.classLink RX6 78 gEI) (by decide +kernel)) (hts (.initialized gEI) (by decide +kernel)) (by decide +kernel) g_bad1_82 (by decide) g_good1_78_82 (by decide) hE hP hS (hl.1.trans hml.symm) dX6_checkHouse_11 dX6_checkHouse_14 dX6_checkHouse_15 dX6_checkHouse_17 dX6_checkHouse_20 ht (Nat.le_of_ble_eq_true rfl) (Nat.le_of_ble_eq_true rfl) (Nat.le_of_ble_eq_true rfl) (Nat.le_of_ble_eq_true rfl) hlocks (by decide) rfl (Nat.le_of_ble_eq_true rfl) (Nat.le_of_ble_eq_true rfl)
set_option maxHeartbeats 4000000 in
set_option maxRecDepth 100000 in
theorem k6_setHive (l : Launch) (hst : l.stackTraces = false) (D : va_G) (base : Nat) (g : g_H) (a0 : Nat) (x1 : Int32) (x2 : Int32) (rr : Nat × Int32) (gz : g_H) (hF : f6_setHive g a0 x1 x2 = some (rr, gz)) : vx_Met l yX6_setHive wsX6_setHive ({ frames := 7, cells := 1, slots := 6, locals := 111 } : Room) (va_Pc [.ref a0, .int x1, .int x2] (gC base D g)) (gXi base D rr gz) (gX base D rr gz) 1 6 (gA base) := by
  refine g_xmet (cc := cX6_setHive) (maxL := 4) (ret := (some .boolean)) (lst := [(0, .ref a0), (1, .int x1), (2, .int x2)]) (by decide) rfl (Nat.le_of_ble_eq_true rfl) rfl ?_
  intro p e s m args below meth c ls hx hb hr hml hown hlocks hname hts hE hP hl ht
  have hown : s.vm.findClass RX6 = some m.cls := hown
  have hK := hE.1
  have hov := hE.2.2.2.2.2.2.2.1
  have hbz := hE.2.2.2.2.2.2.2.2.2.2.2.2
  have hS : va_S (gA base) s.heap s.heap [] := va_S.rf
  have hiX5 : ∀ w ∈ wsX50, w ∈ wsX6_setHive := by decide +kernel
  have hiX6 : ∀ w ∈ wsX60, w ∈ wsX6_setHive := by decide +kernel
  unfold f6_setHive at hF
  refine lv_aload_n hx hb dX6_setHive_0 rfl (lv_at hl 0 rfl) ?_
  refine lv_iload_n hx hb dX6_setHive_1 rfl (lv_at hl 1 rfl) ?_
  obtain ⟨h2, hF⟩ := g_if hF
  obtain ⟨o5, g3, h1, hF⟩ := g_bind2 hF
  refine g_xcallv (vx_runV (As := [.int x1]) (rest := []) ⟨hx, hb, hml, hown, hts⟩ (k6_checkHouse l hst D base g a0 x1 o5 g3 h1) (cwV 1 hts gX6_setHive_X6_checkHouse rfl rfl rfl (by decide +kernel) ⟨Nat.le_of_ble_eq_true rfl, Nat.le_of_ble_eq_true rfl⟩) (gC.preV hE hP hS 6 rfl (by decide) h2 [.int x1]) rfl rfl hl.1 rfl (lv_room (Nat.le_of_ble_eq_true rfl)) dX6_setHive_2 ⟨(Nat.le_of_ble_eq_true rfl), (Nat.le_of_ble_eq_true rfl)⟩) hS ht hlocks (fun h0 => g_thr h0 hF) (Nat.le_of_ble_eq_true rfl) (Nat.le_of_ble_eq_true rfl) (fun H locs h6 hP hS => ?_)
  have hF := g_t h6 hF
  refine lv_aload_n hx hb dX6_setHive_5 rfl (lv_at hl 0 rfl) ?_
  obtain ⟨h7, hF⟩ := g_if hF
  obtain ⟨q8, hq9, hF⟩ := g_bind hF
  refine g_get hx hb hts hiX6 hown hK hP 6 rfl (by decide) h7 0 (by decide) (hts (.fieldLink RX6 10 "CourierBees" "town" "LCourierBees$Town;") (by decide +kernel)) (fun _ h9 => h9) ((gFv_r (by decide)).trans (congrArg va_rf hq9)) dX6_setHive_6 ?_
  refine lv_iload_n hx hb dX6_setHive_9 rfl (lv_at hl 1 rfl) ?_
  obtain ⟨h11, hF⟩ := g_if hF
  obtain ⟨v13, g12, h10, hF⟩ := g_bind2 hF
  refine g_calli (va_runV (As := [.int x1]) (rest := []) ⟨hx, hb, hml, hown, hts⟩ (k5_hasHive l D base g3 q8 x1 v13 g12 h10) (cwV 1 hts gX6_setHive_X5_hasHive rfl rfl rfl (by decide +kernel) ⟨Nat.le_of_ble_eq_true rfl, Nat.le_of_ble_eq_true rfl⟩) (gC.preV hE hP hS 5 rfl (by decide) h11 [.int x1]) rfl rfl hl.1 rfl (lv_room (Nat.le_of_ble_eq_true rfl)) dX6_setHive_10 ⟨(Nat.le_of_ble_eq_true rfl), (Nat.le_of_ble_eq_true rfl)⟩) hS (fun H locs hP hS => ?_)
  refine lv_istore_n (lv' := [(3, .int v13), (0, .ref a0), (1, .int x1), (2, .int x2)]) hx hb dX6_setHive_13 rfl hl (by decide) rfl (fun ls hl => ?_)
  refine lv_aload_n hx hb dX6_setHive_14 rfl (lv_at hl 1 rfl) ?_
  obtain ⟨h14, hF⟩ := g_if hF
  obtain ⟨q15, hq16, hF⟩ := g_bind hF
  refine g_get hx hb hts hiX6 hown hK hP 6 rfl (by decide) h14 0 (by decide) (hts (.fieldLink RX6 10 "CourierBees" "town" "LCourierBees$Town;") (by decide +kernel)) (fun _ h9 => h9) ((gFv_r (by decide)).trans (congrArg va_rf hq16)) dX6_setHive_15 ?_
  obtain ⟨h17, hF⟩ := g_if hF
  obtain ⟨q18, hq19, hF⟩ := g_bind hF
  refine g_get hx hb hts hiX5 hown hK hP 5 rfl (by decide) h17 2 (by decide) (hts (.fieldLink RX6 54 "CourierBees$Town" "hives" "[Z") (by decide +kernel)) (fun _ h9 => h9) ((gFv_r (by decide)).trans (congrArg va_rf hq19)) dX6_setHive_18 ?_
  refine lv_iload_n hx hb dX6_setHive_21 rfl (lv_at hl 2 rfl) ?_
  refine lv_iload_n hx hb dX6_setHive_22 rfl (lv_at hl 3 rfl) ?_
  obtain ⟨h20, hF⟩ := g_if hF
  obtain ⟨h21, hF⟩ := g_if hF
  obtain ⟨h22, hF⟩ := g_if hF
  refine g_zast hx hb hP hS (g_pr h20) h21 h22 dX6_setHive_23 (fun H locs hP hS => ?_)
  refine lv_iload_n hx hb dX6_setHive_24 rfl (lv_at hl 0 rfl) ?_
  obtain ⟨h23, hF⟩ := g_if hF
  exact g_xretZ hx hb hr h23 hlocks hF hP hS (Nat.le_of_ble_eq_true rfl) (Nat.le_of_ble_eq_true rfl) dX6_setHive_25
set_option maxHeartbeats 4000000 in
set_option maxRecDepth 100000 in
theorem k6_addLane (l : Launch) (hst : l.stackTraces = false) (D : va_G) (base : Nat) (g : g_H) (a0 : Nat) (x1 : Int32) (x2 : Int32) (x3 : Int32) (rr : Nat × Int32) (gz : g_H) (hF : f6_addLane g a0 x1 x2 x3 = some (rr, gz)) : vx_Met l yX6_addLane wsX6_addLane ({ frames := 7, cells := 3, slots := 18, locals := 111 } : Room) (va_Pc [.ref a0, .int x1, .int x2, .int x3] (gC base D g)) (gXi base D rr gz) (gX base D rr gz) 3 18 (gA base) := by
  refine g_xmet (cc := cX6_addLane) (maxL := 4) (ret := (some .int)) (lst := [(0, .ref a0), (1, .int x1), (2, .int x2), (3, .int x3)]) (by decide) rfl (Nat.le_of_ble_eq_true rfl) rfl ?_
  intro p e s m args below meth c ls hx hb hr hml hown hlocks hname hts hE hP hl ht
  have hown : s.vm.findClass RX6 = some m.cls := hown
  have hK := hE.1
  have hov := hE.2.2.2.2.2.2.2.1
  have hbz := hE.2.2.2.2.2.2.2.2.2.2.2.2
  have hS : va_S (gA base) s.heap s.heap [] := va_S.rf
  have hiX1 : ∀ w ∈ wsX10, w ∈ wsX6_addLane := by decide +kernel
  have hiX5 : ∀ w ∈ wsX50, w ∈ wsX6_addLane := by decide +kernel
  have hiX6 : ∀ w ∈ wsX60, w ∈ wsX6_addLane := by decide +kernel
  have HB26 : ∀ (g : g_H)  (H : Heap) (locs : List Loc) (ls : Array Slot), f6_addLane_26 g  = some (rr, gz) → gP base D s g H → va_S (gA base) s.heap H locs → lv_has ls 4 [] → W p l e ({ frames := 7, cells := 3, slots := 18, locals := 111 } : Room) s m args below meth c H locs 2 12 (vx_MQ below (gXi base D rr gz) (gX base D rr gz) args s 3 18 (gA base)) (F0 m 26 ls []) := by
    intro g  H locs ls hF hP hS hl
    unfold f6_addLane_26 at hF
    exact g_throwF hx hb hst hF (text := "no lane can be like this") hown hts (by decide +kernel) (hts (.classLink RX6 58 gEA) (by decide +kernel)) (hts (.initialized gEA) (by decide +kernel)) (by decide +kernel) g_bad2_62 (by decide) g_good2_58_62 (by decide) hE hP hS (hl.1.trans hml.symm) dX6_addLane_26 dX6_addLane_29 dX6_addLane_30 dX6_addLane_32 dX6_addLane_35 ht (Nat.le_of_ble_eq_true rfl) (Nat.le_of_ble_eq_true rfl) (Nat.le_of_ble_eq_true rfl) (Nat.le_of_ble_eq_true rfl) hlocks (by decide) rfl (Nat.le_of_ble_eq_true rfl) (Nat.le_of_ble_eq_true rfl)
  have HB58 : ∀ (g : g_H)  (H : Heap) (locs : List Loc) (ls : Array Slot), f6_addLane_58 g  = some (rr, gz) → gP base D s g H → va_S (gA base) s.heap H locs → lv_has ls 4 [] → W p l e ({ frames := 7, cells := 3, slots := 18, locals := 111 } : Room) s m args below meth c H locs 2 12 (vx_MQ below (gXi base D rr gz) (gX base D rr gz) args s 3 18 (gA base)) (F0 m 58 ls []) := by
    intro g  H locs ls hF hP hS hl
    unfold f6_addLane_58 at hF
    exact g_throwF hx hb hst hF (text := "there are 24 lanes, or there is a bee") hown hts (by decide +kernel) (hts (.classLink RX6 39 gES) (by decide +kernel)) (hts (.initialized gES) (by decide +kernel)) (by decide +kernel) g_bad3_43 (by decide) g_good3_39_43 (by decide) hE hP hS (hl.1.trans hml.symm) dX6_addLane_58 dX6_addLane_61 dX6_addLane_62 dX6_addLane_64 dX6_addLane_67 ht (Nat.le_of_ble_eq_true rfl) (Nat.le_of_ble_eq_true rfl) (Nat.le_of_ble_eq_true rfl) (Nat.le_of_ble_eq_true rfl) hlocks (by decide) rfl (Nat.le_of_ble_eq_true rfl) (Nat.le_of_ble_eq_true rfl)
  unfold f6_addLane at hF
  refine lv_aload_n hx hb dX6_addLane_0 rfl (lv_at hl 0 rfl) ?_
  refine lv_iload_n hx hb dX6_addLane_1 rfl (lv_at hl 1 rfl) ?_
  obtain ⟨h2, hF⟩ := g_if hF
  obtain ⟨o5, g3, h1, hF⟩ := g_bind2 hF
  refine g_xcallv (vx_runV (As := [.int x1]) (rest := []) ⟨hx, hb, hml, hown, hts⟩ (k6_checkHouse l hst D base g a0 x1 o5 g3 h1) (cwV 1 hts gX6_addLane_X6_checkHouse rfl rfl rfl (by decide +kernel) ⟨Nat.le_of_ble_eq_true rfl, Nat.le_of_ble_eq_true rfl⟩) (gC.preV hE hP hS 6 rfl (by decide) h2 [.int x1]) rfl rfl hl.1 rfl (lv_room (Nat.le_of_ble_eq_true rfl)) dX6_addLane_2 ⟨(Nat.le_of_ble_eq_true rfl), (Nat.le_of_ble_eq_true rfl)⟩) hS ht hlocks (fun h0 => g_thr h0 hF) (Nat.le_of_ble_eq_true rfl) (Nat.le_of_ble_eq_true rfl) (fun H locs h6 hP hS => ?_)
  have hF := g_t h6 hF
  refine lv_aload_n hx hb dX6_addLane_5 rfl (lv_at hl 0 rfl) ?_
  refine lv_iload_n hx hb dX6_addLane_6 rfl (lv_at hl 2 rfl) ?_
  obtain ⟨h8, hF⟩ := g_if hF
  obtain ⟨o11, g9, h7, hF⟩ := g_bind2 hF
  refine g_xcallv (vx_runV (As := [.int x2]) (rest := []) ⟨hx, hb, hml, hown, hts⟩ (k6_checkHouse l hst D base g3 a0 x2 o11 g9 h7) (cwV 1 hts gX6_addLane_X6_checkHouse rfl rfl rfl (by decide +kernel) ⟨Nat.le_of_ble_eq_true rfl, Nat.le_of_ble_eq_true rfl⟩) (gC.preV hE hP hS 6 rfl (by decide) h8 [.int x2]) rfl rfl hl.1 rfl (lv_room (Nat.le_of_ble_eq_true rfl)) dX6_addLane_7 ⟨(Nat.le_of_ble_eq_true rfl), (Nat.le_of_ble_eq_true rfl)⟩) hS ht hlocks (fun h0 => g_thr h0 hF) (Nat.le_of_ble_eq_true rfl) (Nat.le_of_ble_eq_true rfl) (fun H locs h12 hP hS => ?_)
  have hF := g_t h12 hF
  refine lv_iload_n hx hb dX6_addLane_10 rfl (lv_at hl 1 rfl) ?_
  refine lv_iload_n hx hb dX6_addLane_11 rfl (lv_at hl 2 rfl) ?_
  refine lv_icmp_eq (tgt := 26) hx hb dX6_addLane_12 (by decide) (fun c13 => ?_) (fun c13 => ?_)
  · have hF := g_t c13 hF
    exact HB26 _ _ _ _ hF hP hS (lv_sub hl [] rfl)
  · have hF := g_f c13 hF
    refine lv_iload_n hx hb dX6_addLane_15 rfl (lv_at hl 3 rfl) ?_
    refine lv_iconst (v := 1) hx hb dX6_addLane_16 (by decide) ?_
    refine lv_icmp_lt (tgt := 26) hx hb dX6_addLane_17 (by decide) (fun c14 => ?_) (fun c14 => ?_)
    · have hF := g_t c14 hF
      exact HB26 _ _ _ _ hF hP hS (lv_sub hl [] rfl)
    · have hF := g_f c14 hF
      refine lv_iload_n hx hb dX6_addLane_20 rfl (lv_at hl 3 rfl) ?_
      refine lv_bipush (v := 6) hx hb dX6_addLane_21 (by decide) ?_
      refine lv_icmp_le (tgt := 36) hx hb dX6_addLane_23 (by decide) (fun c15 => ?_) (fun c15 => ?_)
      · have hF := g_t c15 hF
        refine lv_aload_n hx hb dX6_addLane_36 rfl (lv_at hl 0 rfl) ?_
        obtain ⟨h16, hF⟩ := g_if hF
        obtain ⟨q17, hq18, hF⟩ := g_bind hF
        refine g_get hx hb hts hiX6 hown hK hP 6 rfl (by decide) h16 0 (by decide) (hts (.fieldLink RX6 10 "CourierBees" "town" "LCourierBees$Town;") (by decide +kernel)) (fun _ h9 => h9) ((gFv_r (by decide)).trans (congrArg va_rf hq18)) dX6_addLane_37 ?_
        obtain ⟨h19, hF⟩ := g_if hF
        refine g_get hx hb hts hiX5 hown hK hP 5 rfl (by decide) h19 1 (by decide) (hts (.fieldLink RX6 63 "CourierBees$Town" "laneCount" "I") (by decide +kernel)) (fun _ h9 => h9) (gFv_i (Or.inl rfl)) dX6_addLane_40 ?_
        refine lv_bipush (v := 24) hx hb dX6_addLane_43 (by decide) ?_
        refine lv_icmp_ge (tgt := 58) hx hb dX6_addLane_45 (by decide) (fun c20 => ?_) (fun c20 => ?_)
        · have hF := g_t c20 hF
          exact HB58 _ _ _ _ hF hP hS (lv_sub hl [] rfl)
        · have hF := g_f c20 hF
          refine lv_aload_n hx hb dX6_addLane_48 rfl (lv_at hl 0 rfl) ?_
          obtain ⟨q21, hq22, hF⟩ := g_bind hF
          refine g_get hx hb hts hiX6 hown hK hP 6 rfl (by decide) h16 1 (by decide) (hts (.fieldLink RX6 21 "CourierBees" "now" "LCourierBees$Flight;") (by decide +kernel)) (fun _ h9 => h9) ((gFv_r (by decide)).trans (congrArg va_rf hq22)) dX6_addLane_49 ?_
          obtain ⟨h23, hF⟩ := g_if hF
          refine g_get hx hb hts hiX1 hown hK hP 1 rfl (by decide) h23 3 (by decide) (hts (.fieldLink RX6 66 "CourierBees$Flight" "beeCount" "I") (by decide +kernel)) (fun _ h9 => h9) (gFv_i (Or.inl rfl)) dX6_addLane_52 ?_
          refine lv_if_le (tgt := 68) hx hb dX6_addLane_55 (by decide) (fun c24 => ?_) (fun c24 => ?_)
          · have hF := g_t c24 hF
            refine lv_aload_n hx hb dX6_addLane_68 rfl (lv_at hl 0 rfl) ?_
            obtain ⟨q25, hq26, hF⟩ := g_bind hF
            refine g_get hx hb hts hiX6 hown hK hP 6 rfl (by decide) h16 0 (by decide) (hts (.fieldLink RX6 10 "CourierBees" "town" "LCourierBees$Town;") (by decide +kernel)) (fun _ h9 => h9) ((gFv_r (by decide)).trans (congrArg va_rf hq26)) dX6_addLane_69 ?_
            refine lv_iload_n hx hb dX6_addLane_72 rfl (lv_at hl 1 rfl) ?_
            refine lv_iload_n hx hb dX6_addLane_73 rfl (lv_at hl 2 rfl) ?_
            refine lv_iload_n hx hb dX6_addLane_74 rfl (lv_at hl 3 rfl) ?_
            obtain ⟨h28, hF⟩ := g_if hF
            obtain ⟨v30, g29, h27, hF⟩ := g_bind2 hF
            refine g_calli (va_runV (As := [.int x1, .int x2, .int x3]) (rest := []) ⟨hx, hb, hml, hown, hts⟩ (k5_join l D base g9 q25 x1 x2 x3 v30 g29 h27) (cwV 3 hts gX6_addLane_X5_join rfl rfl rfl (by decide +kernel) ⟨Nat.le_of_ble_eq_true rfl, Nat.le_of_ble_eq_true rfl⟩) (gC.preV hE hP hS 5 rfl (by decide) h28 [.int x1, .int x2, .int x3]) rfl rfl hl.1 rfl (lv_room (Nat.le_of_ble_eq_true rfl)) dX6_addLane_75 ⟨(Nat.le_of_ble_eq_true rfl), (Nat.le_of_ble_eq_true rfl)⟩) hS (fun H locs hP hS => ?_)
            exact g_xretI hx hb hr hlocks hF hP hS (Nat.le_of_ble_eq_true rfl) (Nat.le_of_ble_eq_true rfl) dX6_addLane_78
          · have hF := g_f c24 hF
            exact HB58 _ _ _ _ hF hP hS (lv_sub hl [] rfl)
      · have hF := g_f c15 hF
        exact HB26 _ _ _ _ hF hP hS (lv_sub hl [] rfl)
set_option maxHeartbeats 4000000 in
set_option maxRecDepth 100000 in
theorem k6_setGate (l : Launch) (hst : l.stackTraces = false) (D : va_G) (base : Nat) (g : g_H) (a0 : Nat) (x1 : Int32) (x2 : Int32) (x3 : Int32) (rr : Nat × Int32) (gz : g_H) (hF : f6_setGate g a0 x1 x2 x3 = some (rr, gz)) : vx_Met l yX6_setGate wsX6_setGate ({ frames := 6, cells := 1, slots := 6, locals := 90 } : Room) (va_Pc [.ref a0, .int x1, .int x2, .int x3] (gC base D g)) (gXi base D rr gz) (gX base D rr gz) 1 6 (gA base) := by
  refine g_xmet (cc := cX6_setGate) (maxL := 6) (ret := (some .int)) (lst := [(0, .ref a0), (1, .int x1), (2, .int x2), (3, .int x3)]) (by decide) rfl (Nat.le_of_ble_eq_true rfl) rfl ?_
  intro p e s m args below meth c ls hx hb hr hml hown hlocks hname hts hE hP hl ht
  have hown : s.vm.findClass RX6 = some m.cls := hown
  have hK := hE.1
  have hov := hE.2.2.2.2.2.2.2.1
  have hbz := hE.2.2.2.2.2.2.2.2.2.2.2.2
  have hS : va_S (gA base) s.heap s.heap [] := va_S.rf
  have hiX2 : ∀ w ∈ wsX20, w ∈ wsX6_setGate := by decide +kernel
  have hiX5 : ∀ w ∈ wsX50, w ∈ wsX6_setGate := by decide +kernel
  have hiX6 : ∀ w ∈ wsX60, w ∈ wsX6_setGate := by decide +kernel
  have HB42 : ∀ (g : g_H)  (H : Heap) (locs : List Loc) (ls : Array Slot), f6_setGate_42 g  = some (rr, gz) → gP base D s g H → va_S (gA base) s.heap H locs → lv_has ls 6 [] → W p l e ({ frames := 6, cells := 1, slots := 6, locals := 90 } : Room) s m args below meth c H locs 0 0 (vx_MQ below (gXi base D rr gz) (gX base D rr gz) args s 1 6 (gA base)) (F0 m 42 ls []) := by
    intro g  H locs ls hF hP hS hl
    unfold f6_setGate_42 at hF
    exact g_throwF hx hb hst hF (text := "no gate can be open like this") hown hts (by decide +kernel) (hts (.classLink RX6 58 gEA) (by decide +kernel)) (hts (.initialized gEA) (by decide +kernel)) (by decide +kernel) g_bad2_62 (by decide) g_good2_58_62 (by decide) hE hP hS (hl.1.trans hml.symm) dX6_setGate_42 dX6_setGate_45 dX6_setGate_46 dX6_setGate_48 dX6_setGate_51 ht (Nat.le_of_ble_eq_true rfl) (Nat.le_of_ble_eq_true rfl) (Nat.le_of_ble_eq_true rfl) (Nat.le_of_ble_eq_true rfl) hlocks (by decide) rfl (Nat.le_of_ble_eq_true rfl) (Nat.le_of_ble_eq_true rfl)
  unfold f6_setGate at hF
  refine lv_aload_n hx hb dX6_setGate_0 rfl (lv_at hl 0 rfl) ?_
  obtain ⟨h1, hF⟩ := g_if hF
  obtain ⟨q2, hq3, hF⟩ := g_bind hF
  refine g_get hx hb hts hiX6 hown hK hP 6 rfl (by decide) h1 0 (by decide) (hts (.fieldLink RX6 10 "CourierBees" "town" "LCourierBees$Town;") (by decide +kernel)) (fun _ h9 => h9) ((gFv_r (by decide)).trans (congrArg va_rf hq3)) dX6_setGate_1 ?_
  refine lv_iload_n hx hb dX6_setGate_4 rfl (lv_at hl 1 rfl) ?_
  obtain ⟨h5, hF⟩ := g_if hF
  obtain ⟨v7, g6, h4, hF⟩ := g_bind2 hF
  refine g_calli (va_runV (As := [.int x1]) (rest := []) ⟨hx, hb, hml, hown, hts⟩ (k5_hasLane l D base g q2 x1 v7 g6 h4) (cwV 1 hts gX6_setGate_X5_hasLane rfl rfl rfl (by decide +kernel) ⟨Nat.le_of_ble_eq_true rfl, Nat.le_of_ble_eq_true rfl⟩) (gC.preV hE hP hS 5 rfl (by decide) h5 [.int x1]) rfl rfl hl.1 rfl (lv_room (Nat.le_of_ble_eq_true rfl)) dX6_setGate_5 ⟨(Nat.le_of_ble_eq_true rfl), (Nat.le_of_ble_eq_true rfl)⟩) hS (fun H locs hP hS => ?_)
  refine lv_if_ne (tgt := 21) hx hb dX6_setGate_8 (by decide) (fun c8 => ?_) (fun c8 => ?_)
  · have hF := g_f c8 hF
    refine lv_iload_n hx hb dX6_setGate_21 rfl (lv_at hl 2 rfl) ?_
    refine lv_if_lt (tgt := 42) hx hb dX6_setGate_22 (by decide) (fun c9 => ?_) (fun c9 => ?_)
    · have hF := g_t c9 hF
      exact HB42 _ _ _ _ hF hP hS (lv_sub hl [] rfl)
    · have hF := g_f c9 hF
      refine lv_iload_n hx hb dX6_setGate_25 rfl (lv_at hl 2 rfl) ?_
      refine lv_bipush (v := 24) hx hb dX6_setGate_26 (by decide) ?_
      refine lv_icmp_ge (tgt := 42) hx hb dX6_setGate_28 (by decide) (fun c10 => ?_) (fun c10 => ?_)
      · have hF := g_t c10 hF
        exact HB42 _ _ _ _ hF hP hS (lv_sub hl [] rfl)
      · have hF := g_f c10 hF
        refine lv_iload_n hx hb dX6_setGate_31 rfl (lv_at hl 3 rfl) ?_
        refine lv_iload_n hx hb dX6_setGate_32 rfl (lv_at hl 2 rfl) ?_
        refine lv_icmp_lt (tgt := 42) hx hb dX6_setGate_33 (by decide) (fun c11 => ?_) (fun c11 => ?_)
        · have hF := g_t c11 hF
          exact HB42 _ _ _ _ hF hP hS (lv_sub hl [] rfl)
        · have hF := g_f c11 hF
          refine lv_iload_n hx hb dX6_setGate_36 rfl (lv_at hl 3 rfl) ?_
          refine lv_bipush (v := 24) hx hb dX6_setGate_37 (by decide) ?_
          refine lv_icmp_le (tgt := 52) hx hb dX6_setGate_39 (by decide) (fun c12 => ?_) (fun c12 => ?_)
          · have hF := g_t c12 hF
            refine lv_aload_n hx hb dX6_setGate_52 rfl (lv_at hl 0 rfl) ?_
            obtain ⟨h13, hF⟩ := g_if hF
            obtain ⟨q14, hq15, hF⟩ := g_bind hF
            refine g_get hx hb hts hiX6 hown hK hP 6 rfl (by decide) h13 0 (by decide) (hts (.fieldLink RX6 10 "CourierBees" "town" "LCourierBees$Town;") (by decide +kernel)) (fun _ h9 => h9) ((gFv_r (by decide)).trans (congrArg va_rf hq15)) dX6_setGate_53 ?_
            obtain ⟨h16, hF⟩ := g_if hF
            obtain ⟨q17, hq18, hF⟩ := g_bind hF
            refine g_get hx hb hts hiX5 hown hK hP 5 rfl (by decide) h16 3 (by decide) (hts (.fieldLink RX6 85 "CourierBees$Town" "lanes" "[LCourierBees$Lane;") (by decide +kernel)) (fun _ h9 => h9) ((gFv_r (by decide)).trans (congrArg va_rf hq18)) dX6_setGate_56 ?_
            refine lv_iload_n hx hb dX6_setGate_59 rfl (lv_at hl 1 rfl) ?_
            obtain ⟨h19, hF⟩ := g_if hF
            obtain ⟨h20, hF⟩ := g_if hF
            obtain ⟨q21, hq22, hF⟩ := g_bind hF
            refine g_aald hx hb hP (g_pr h19) (by decide) h20 hq22 dX6_setGate_60 ?_
            refine lv_astore (lv' := [(4, .ref q21), (0, .ref a0), (1, .int x1), (2, .int x2), (3, .int x3)]) hx hb dX6_setGate_61 hl (by decide) rfl (fun ls hl => ?_)
            refine lv_bipush (v := 100) hx hb dX6_setGate_63 (by decide) ?_
            refine lv_aload hx hb dX6_setGate_65 (lv_at hl 0 rfl) ?_
            obtain ⟨h23, hF⟩ := g_if hF
            refine g_get hx hb hts hiX2 hown hK hP 2 rfl (by decide) h23 3 (by decide) (hts (.fieldLink RX6 89 "CourierBees$Lane" "from" "I") (by decide +kernel)) (fun _ h9 => h9) (gFv_i (Or.inl rfl)) dX6_setGate_67 ?_
            refine lv_imul hx hb dX6_setGate_70 ?_
            refine lv_aload hx hb dX6_setGate_71 (lv_at hl 0 rfl) ?_
            refine g_get hx hb hts hiX2 hown hK hP 2 rfl (by decide) h23 4 (by decide) (hts (.fieldLink RX6 94 "CourierBees$Lane" "till" "I") (by decide +kernel)) (fun _ h9 => h9) (gFv_i (Or.inl rfl)) dX6_setGate_73 ?_
            refine lv_iadd hx hb dX6_setGate_76 ?_
            refine lv_istore (lv' := [(5, .int ((((100 : Int32)) * (gI g6 q21 3)) + (gI g6 q21 4))), (4, .ref q21), (0, .ref a0), (1, .int x1), (2, .int x2), (3, .int x3)]) hx hb dX6_setGate_77 hl (by decide) rfl (fun ls hl => ?_)
            refine lv_aload hx hb dX6_setGate_79 (lv_at hl 1 rfl) ?_
            refine lv_iload_n hx hb dX6_setGate_81 rfl (lv_at hl 4 rfl) ?_
            refine g_puti hx hb hts hiX2 tyX2 tyX2_ok nmX2 hown hK hP hS 2 rfl (by decide) h23 3 (by decide) (hts (.fieldLink RX6 89 "CourierBees$Lane" "from" "I") (by decide +kernel)) (fun _ h9 => h9) (Or.inl rfl) (Or.inl rfl) rfl rfl dX6_setGate_82 (fun H locs hP hS => ?_)
            refine lv_aload hx hb dX6_setGate_85 (lv_at hl 1 rfl) ?_
            refine lv_iload_n hx hb dX6_setGate_87 rfl (lv_at hl 5 rfl) ?_
            refine g_puti hx hb hts hiX2 tyX2 tyX2_ok nmX2 hown hK hP hS 2 rfl (by decide) h23 4 (by decide) (hts (.fieldLink RX6 94 "CourierBees$Lane" "till" "I") (by decide +kernel)) (fun _ h9 => h9) (Or.inl rfl) (Or.inl rfl) rfl rfl dX6_setGate_88 (fun H locs hP hS => ?_)
            refine lv_iload hx hb dX6_setGate_91 (lv_at hl 0 rfl) ?_
            exact g_xretI hx hb hr hlocks hF hP hS (Nat.le_of_ble_eq_true rfl) (Nat.le_of_ble_eq_true rfl) dX6_setGate_93
          · have hF := g_f c12 hF
            exact HB42 _ _ _ _ hF hP hS (lv_sub hl [] rfl)
  · have hF := g_t c8 hF
    exact g_throwF hx hb hst hF (text := "no such lane") hown hts (by decide +kernel) (hts (.classLink RX6 78 gEI) (by decide +kernel)) (hts (.initialized gEI) (by decide +kernel)) (by decide +kernel) g_bad1_82 (by decide) g_good1_78_82 (by decide) hE hP hS (hl.1.trans hml.symm) dX6_setGate_11 dX6_setGate_14 dX6_setGate_15 dX6_setGate_17 dX6_setGate_20 ht (Nat.le_of_ble_eq_true rfl) (Nat.le_of_ble_eq_true rfl) (Nat.le_of_ble_eq_true rfl) (Nat.le_of_ble_eq_true rfl) hlocks (by decide) rfl (Nat.le_of_ble_eq_true rfl) (Nat.le_of_ble_eq_true rfl)
set_option maxHeartbeats 4000000 in
set_option maxRecDepth 100000 in
theorem k6_way (l : Launch) (hst : l.stackTraces = false) (D : va_G) (base : Nat) (g : g_H) (a0 : Nat) (x1 : Int32) (x2 : Int32) (rr : Nat × Int32) (gz : g_H) (hF : f6_way g a0 x1 x2 = some (rr, gz)) : vx_Met l yX6_way wsX6_way ({ frames := 7, cells := 2, slots := 12, locals := 111 } : Room) (va_Pc [.ref a0, .int x1, .int x2] (gC base D g)) (gXi base D rr gz) (gX base D rr gz) 2 12 (gA base) := by
  refine g_xmet (cc := cX6_way) (maxL := 4) (ret := (some .int)) (lst := [(0, .ref a0), (1, .int x1), (2, .int x2)]) (by decide) rfl (Nat.le_of_ble_eq_true rfl) rfl ?_
  intro p e s m args below meth c ls hx hb hr hml hown hlocks hname hts hE hP hl ht
  have hown : s.vm.findClass RX6 = some m.cls := hown
  have hK := hE.1
  have hov := hE.2.2.2.2.2.2.2.1
  have hbz := hE.2.2.2.2.2.2.2.2.2.2.2.2
  have hS : va_S (gA base) s.heap s.heap [] := va_S.rf
  have hiX6 : ∀ w ∈ wsX60, w ∈ wsX6_way := by decide +kernel
  unfold f6_way at hF
  refine lv_aload_n hx hb dX6_way_0 rfl (lv_at hl 0 rfl) ?_
  refine lv_iload_n hx hb dX6_way_1 rfl (lv_at hl 1 rfl) ?_
  obtain ⟨h2, hF⟩ := g_if hF
  obtain ⟨o5, g3, h1, hF⟩ := g_bind2 hF
  refine g_xcallv (vx_runV (As := [.int x1]) (rest := []) ⟨hx, hb, hml, hown, hts⟩ (k6_checkHouse l hst D base g a0 x1 o5 g3 h1) (cwV 1 hts gX6_way_X6_checkHouse rfl rfl rfl (by decide +kernel) ⟨Nat.le_of_ble_eq_true rfl, Nat.le_of_ble_eq_true rfl⟩) (gC.preV hE hP hS 6 rfl (by decide) h2 [.int x1]) rfl rfl hl.1 rfl (lv_room (Nat.le_of_ble_eq_true rfl)) dX6_way_2 ⟨(Nat.le_of_ble_eq_true rfl), (Nat.le_of_ble_eq_true rfl)⟩) hS ht hlocks (fun h0 => g_thr h0 hF) (Nat.le_of_ble_eq_true rfl) (Nat.le_of_ble_eq_true rfl) (fun H locs h6 hP hS => ?_)
  have hF := g_t h6 hF
  refine lv_aload_n hx hb dX6_way_5 rfl (lv_at hl 0 rfl) ?_
  refine lv_iload_n hx hb dX6_way_6 rfl (lv_at hl 2 rfl) ?_
  obtain ⟨h8, hF⟩ := g_if hF
  obtain ⟨o11, g9, h7, hF⟩ := g_bind2 hF
  refine g_xcallv (vx_runV (As := [.int x2]) (rest := []) ⟨hx, hb, hml, hown, hts⟩ (k6_checkHouse l hst D base g3 a0 x2 o11 g9 h7) (cwV 1 hts gX6_way_X6_checkHouse rfl rfl rfl (by decide +kernel) ⟨Nat.le_of_ble_eq_true rfl, Nat.le_of_ble_eq_true rfl⟩) (gC.preV hE hP hS 6 rfl (by decide) h8 [.int x2]) rfl rfl hl.1 rfl (lv_room (Nat.le_of_ble_eq_true rfl)) dX6_way_7 ⟨(Nat.le_of_ble_eq_true rfl), (Nat.le_of_ble_eq_true rfl)⟩) hS ht hlocks (fun h0 => g_thr h0 hF) (Nat.le_of_ble_eq_true rfl) (Nat.le_of_ble_eq_true rfl) (fun H locs h12 hP hS => ?_)
  have hF := g_t h12 hF
  refine lv_aload_n hx hb dX6_way_10 rfl (lv_at hl 0 rfl) ?_
  obtain ⟨h13, hF⟩ := g_if hF
  obtain ⟨q14, hq15, hF⟩ := g_bind hF
  refine g_get hx hb hts hiX6 hown hK hP 6 rfl (by decide) h13 0 (by decide) (hts (.fieldLink RX6 10 "CourierBees" "town" "LCourierBees$Town;") (by decide +kernel)) (fun _ h9 => h9) ((gFv_r (by decide)).trans (congrArg va_rf hq15)) dX6_way_11 ?_
  refine lv_iload_n hx hb dX6_way_14 rfl (lv_at hl 1 rfl) ?_
  refine lv_iload_n hx hb dX6_way_15 rfl (lv_at hl 2 rfl) ?_
  obtain ⟨h17, hF⟩ := g_if hF
  obtain ⟨v19, g18, h16, hF⟩ := g_bind2 hF
  refine g_calli (va_runV (As := [.int x1, .int x2]) (rest := []) ⟨hx, hb, hml, hown, hts⟩ (k5_wayBetween l D base g9 q14 x1 x2 v19 g18 h16) (cwV 2 hts gX6_way_X5_wayBetween rfl rfl rfl (by decide +kernel) ⟨Nat.le_of_ble_eq_true rfl, Nat.le_of_ble_eq_true rfl⟩) (gC.preV hE hP hS 5 rfl (by decide) h17 [.int x1, .int x2]) rfl rfl hl.1 rfl (lv_room (Nat.le_of_ble_eq_true rfl)) dX6_way_16 ⟨(Nat.le_of_ble_eq_true rfl), (Nat.le_of_ble_eq_true rfl)⟩) hS (fun H locs hP hS => ?_)
  refine lv_istore_n (lv' := [(3, .int v19), (0, .ref a0), (1, .int x1), (2, .int x2)]) hx hb dX6_way_19 rfl hl (by decide) rfl (fun ls hl => ?_)
  refine lv_iload_n hx hb dX6_way_20 rfl (lv_at hl 0 rfl) ?_
  refine lv_sipush (v := 1000) hx hb dX6_way_21 (by decide) ?_
  refine lv_icmp_ge (tgt := 31) hx hb dX6_way_24 (by decide) (fun c20 => ?_) (fun c20 => ?_)
  · have hF := g_t c20 hF
    refine lv_iconst (v := (-1)) hx hb dX6_way_31 (by decide) ?_
    exact g_xretI hx hb hr hlocks hF hP hS (Nat.le_of_ble_eq_true rfl) (Nat.le_of_ble_eq_true rfl) dX6_way_32
  · have hF := g_f c20 hF
    refine lv_iload_n hx hb dX6_way_27 rfl (lv_at hl 0 rfl) ?_
    refine lv_goto (tgt := 32) hx hb dX6_way_28 (by decide) ?_
    exact g_xretI hx hb hr hlocks hF hP hS (Nat.le_of_ble_eq_true rfl) (Nat.le_of_ble_eq_true rfl) dX6_way_32
set_option maxHeartbeats 4000000 in
set_option maxRecDepth 100000 in
theorem k6_checkRoute (l : Launch) (hst : l.stackTraces = false) (D : va_G) (base : Nat) (g : g_H) (a0 : Nat) (x1 : Int32) (rr : Nat × Int32) (gz : g_H) (hF : f6_checkRoute g a0 x1 = some (rr, gz)) : vx_Met l yX6_checkRoute wsX6_checkRoute ({ frames := 6, cells := 1, slots := 6, locals := 113 } : Room) (va_Pc [.ref a0, .int x1] (gC base D g)) (gXv base D rr gz) (gX base D rr gz) 1 6 (gA base) := by
  refine g_xmet (cc := cX6_checkRoute) (maxL := 2) (ret := none) (lst := [(0, .ref a0), (1, .int x1)]) (by decide) rfl (Nat.le_of_ble_eq_true rfl) rfl ?_
  intro p e s m args below meth c ls hx hb hr hml hown hlocks hname hts hE hP hl ht
  have hown : s.vm.findClass RX6 = some m.cls := hown
  have hK := hE.1
  have hov := hE.2.2.2.2.2.2.2.1
  have hbz := hE.2.2.2.2.2.2.2.2.2.2.2.2
  have hS : va_S (gA base) s.heap s.heap [] := va_S.rf
  have hiX6 : ∀ w ∈ wsX60, w ∈ wsX6_checkRoute := by decide +kernel
  unfold f6_checkRoute at hF
  refine lv_aload_n hx hb dX6_checkRoute_0 rfl (lv_at hl 0 rfl) ?_
  obtain ⟨h1, hF⟩ := g_if hF
  obtain ⟨q2, hq3, hF⟩ := g_bind hF
  refine g_get hx hb hts hiX6 hown hK hP 6 rfl (by decide) h1 3 (by decide) (hts (.fieldLink RX6 31 "CourierBees" "draft" "LCourierBees$Route;") (by decide +kernel)) (fun _ h9 => h9) ((gFv_r (by decide)).trans (congrArg va_rf hq3)) dX6_checkRoute_1 ?_
  refine lv_iload_n hx hb dX6_checkRoute_4 rfl (lv_at hl 1 rfl) ?_
  refine lv_aload_n hx hb dX6_checkRoute_5 rfl (lv_at hl 0 rfl) ?_
  obtain ⟨q4, hq5, hF⟩ := g_bind hF
  refine g_get hx hb hts hiX6 hown hK hP 6 rfl (by decide) h1 0 (by decide) (hts (.fieldLink RX6 10 "CourierBees" "town" "LCourierBees$Town;") (by decide +kernel)) (fun _ h9 => h9) ((gFv_r (by decide)).trans (congrArg va_rf hq5)) dX6_checkRoute_6 ?_
  obtain ⟨h7, hF⟩ := g_if hF
  obtain ⟨v9, g8, h6, hF⟩ := g_bind2 hF
  refine g_calli (va_runV (As := [.int x1, .ref q4]) (rest := []) ⟨hx, hb, hml, hown, hts⟩ (k4_read l D base g q2 x1 q4 v9 g8 h6) (cwV 2 hts gX6_checkRoute_X4_read rfl rfl rfl (by decide +kernel) ⟨Nat.le_of_ble_eq_true rfl, Nat.le_of_ble_eq_true rfl⟩) (gC.preV hE hP hS 4 rfl (by decide) h7 [.int x1, .ref q4]) rfl rfl hl.1 rfl (lv_room (Nat.le_of_ble_eq_true rfl)) dX6_checkRoute_9 ⟨(Nat.le_of_ble_eq_true rfl), (Nat.le_of_ble_eq_true rfl)⟩) hS (fun H locs hP hS => ?_)
  refine lv_if_ne (tgt := 25) hx hb dX6_checkRoute_12 (by decide) (fun c10 => ?_) (fun c10 => ?_)
  · have hF := g_f c10 hF
    exact g_xretV hx hb hr hlocks hF hP hS (Nat.le_of_ble_eq_true rfl) (Nat.le_of_ble_eq_true rfl) dX6_checkRoute_25
  · have hF := g_t c10 hF
    exact g_throwF hx hb hst hF (text := "no such route") hown hts (by decide +kernel) (hts (.classLink RX6 58 gEA) (by decide +kernel)) (hts (.initialized gEA) (by decide +kernel)) (by decide +kernel) g_bad2_62 (by decide) g_good2_58_62 (by decide) hE hP hS (hl.1.trans hml.symm) dX6_checkRoute_15 dX6_checkRoute_18 dX6_checkRoute_19 dX6_checkRoute_21 dX6_checkRoute_24 ht (Nat.le_of_ble_eq_true rfl) (Nat.le_of_ble_eq_true rfl) (Nat.le_of_ble_eq_true rfl) (Nat.le_of_ble_eq_true rfl) hlocks (by decide) rfl (Nat.le_of_ble_eq_true rfl) (Nat.le_of_ble_eq_true rfl)
set_option maxHeartbeats 4000000 in
set_option maxRecDepth 100000 in
theorem k6_addBee (l : Launch) (hst : l.stackTraces = false) (D : va_G) (base : Nat) (g : g_H) (a0 : Nat) (x1 : Int32) (rr : Nat × Int32) (gz : g_H) (hF : f6_addBee g a0 x1 = some (rr, gz)) : vx_Met l yX6_addBee wsX6_addBee ({ frames := 7, cells := 2, slots := 12, locals := 134 } : Room) (va_Pc [.ref a0, .int x1] (gC base D g)) (gXi base D rr gz) (gX base D rr gz) 2 12 (gA base) := by
  refine g_xmet (cc := cX6_addBee) (maxL := 2) (ret := (some .int)) (lst := [(0, .ref a0), (1, .int x1)]) (by decide) rfl (Nat.le_of_ble_eq_true rfl) rfl ?_
  intro p e s m args below meth c ls hx hb hr hml hown hlocks hname hts hE hP hl ht
  have hown : s.vm.findClass RX6 = some m.cls := hown
  have hK := hE.1
  have hov := hE.2.2.2.2.2.2.2.1
  have hbz := hE.2.2.2.2.2.2.2.2.2.2.2.2
  have hS : va_S (gA base) s.heap s.heap [] := va_S.rf
  have hiX1 : ∀ w ∈ wsX10, w ∈ wsX6_addBee := by decide +kernel
  have hiX6 : ∀ w ∈ wsX60, w ∈ wsX6_addBee := by decide +kernel
  unfold f6_addBee at hF
  refine lv_aload_n hx hb dX6_addBee_0 rfl (lv_at hl 0 rfl) ?_
  refine lv_iload_n hx hb dX6_addBee_1 rfl (lv_at hl 1 rfl) ?_
  obtain ⟨h2, hF⟩ := g_if hF
  obtain ⟨o5, g3, h1, hF⟩ := g_bind2 hF
  refine g_xcallv (vx_runV (As := [.int x1]) (rest := []) ⟨hx, hb, hml, hown, hts⟩ (k6_checkRoute l hst D base g a0 x1 o5 g3 h1) (cwV 1 hts gX6_addBee_X6_checkRoute rfl rfl rfl (by decide +kernel) ⟨Nat.le_of_ble_eq_true rfl, Nat.le_of_ble_eq_true rfl⟩) (gC.preV hE hP hS 6 rfl (by decide) h2 [.int x1]) rfl rfl hl.1 rfl (lv_room (Nat.le_of_ble_eq_true rfl)) dX6_addBee_2 ⟨(Nat.le_of_ble_eq_true rfl), (Nat.le_of_ble_eq_true rfl)⟩) hS ht hlocks (fun h0 => g_thr h0 hF) (Nat.le_of_ble_eq_true rfl) (Nat.le_of_ble_eq_true rfl) (fun H locs h6 hP hS => ?_)
  have hF := g_t h6 hF
  refine lv_aload_n hx hb dX6_addBee_5 rfl (lv_at hl 0 rfl) ?_
  obtain ⟨h7, hF⟩ := g_if hF
  obtain ⟨q8, hq9, hF⟩ := g_bind hF
  refine g_get hx hb hts hiX6 hown hK hP 6 rfl (by decide) h7 1 (by decide) (hts (.fieldLink RX6 21 "CourierBees" "now" "LCourierBees$Flight;") (by decide +kernel)) (fun _ h9 => h9) ((gFv_r (by decide)).trans (congrArg va_rf hq9)) dX6_addBee_6 ?_
  obtain ⟨h10, hF⟩ := g_if hF
  refine g_get hx hb hts hiX1 hown hK hP 1 rfl (by decide) h10 3 (by decide) (hts (.fieldLink RX6 66 "CourierBees$Flight" "beeCount" "I") (by decide +kernel)) (fun _ h9 => h9) (gFv_i (Or.inl rfl)) dX6_addBee_9 ?_
  refine lv_bipush (v := 6) hx hb dX6_addBee_12 (by decide) ?_
  refine lv_icmp_lt (tgt := 27) hx hb dX6_addBee_14 (by decide) (fun c11 => ?_) (fun c11 => ?_)
  · have hF := g_t c11 hF
    refine lv_aload_n hx hb dX6_addBee_27 rfl (lv_at hl 0 rfl) ?_
    obtain ⟨q12, hq13, hF⟩ := g_bind hF
    refine g_get hx hb hts hiX6 hown hK hP 6 rfl (by decide) h7 1 (by decide) (hts (.fieldLink RX6 21 "CourierBees" "now" "LCourierBees$Flight;") (by decide +kernel)) (fun _ h9 => h9) ((gFv_r (by decide)).trans (congrArg va_rf hq13)) dX6_addBee_28 ?_
    obtain ⟨h14, hF⟩ := g_if hF
    obtain ⟨q15, hq16, hF⟩ := g_bind hF
    refine g_get hx hb hts hiX1 hown hK hP 1 rfl (by decide) h14 1 (by decide) (hts (.fieldLink RX6 106 "CourierBees$Flight" "bees" "[LCourierBees$Bee;") (by decide +kernel)) (fun _ h9 => h9) ((gFv_r (by decide)).trans (congrArg va_rf hq16)) dX6_addBee_31 ?_
    refine lv_aload_n hx hb dX6_addBee_34 rfl (lv_at hl 0 rfl) ?_
    obtain ⟨q17, hq18, hF⟩ := g_bind hF
    refine g_get hx hb hts hiX6 hown hK hP 6 rfl (by decide) h7 1 (by decide) (hts (.fieldLink RX6 21 "CourierBees" "now" "LCourierBees$Flight;") (by decide +kernel)) (fun _ h9 => h9) ((gFv_r (by decide)).trans (congrArg va_rf hq18)) dX6_addBee_35 ?_
    obtain ⟨h19, hF⟩ := g_if hF
    refine g_get hx hb hts hiX1 hown hK hP 1 rfl (by decide) h19 3 (by decide) (hts (.fieldLink RX6 66 "CourierBees$Flight" "beeCount" "I") (by decide +kernel)) (fun _ h9 => h9) (gFv_i (Or.inl rfl)) dX6_addBee_38 ?_
    obtain ⟨h20, hF⟩ := g_if hF
    obtain ⟨h21, hF⟩ := g_if hF
    obtain ⟨q22, hq23, hF⟩ := g_bind hF
    refine g_aald hx hb hP (g_pr h20) (by decide) h21 hq23 dX6_addBee_41 ?_
    refine lv_aload_n hx hb dX6_addBee_42 rfl (lv_at hl 0 rfl) ?_
    obtain ⟨q24, hq25, hF⟩ := g_bind hF
    refine g_get hx hb hts hiX6 hown hK hP 6 rfl (by decide) h7 3 (by decide) (hts (.fieldLink RX6 31 "CourierBees" "draft" "LCourierBees$Route;") (by decide +kernel)) (fun _ h9 => h9) ((gFv_r (by decide)).trans (congrArg va_rf hq25)) dX6_addBee_43 ?_
    obtain ⟨h27, hF⟩ := g_if hF
    obtain ⟨g28, h26, hF⟩ := g_bind hF
    refine g_callv (va_runV (As := [.ref q24]) (rest := []) ⟨hx, hb, hml, hown, hts⟩ (k0_hatch l D base g3 q22 q24 g28 h26) (cwV 1 hts gX6_addBee_X0_hatch rfl rfl rfl (by decide +kernel) ⟨Nat.le_of_ble_eq_true rfl, Nat.le_of_ble_eq_true rfl⟩) (gC.preV hE hP hS 0 rfl (by decide) h27 [.ref q24]) rfl rfl hl.1 rfl (lv_room (Nat.le_of_ble_eq_true rfl)) dX6_addBee_46 ⟨(Nat.le_of_ble_eq_true rfl), (Nat.le_of_ble_eq_true rfl)⟩) hS (fun H locs hP hS => ?_)
    refine lv_aload_n hx hb dX6_addBee_49 rfl (lv_at hl 0 rfl) ?_
    obtain ⟨h30, hF⟩ := g_if hF
    obtain ⟨q31, hq32, hF⟩ := g_bind hF
    refine g_get hx hb hts hiX6 hown hK hP 6 rfl (by decide) h30 1 (by decide) (hts (.fieldLink RX6 21 "CourierBees" "now" "LCourierBees$Flight;") (by decide +kernel)) (fun _ h9 => h9) ((gFv_r (by decide)).trans (congrArg va_rf hq32)) dX6_addBee_50 ?_
    refine lv_dup hx hb dX6_addBee_53 rfl ?_
    obtain ⟨h33, hF⟩ := g_if hF
    refine g_get hx hb hts hiX1 hown hK hP 1 rfl (by decide) h33 3 (by decide) (hts (.fieldLink RX6 66 "CourierBees$Flight" "beeCount" "I") (by decide +kernel)) (fun _ h9 => h9) (gFv_i (Or.inl rfl)) dX6_addBee_54 ?_
    refine lv_dup_x1 hx hb dX6_addBee_57 rfl rfl ?_
    refine lv_iconst (v := 1) hx hb dX6_addBee_58 (by decide) ?_
    refine lv_iadd hx hb dX6_addBee_59 ?_
    obtain ⟨y34, e35, hF⟩ := g_let hF
    rw [e35]
    refine g_puti hx hb hts hiX1 tyX1 tyX1_ok nmX1 hown hK hP hS 1 rfl (by decide) h33 3 (by decide) (hts (.fieldLink RX6 66 "CourierBees$Flight" "beeCount" "I") (by decide +kernel)) (fun _ h9 => h9) (Or.inl rfl) (Or.inl rfl) rfl rfl dX6_addBee_60 (fun H locs hP hS => ?_)
    exact g_xretI hx hb hr hlocks hF hP hS (Nat.le_of_ble_eq_true rfl) (Nat.le_of_ble_eq_true rfl) dX6_addBee_63
  · have hF := g_f c11 hF
    exact g_throwF hx hb hst hF (text := "there are 6 bees") hown hts (by decide +kernel) (hts (.classLink RX6 39 gES) (by decide +kernel)) (hts (.initialized gES) (by decide +kernel)) (by decide +kernel) g_bad3_43 (by decide) g_good3_39_43 (by decide) hE hP hS (hl.1.trans hml.symm) dX6_addBee_17 dX6_addBee_20 dX6_addBee_21 dX6_addBee_23 dX6_addBee_26 ht (Nat.le_of_ble_eq_true rfl) (Nat.le_of_ble_eq_true rfl) (Nat.le_of_ble_eq_true rfl) (Nat.le_of_ble_eq_true rfl) hlocks (by decide) rfl (Nat.le_of_ble_eq_true rfl) (Nat.le_of_ble_eq_true rfl)
set_option maxHeartbeats 4000000 in
set_option maxRecDepth 100000 in
theorem k6_checkBee (l : Launch) (hst : l.stackTraces = false) (D : va_G) (base : Nat) (g : g_H) (a0 : Nat) (x1 : Int32) (rr : Nat × Int32) (gz : g_H) (hF : f6_checkBee g a0 x1 = some (rr, gz)) : vx_Met l yX6_checkBee wsX6_checkBee ({ frames := 6, cells := 1, slots := 6, locals := 90 } : Room) (va_Pc [.ref a0, .int x1] (gC base D g)) (gXv base D rr gz) (gX base D rr gz) 1 6 (gA base) := by
  refine g_xmet (cc := cX6_checkBee) (maxL := 2) (ret := none) (lst := [(0, .ref a0), (1, .int x1)]) (by decide) rfl (Nat.le_of_ble_eq_true rfl) rfl ?_
  intro p e s m args below meth c ls hx hb hr hml hown hlocks hname hts hE hP hl ht
  have hown : s.vm.findClass RX6 = some m.cls := hown
  have hK := hE.1
  have hov := hE.2.2.2.2.2.2.2.1
  have hbz := hE.2.2.2.2.2.2.2.2.2.2.2.2
  have hS : va_S (gA base) s.heap s.heap [] := va_S.rf
  have hiX1 : ∀ w ∈ wsX10, w ∈ wsX6_checkBee := by decide +kernel
  have hiX6 : ∀ w ∈ wsX60, w ∈ wsX6_checkBee := by decide +kernel
  have HB15 : ∀ (g : g_H)  (H : Heap) (locs : List Loc) (ls : Array Slot), f6_checkBee_15 g  = some (rr, gz) → gP base D s g H → va_S (gA base) s.heap H locs → lv_has ls 2 [] → W p l e ({ frames := 6, cells := 1, slots := 6, locals := 90 } : Room) s m args below meth c H locs 0 0 (vx_MQ below (gXv base D rr gz) (gX base D rr gz) args s 1 6 (gA base)) (F0 m 15 ls []) := by
    intro g  H locs ls hF hP hS hl
    unfold f6_checkBee_15 at hF
    exact g_throwF hx hb hst hF (text := "no such bee") hown hts (by decide +kernel) (hts (.classLink RX6 78 gEI) (by decide +kernel)) (hts (.initialized gEI) (by decide +kernel)) (by decide +kernel) g_bad1_82 (by decide) g_good1_78_82 (by decide) hE hP hS (hl.1.trans hml.symm) dX6_checkBee_15 dX6_checkBee_18 dX6_checkBee_19 dX6_checkBee_21 dX6_checkBee_24 ht (Nat.le_of_ble_eq_true rfl) (Nat.le_of_ble_eq_true rfl) (Nat.le_of_ble_eq_true rfl) (Nat.le_of_ble_eq_true rfl) hlocks (by decide) rfl (Nat.le_of_ble_eq_true rfl) (Nat.le_of_ble_eq_true rfl)
  unfold f6_checkBee at hF
  refine lv_iload_n hx hb dX6_checkBee_0 rfl (lv_at hl 1 rfl) ?_
  refine lv_if_lt (tgt := 15) hx hb dX6_checkBee_1 (by decide) (fun c1 => ?_) (fun c1 => ?_)
  · have hF := g_t c1 hF
    exact HB15 _ _ _ _ hF hP hS (lv_sub hl [] rfl)
  · have hF := g_f c1 hF
    refine lv_iload_n hx hb dX6_checkBee_4 rfl (lv_at hl 1 rfl) ?_
    refine lv_aload_n hx hb dX6_checkBee_5 rfl (lv_at hl 0 rfl) ?_
    obtain ⟨h2, hF⟩ := g_if hF
    obtain ⟨q3, hq4, hF⟩ := g_bind hF
    refine g_get hx hb hts hiX6 hown hK hP 6 rfl (by decide) h2 1 (by decide) (hts (.fieldLink RX6 21 "CourierBees" "now" "LCourierBees$Flight;") (by decide +kernel)) (fun _ h9 => h9) ((gFv_r (by decide)).trans (congrArg va_rf hq4)) dX6_checkBee_6 ?_
    obtain ⟨h5, hF⟩ := g_if hF
    refine g_get hx hb hts hiX1 hown hK hP 1 rfl (by decide) h5 3 (by decide) (hts (.fieldLink RX6 66 "CourierBees$Flight" "beeCount" "I") (by decide +kernel)) (fun _ h9 => h9) (gFv_i (Or.inl rfl)) dX6_checkBee_9 ?_
    refine lv_icmp_lt (tgt := 25) hx hb dX6_checkBee_12 (by decide) (fun c6 => ?_) (fun c6 => ?_)
    · have hF := g_t c6 hF
      exact g_xretV hx hb hr hlocks hF hP hS (Nat.le_of_ble_eq_true rfl) (Nat.le_of_ble_eq_true rfl) dX6_checkBee_25
    · have hF := g_f c6 hF
      exact HB15 _ _ _ _ hF hP hS (lv_sub hl [] rfl)
set_option maxHeartbeats 4000000 in
set_option maxRecDepth 100000 in
theorem k6_swear (l : Launch) (hst : l.stackTraces = false) (D : va_G) (base : Nat) (g : g_H) (a0 : Nat) (x1 : Int32) (x2 : Int32) (rr : Nat × Int32) (gz : g_H) (hF : f6_swear g a0 x1 x2 = some (rr, gz)) : vx_Met l yX6_swear wsX6_swear ({ frames := 7, cells := 3, slots := 18, locals := 134 } : Room) (va_Pc [.ref a0, .int x1, .int x2] (gC base D g)) (gXi base D rr gz) (gX base D rr gz) 3 18 (gA base) := by
  refine g_xmet (cc := cX6_swear) (maxL := 5) (ret := (some .int)) (lst := [(0, .ref a0), (1, .int x1), (2, .int x2)]) (by decide) rfl (Nat.le_of_ble_eq_true rfl) rfl ?_
  intro p e s m args below meth c ls hx hb hr hml hown hlocks hname hts hE hP hl ht
  have hown : s.vm.findClass RX6 = some m.cls := hown
  have hK := hE.1
  have hov := hE.2.2.2.2.2.2.2.1
  have hbz := hE.2.2.2.2.2.2.2.2.2.2.2.2
  have hS : va_S (gA base) s.heap s.heap [] := va_S.rf
  have hiX0 : ∀ w ∈ wsX00, w ∈ wsX6_swear := by decide +kernel
  have hiX1 : ∀ w ∈ wsX10, w ∈ wsX6_swear := by decide +kernel
  have hiX6 : ∀ w ∈ wsX60, w ∈ wsX6_swear := by decide +kernel
  have HB46 : ∀ (g : g_H)  (H : Heap) (locs : List Loc) (ls : Array Slot), f6_swear_46 g  = some (rr, gz) → gP base D s g H → va_S (gA base) s.heap H locs → lv_has ls 5 [] → W p l e ({ frames := 7, cells := 3, slots := 18, locals := 134 } : Room) s m args below meth c H locs 2 12 (vx_MQ below (gXi base D rr gz) (gX base D rr gz) args s 3 18 (gA base)) (F0 m 46 ls []) := by
    intro g  H locs ls hF hP hS hl
    unfold f6_swear_46 at hF
    exact g_throwF hx hb hst hF (text := "the bee is at no house of this route") hown hts (by decide +kernel) (hts (.classLink RX6 39 gES) (by decide +kernel)) (hts (.initialized gES) (by decide +kernel)) (by decide +kernel) g_bad3_43 (by decide) g_good3_39_43 (by decide) hE hP hS (hl.1.trans hml.symm) dX6_swear_46 dX6_swear_49 dX6_swear_50 dX6_swear_52 dX6_swear_55 ht (Nat.le_of_ble_eq_true rfl) (Nat.le_of_ble_eq_true rfl) (Nat.le_of_ble_eq_true rfl) (Nat.le_of_ble_eq_true rfl) hlocks (by decide) rfl (Nat.le_of_ble_eq_true rfl) (Nat.le_of_ble_eq_true rfl)
  unfold f6_swear at hF
  refine lv_aload_n hx hb dX6_swear_0 rfl (lv_at hl 0 rfl) ?_
  refine lv_iload_n hx hb dX6_swear_1 rfl (lv_at hl 1 rfl) ?_
  obtain ⟨h2, hF⟩ := g_if hF
  obtain ⟨o5, g3, h1, hF⟩ := g_bind2 hF
  refine g_xcallv (vx_runV (As := [.int x1]) (rest := []) ⟨hx, hb, hml, hown, hts⟩ (k6_checkBee l hst D base g a0 x1 o5 g3 h1) (cwV 1 hts gX6_swear_X6_checkBee rfl rfl rfl (by decide +kernel) ⟨Nat.le_of_ble_eq_true rfl, Nat.le_of_ble_eq_true rfl⟩) (gC.preV hE hP hS 6 rfl (by decide) h2 [.int x1]) rfl rfl hl.1 rfl (lv_room (Nat.le_of_ble_eq_true rfl)) dX6_swear_2 ⟨(Nat.le_of_ble_eq_true rfl), (Nat.le_of_ble_eq_true rfl)⟩) hS ht hlocks (fun h0 => g_thr h0 hF) (Nat.le_of_ble_eq_true rfl) (Nat.le_of_ble_eq_true rfl) (fun H locs h6 hP hS => ?_)
  have hF := g_t h6 hF
  refine lv_aload_n hx hb dX6_swear_5 rfl (lv_at hl 0 rfl) ?_
  refine lv_iload_n hx hb dX6_swear_6 rfl (lv_at hl 2 rfl) ?_
  obtain ⟨h8, hF⟩ := g_if hF
  obtain ⟨o11, g9, h7, hF⟩ := g_bind2 hF
  refine g_xcallv (vx_runV (As := [.int x2]) (rest := []) ⟨hx, hb, hml, hown, hts⟩ (k6_checkRoute l hst D base g3 a0 x2 o11 g9 h7) (cwV 1 hts gX6_swear_X6_checkRoute rfl rfl rfl (by decide +kernel) ⟨Nat.le_of_ble_eq_true rfl, Nat.le_of_ble_eq_true rfl⟩) (gC.preV hE hP hS 6 rfl (by decide) h8 [.int x2]) rfl rfl hl.1 rfl (lv_room (Nat.le_of_ble_eq_true rfl)) dX6_swear_7 ⟨(Nat.le_of_ble_eq_true rfl), (Nat.le_of_ble_eq_true rfl)⟩) hS ht hlocks (fun h0 => g_thr h0 hF) (Nat.le_of_ble_eq_true rfl) (Nat.le_of_ble_eq_true rfl) (fun H locs h12 hP hS => ?_)
  have hF := g_t h12 hF
  refine lv_aload_n hx hb dX6_swear_10 rfl (lv_at hl 0 rfl) ?_
  obtain ⟨h13, hF⟩ := g_if hF
  obtain ⟨q14, hq15, hF⟩ := g_bind hF
  refine g_get hx hb hts hiX6 hown hK hP 6 rfl (by decide) h13 1 (by decide) (hts (.fieldLink RX6 21 "CourierBees" "now" "LCourierBees$Flight;") (by decide +kernel)) (fun _ h9 => h9) ((gFv_r (by decide)).trans (congrArg va_rf hq15)) dX6_swear_11 ?_
  obtain ⟨h16, hF⟩ := g_if hF
  obtain ⟨q17, hq18, hF⟩ := g_bind hF
  refine g_get hx hb hts hiX1 hown hK hP 1 rfl (by decide) h16 1 (by decide) (hts (.fieldLink RX6 106 "CourierBees$Flight" "bees" "[LCourierBees$Bee;") (by decide +kernel)) (fun _ h9 => h9) ((gFv_r (by decide)).trans (congrArg va_rf hq18)) dX6_swear_14 ?_
  refine lv_iload_n hx hb dX6_swear_17 rfl (lv_at hl 1 rfl) ?_
  obtain ⟨h19, hF⟩ := g_if hF
  obtain ⟨h20, hF⟩ := g_if hF
  obtain ⟨q21, hq22, hF⟩ := g_bind hF
  refine g_aald hx hb hP (g_pr h19) (by decide) h20 hq22 dX6_swear_18 ?_
  refine lv_astore_n (lv' := [(3, .ref q21), (0, .ref a0), (1, .int x1), (2, .int x2)]) hx hb dX6_swear_19 rfl hl (by decide) rfl (fun ls hl => ?_)
  refine lv_aload_n hx hb dX6_swear_20 rfl (lv_at hl 1 rfl) ?_
  obtain ⟨q23, hq24, hF⟩ := g_bind hF
  refine g_get hx hb hts hiX6 hown hK hP 6 rfl (by decide) h13 3 (by decide) (hts (.fieldLink RX6 31 "CourierBees" "draft" "LCourierBees$Route;") (by decide +kernel)) (fun _ h9 => h9) ((gFv_r (by decide)).trans (congrArg va_rf hq24)) dX6_swear_21 ?_
  refine lv_aload_n hx hb dX6_swear_24 rfl (lv_at hl 0 rfl) ?_
  obtain ⟨h26, hF⟩ := g_if hF
  obtain ⟨v28, g27, h25, hF⟩ := g_bind2 hF
  refine g_calli (va_runV (As := []) (rest := [.ref q23]) ⟨hx, hb, hml, hown, hts⟩ (k0_house l D base g9 q21 v28 g27 h25) (cwV 0 hts gX6_swear_X0_house rfl rfl rfl (by decide +kernel) ⟨Nat.le_of_ble_eq_true rfl, Nat.le_of_ble_eq_true rfl⟩) (gC.preV hE hP hS 0 rfl (by decide) h26 []) rfl rfl hl.1 rfl (lv_room (Nat.le_of_ble_eq_true rfl)) dX6_swear_25 ⟨(Nat.le_of_ble_eq_true rfl), (Nat.le_of_ble_eq_true rfl)⟩) hS (fun H locs hP hS => ?_)
  obtain ⟨h30, hF⟩ := g_if hF
  obtain ⟨v32, g31, h29, hF⟩ := g_bind2 hF
  refine g_calli (va_runV (As := [.int v28]) (rest := []) ⟨hx, hb, hml, hown, hts⟩ (k4_placeOf l D base g27 q23 v28 v32 g31 h29) (cwV 1 hts gX6_swear_X4_placeOf rfl rfl rfl (by decide +kernel) ⟨Nat.le_of_ble_eq_true rfl, Nat.le_of_ble_eq_true rfl⟩) (gC.preV hE hP hS 4 rfl (by decide) h30 [.int v28]) rfl rfl hl.1 rfl (lv_room (Nat.le_of_ble_eq_true rfl)) dX6_swear_28 ⟨(Nat.le_of_ble_eq_true rfl), (Nat.le_of_ble_eq_true rfl)⟩) hS (fun H locs hP hS => ?_)
  refine lv_istore (lv' := [(4, .int v32), (3, .ref q21), (0, .ref a0), (1, .int x1), (2, .int x2)]) hx hb dX6_swear_31 hl (by decide) rfl (fun ls hl => ?_)
  refine lv_aload_n hx hb dX6_swear_33 rfl (lv_at hl 1 rfl) ?_
  obtain ⟨h33, hF⟩ := g_if hF
  refine g_get hx hb hts hiX0 hown hK hP 0 rfl (by decide) h33 3 (by decide) (hts (.fieldLink RX6 127 "CourierBees$Bee" "left" "I") (by decide +kernel)) (fun _ h9 => h9) (gFv_i (Or.inl rfl)) dX6_swear_34 ?_
  refine lv_if_gt (tgt := 46) hx hb dX6_swear_37 (by decide) (fun c34 => ?_) (fun c34 => ?_)
  · have hF := g_t c34 hF
    exact HB46 _ _ _ _ hF hP hS (lv_sub hl [] rfl)
  · have hF := g_f c34 hF
    refine lv_iload hx hb dX6_swear_40 (lv_at hl 0 rfl) ?_
    refine lv_iconst (v := (-1)) hx hb dX6_swear_42 (by decide) ?_
    refine lv_icmp_ne (tgt := 56) hx hb dX6_swear_43 (by decide) (fun c35 => ?_) (fun c35 => ?_)
    · have hF := g_f c35 hF
      refine lv_aload_n hx hb dX6_swear_56 rfl (lv_at hl 1 rfl) ?_
      refine lv_aload_n hx hb dX6_swear_57 rfl (lv_at hl 2 rfl) ?_
      obtain ⟨h36, hF⟩ := g_if hF
      obtain ⟨q37, hq38, hF⟩ := g_bind hF
      refine g_get hx hb hts hiX6 hown hK hP 6 rfl (by decide) h36 3 (by decide) (hts (.fieldLink RX6 31 "CourierBees" "draft" "LCourierBees$Route;") (by decide +kernel)) (fun _ h9 => h9) ((gFv_r (by decide)).trans (congrArg va_rf hq38)) dX6_swear_58 ?_
      refine lv_iload hx hb dX6_swear_61 (lv_at hl 0 rfl) ?_
      obtain ⟨g40, h39, hF⟩ := g_bind hF
      refine g_callv (va_runV (As := [.ref q37, .int v32]) (rest := []) ⟨hx, hb, hml, hown, hts⟩ (k0_follow l D base g31 q21 q37 v32 g40 h39) (cwV 2 hts gX6_swear_X0_follow rfl rfl rfl (by decide +kernel) ⟨Nat.le_of_ble_eq_true rfl, Nat.le_of_ble_eq_true rfl⟩) (gC.preV hE hP hS 0 rfl (by decide) h33 [.ref q37, .int v32]) rfl rfl hl.1 rfl (lv_room (Nat.le_of_ble_eq_true rfl)) dX6_swear_63 ⟨(Nat.le_of_ble_eq_true rfl), (Nat.le_of_ble_eq_true rfl)⟩) hS (fun H locs hP hS => ?_)
      refine lv_aload_n hx hb dX6_swear_66 rfl (lv_at hl 1 rfl) ?_
      refine lv_bipush (v := (-3)) hx hb dX6_swear_67 (by decide) ?_
      obtain ⟨h43, hF⟩ := g_if hF
      obtain ⟨g44, h42, hF⟩ := g_bind hF
      refine g_callv (va_runV (As := [.int ((-3 : Int32))]) (rest := []) ⟨hx, hb, hml, hown, hts⟩ (k0_addHonour l D base g40 q21 ((-3 : Int32)) g44 h42) (cwV 1 hts gX6_swear_X0_addHonour rfl rfl rfl (by decide +kernel) ⟨Nat.le_of_ble_eq_true rfl, Nat.le_of_ble_eq_true rfl⟩) (gC.preV hE hP hS 0 rfl (by decide) h43 [.int ((-3 : Int32))]) rfl rfl hl.1 rfl (lv_room (Nat.le_of_ble_eq_true rfl)) dX6_swear_69 ⟨(Nat.le_of_ble_eq_true rfl), (Nat.le_of_ble_eq_true rfl)⟩) hS (fun H locs hP hS => ?_)
      refine lv_aload_n hx hb dX6_swear_72 rfl (lv_at hl 1 rfl) ?_
      obtain ⟨h46, hF⟩ := g_if hF
      refine g_get hx hb hts hiX0 hown hK hP 0 rfl (by decide) h46 5 (by decide) (hts (.fieldLink RX6 139 "CourierBees$Bee" "honour" "I") (by decide +kernel)) (fun _ h9 => h9) (gFv_i (Or.inl rfl)) dX6_swear_73 ?_
      exact g_xretI hx hb hr hlocks hF hP hS (Nat.le_of_ble_eq_true rfl) (Nat.le_of_ble_eq_true rfl) dX6_swear_76
    · have hF := g_t c35 hF
      exact HB46 _ _ _ _ hF hP hS (lv_sub hl [] rfl)
set_option maxHeartbeats 4000000 in
set_option maxRecDepth 100000 in
theorem k6_write (l : Launch) (hst : l.stackTraces = false) (D : va_G) (base : Nat) (g : g_H) (a0 : Nat) (x1 : Int32) (x2 : Int32) (rr : Nat × Int32) (gz : g_H) (hF : f6_write g a0 x1 x2 = some (rr, gz)) : vx_Met l yX6_write wsX6_write ({ frames := 7, cells := 3, slots := 18, locals := 111 } : Room) (va_Pc [.ref a0, .int x1, .int x2] (gC base D g)) (gXi base D rr gz) (gX base D rr gz) 3 18 (gA base) := by
  refine g_xmet (cc := cX6_write) (maxL := 3) (ret := (some .int)) (lst := [(0, .ref a0), (1, .int x1), (2, .int x2)]) (by decide) rfl (Nat.le_of_ble_eq_true rfl) rfl ?_
  intro p e s m args below meth c ls hx hb hr hml hown hlocks hname hts hE hP hl ht
  have hown : s.vm.findClass RX6 = some m.cls := hown
  have hK := hE.1
  have hov := hE.2.2.2.2.2.2.2.1
  have hbz := hE.2.2.2.2.2.2.2.2.2.2.2.2
  have hS : va_S (gA base) s.heap s.heap [] := va_S.rf
  have hiX1 : ∀ w ∈ wsX10, w ∈ wsX6_write := by decide +kernel
  have hiX6 : ∀ w ∈ wsX60, w ∈ wsX6_write := by decide +kernel
  unfold f6_write at hF
  refine lv_aload_n hx hb dX6_write_0 rfl (lv_at hl 0 rfl) ?_
  refine lv_iload_n hx hb dX6_write_1 rfl (lv_at hl 1 rfl) ?_
  obtain ⟨h2, hF⟩ := g_if hF
  obtain ⟨o5, g3, h1, hF⟩ := g_bind2 hF
  refine g_xcallv (vx_runV (As := [.int x1]) (rest := []) ⟨hx, hb, hml, hown, hts⟩ (k6_checkHouse l hst D base g a0 x1 o5 g3 h1) (cwV 1 hts gX6_write_X6_checkHouse rfl rfl rfl (by decide +kernel) ⟨Nat.le_of_ble_eq_true rfl, Nat.le_of_ble_eq_true rfl⟩) (gC.preV hE hP hS 6 rfl (by decide) h2 [.int x1]) rfl rfl hl.1 rfl (lv_room (Nat.le_of_ble_eq_true rfl)) dX6_write_2 ⟨(Nat.le_of_ble_eq_true rfl), (Nat.le_of_ble_eq_true rfl)⟩) hS ht hlocks (fun h0 => g_thr h0 hF) (Nat.le_of_ble_eq_true rfl) (Nat.le_of_ble_eq_true rfl) (fun H locs h6 hP hS => ?_)
  have hF := g_t h6 hF
  refine lv_aload_n hx hb dX6_write_5 rfl (lv_at hl 0 rfl) ?_
  refine lv_iload_n hx hb dX6_write_6 rfl (lv_at hl 2 rfl) ?_
  obtain ⟨h8, hF⟩ := g_if hF
  obtain ⟨o11, g9, h7, hF⟩ := g_bind2 hF
  refine g_xcallv (vx_runV (As := [.int x2]) (rest := []) ⟨hx, hb, hml, hown, hts⟩ (k6_checkHouse l hst D base g3 a0 x2 o11 g9 h7) (cwV 1 hts gX6_write_X6_checkHouse rfl rfl rfl (by decide +kernel) ⟨Nat.le_of_ble_eq_true rfl, Nat.le_of_ble_eq_true rfl⟩) (gC.preV hE hP hS 6 rfl (by decide) h8 [.int x2]) rfl rfl hl.1 rfl (lv_room (Nat.le_of_ble_eq_true rfl)) dX6_write_7 ⟨(Nat.le_of_ble_eq_true rfl), (Nat.le_of_ble_eq_true rfl)⟩) hS ht hlocks (fun h0 => g_thr h0 hF) (Nat.le_of_ble_eq_true rfl) (Nat.le_of_ble_eq_true rfl) (fun H locs h12 hP hS => ?_)
  have hF := g_t h12 hF
  refine lv_iload_n hx hb dX6_write_10 rfl (lv_at hl 1 rfl) ?_
  refine lv_iload_n hx hb dX6_write_11 rfl (lv_at hl 2 rfl) ?_
  refine lv_icmp_ne (tgt := 25) hx hb dX6_write_12 (by decide) (fun c13 => ?_) (fun c13 => ?_)
  · have hF := g_f c13 hF
    refine lv_aload_n hx hb dX6_write_25 rfl (lv_at hl 0 rfl) ?_
    obtain ⟨h14, hF⟩ := g_if hF
    obtain ⟨q15, hq16, hF⟩ := g_bind hF
    refine g_get hx hb hts hiX6 hown hK hP 6 rfl (by decide) h14 1 (by decide) (hts (.fieldLink RX6 21 "CourierBees" "now" "LCourierBees$Flight;") (by decide +kernel)) (fun _ h9 => h9) ((gFv_r (by decide)).trans (congrArg va_rf hq16)) dX6_write_26 ?_
    obtain ⟨h17, hF⟩ := g_if hF
    refine g_get hx hb hts hiX1 hown hK hP 1 rfl (by decide) h17 4 (by decide) (hts (.fieldLink RX6 144 "CourierBees$Flight" "letterCount" "I") (by decide +kernel)) (fun _ h9 => h9) (gFv_i (Or.inl rfl)) dX6_write_29 ?_
    refine lv_bipush (v := 20) hx hb dX6_write_32 (by decide) ?_
    refine lv_icmp_lt (tgt := 47) hx hb dX6_write_34 (by decide) (fun c18 => ?_) (fun c18 => ?_)
    · have hF := g_t c18 hF
      refine lv_aload_n hx hb dX6_write_47 rfl (lv_at hl 0 rfl) ?_
      obtain ⟨q19, hq20, hF⟩ := g_bind hF
      refine g_get hx hb hts hiX6 hown hK hP 6 rfl (by decide) h14 1 (by decide) (hts (.fieldLink RX6 21 "CourierBees" "now" "LCourierBees$Flight;") (by decide +kernel)) (fun _ h9 => h9) ((gFv_r (by decide)).trans (congrArg va_rf hq20)) dX6_write_48 ?_
      obtain ⟨h21, hF⟩ := g_if hF
      obtain ⟨q22, hq23, hF⟩ := g_bind hF
      refine g_get hx hb hts hiX1 hown hK hP 1 rfl (by decide) h21 2 (by decide) (hts (.fieldLink RX6 149 "CourierBees$Flight" "letters" "[LCourierBees$Letter;") (by decide +kernel)) (fun _ h9 => h9) ((gFv_r (by decide)).trans (congrArg va_rf hq23)) dX6_write_51 ?_
      refine lv_aload_n hx hb dX6_write_54 rfl (lv_at hl 0 rfl) ?_
      obtain ⟨q24, hq25, hF⟩ := g_bind hF
      refine g_get hx hb hts hiX6 hown hK hP 6 rfl (by decide) h14 1 (by decide) (hts (.fieldLink RX6 21 "CourierBees" "now" "LCourierBees$Flight;") (by decide +kernel)) (fun _ h9 => h9) ((gFv_r (by decide)).trans (congrArg va_rf hq25)) dX6_write_55 ?_
      obtain ⟨h26, hF⟩ := g_if hF
      refine g_get hx hb hts hiX1 hown hK hP 1 rfl (by decide) h26 4 (by decide) (hts (.fieldLink RX6 144 "CourierBees$Flight" "letterCount" "I") (by decide +kernel)) (fun _ h9 => h9) (gFv_i (Or.inl rfl)) dX6_write_58 ?_
      obtain ⟨h27, hF⟩ := g_if hF
      obtain ⟨h28, hF⟩ := g_if hF
      obtain ⟨q29, hq30, hF⟩ := g_bind hF
      refine g_aald hx hb hP (g_pr h27) (by decide) h28 hq30 dX6_write_61 ?_
      refine lv_iload_n hx hb dX6_write_62 rfl (lv_at hl 1 rfl) ?_
      refine lv_iload_n hx hb dX6_write_63 rfl (lv_at hl 2 rfl) ?_
      obtain ⟨h32, hF⟩ := g_if hF
      obtain ⟨g33, h31, hF⟩ := g_bind hF
      refine g_callv (va_runV (As := [.int x1, .int x2]) (rest := []) ⟨hx, hb, hml, hown, hts⟩ (k3_begin l D base g9 q29 x1 x2 g33 h31) (cwV 2 hts gX6_write_X3_begin rfl rfl rfl (by decide +kernel) ⟨Nat.le_of_ble_eq_true rfl, Nat.le_of_ble_eq_true rfl⟩) (gC.preV hE hP hS 3 rfl (by decide) h32 [.int x1, .int x2]) rfl rfl hl.1 rfl (lv_room (Nat.le_of_ble_eq_true rfl)) dX6_write_64 ⟨(Nat.le_of_ble_eq_true rfl), (Nat.le_of_ble_eq_true rfl)⟩) hS (fun H locs hP hS => ?_)
      refine lv_aload_n hx hb dX6_write_67 rfl (lv_at hl 0 rfl) ?_
      obtain ⟨h35, hF⟩ := g_if hF
      obtain ⟨q36, hq37, hF⟩ := g_bind hF
      refine g_get hx hb hts hiX6 hown hK hP 6 rfl (by decide) h35 1 (by decide) (hts (.fieldLink RX6 21 "CourierBees" "now" "LCourierBees$Flight;") (by decide +kernel)) (fun _ h9 => h9) ((gFv_r (by decide)).trans (congrArg va_rf hq37)) dX6_write_68 ?_
      refine lv_dup hx hb dX6_write_71 rfl ?_
      obtain ⟨h38, hF⟩ := g_if hF
      refine g_get hx hb hts hiX1 hown hK hP 1 rfl (by decide) h38 4 (by decide) (hts (.fieldLink RX6 144 "CourierBees$Flight" "letterCount" "I") (by decide +kernel)) (fun _ h9 => h9) (gFv_i (Or.inl rfl)) dX6_write_72 ?_
      refine lv_dup_x1 hx hb dX6_write_75 rfl rfl ?_
      refine lv_iconst (v := 1) hx hb dX6_write_76 (by decide) ?_
      refine lv_iadd hx hb dX6_write_77 ?_
      obtain ⟨y39, e40, hF⟩ := g_let hF
      rw [e40]
      refine g_puti hx hb hts hiX1 tyX1 tyX1_ok nmX1 hown hK hP hS 1 rfl (by decide) h38 4 (by decide) (hts (.fieldLink RX6 144 "CourierBees$Flight" "letterCount" "I") (by decide +kernel)) (fun _ h9 => h9) (Or.inl rfl) (Or.inl rfl) rfl rfl dX6_write_78 (fun H locs hP hS => ?_)
      exact g_xretI hx hb hr hlocks hF hP hS (Nat.le_of_ble_eq_true rfl) (Nat.le_of_ble_eq_true rfl) dX6_write_81
    · have hF := g_f c18 hF
      exact g_throwF hx hb hst hF (text := "there are 20 letters") hown hts (by decide +kernel) (hts (.classLink RX6 39 gES) (by decide +kernel)) (hts (.initialized gES) (by decide +kernel)) (by decide +kernel) g_bad3_43 (by decide) g_good3_39_43 (by decide) hE hP hS (hl.1.trans hml.symm) dX6_write_37 dX6_write_40 dX6_write_41 dX6_write_43 dX6_write_46 ht (Nat.le_of_ble_eq_true rfl) (Nat.le_of_ble_eq_true rfl) (Nat.le_of_ble_eq_true rfl) (Nat.le_of_ble_eq_true rfl) hlocks (by decide) rfl (Nat.le_of_ble_eq_true rfl) (Nat.le_of_ble_eq_true rfl)
  · have hF := g_t c13 hF
    exact g_throwF hx hb hst hF (text := "the letter is there already") hown hts (by decide +kernel) (hts (.classLink RX6 58 gEA) (by decide +kernel)) (hts (.initialized gEA) (by decide +kernel)) (by decide +kernel) g_bad2_62 (by decide) g_good2_58_62 (by decide) hE hP hS (hl.1.trans hml.symm) dX6_write_15 dX6_write_18 dX6_write_19 dX6_write_21 dX6_write_24 ht (Nat.le_of_ble_eq_true rfl) (Nat.le_of_ble_eq_true rfl) (Nat.le_of_ble_eq_true rfl) (Nat.le_of_ble_eq_true rfl) hlocks (by decide) rfl (Nat.le_of_ble_eq_true rfl) (Nat.le_of_ble_eq_true rfl)
set_option maxHeartbeats 4000000 in
set_option maxRecDepth 100000 in
theorem k6_checkLetter (l : Launch) (hst : l.stackTraces = false) (D : va_G) (base : Nat) (g : g_H) (a0 : Nat) (x1 : Int32) (rr : Nat × Int32) (gz : g_H) (hF : f6_checkLetter g a0 x1 = some (rr, gz)) : vx_Met l yX6_checkLetter wsX6_checkLetter ({ frames := 6, cells := 1, slots := 6, locals := 90 } : Room) (va_Pc [.ref a0, .int x1] (gC base D g)) (gXv base D rr gz) (gX base D rr gz) 1 6 (gA base) := by
  refine g_xmet (cc := cX6_checkLetter) (maxL := 2) (ret := none) (lst := [(0, .ref a0), (1, .int x1)]) (by decide) rfl (Nat.le_of_ble_eq_true rfl) rfl ?_
  intro p e s m args below meth c ls hx hb hr hml hown hlocks hname hts hE hP hl ht
  have hown : s.vm.findClass RX6 = some m.cls := hown
  have hK := hE.1
  have hov := hE.2.2.2.2.2.2.2.1
  have hbz := hE.2.2.2.2.2.2.2.2.2.2.2.2
  have hS : va_S (gA base) s.heap s.heap [] := va_S.rf
  have hiX1 : ∀ w ∈ wsX10, w ∈ wsX6_checkLetter := by decide +kernel
  have hiX6 : ∀ w ∈ wsX60, w ∈ wsX6_checkLetter := by decide +kernel
  have HB15 : ∀ (g : g_H)  (H : Heap) (locs : List Loc) (ls : Array Slot), f6_checkLetter_15 g  = some (rr, gz) → gP base D s g H → va_S (gA base) s.heap H locs → lv_has ls 2 [] → W p l e ({ frames := 6, cells := 1, slots := 6, locals := 90 } : Room) s m args below meth c H locs 0 0 (vx_MQ below (gXv base D rr gz) (gX base D rr gz) args s 1 6 (gA base)) (F0 m 15 ls []) := by
    intro g  H locs ls hF hP hS hl
    unfold f6_checkLetter_15 at hF
    exact g_throwF hx hb hst hF (text := "no such letter") hown hts (by decide +kernel) (hts (.classLink RX6 78 gEI) (by decide +kernel)) (hts (.initialized gEI) (by decide +kernel)) (by decide +kernel) g_bad1_82 (by decide) g_good1_78_82 (by decide) hE hP hS (hl.1.trans hml.symm) dX6_checkLetter_15 dX6_checkLetter_18 dX6_checkLetter_19 dX6_checkLetter_21 dX6_checkLetter_24 ht (Nat.le_of_ble_eq_true rfl) (Nat.le_of_ble_eq_true rfl) (Nat.le_of_ble_eq_true rfl) (Nat.le_of_ble_eq_true rfl) hlocks (by decide) rfl (Nat.le_of_ble_eq_true rfl) (Nat.le_of_ble_eq_true rfl)
  unfold f6_checkLetter at hF
  refine lv_iload_n hx hb dX6_checkLetter_0 rfl (lv_at hl 1 rfl) ?_
  refine lv_if_lt (tgt := 15) hx hb dX6_checkLetter_1 (by decide) (fun c1 => ?_) (fun c1 => ?_)
  · have hF := g_t c1 hF
    exact HB15 _ _ _ _ hF hP hS (lv_sub hl [] rfl)
  · have hF := g_f c1 hF
    refine lv_iload_n hx hb dX6_checkLetter_4 rfl (lv_at hl 1 rfl) ?_
    refine lv_aload_n hx hb dX6_checkLetter_5 rfl (lv_at hl 0 rfl) ?_
    obtain ⟨h2, hF⟩ := g_if hF
    obtain ⟨q3, hq4, hF⟩ := g_bind hF
    refine g_get hx hb hts hiX6 hown hK hP 6 rfl (by decide) h2 1 (by decide) (hts (.fieldLink RX6 21 "CourierBees" "now" "LCourierBees$Flight;") (by decide +kernel)) (fun _ h9 => h9) ((gFv_r (by decide)).trans (congrArg va_rf hq4)) dX6_checkLetter_6 ?_
    obtain ⟨h5, hF⟩ := g_if hF
    refine g_get hx hb hts hiX1 hown hK hP 1 rfl (by decide) h5 4 (by decide) (hts (.fieldLink RX6 144 "CourierBees$Flight" "letterCount" "I") (by decide +kernel)) (fun _ h9 => h9) (gFv_i (Or.inl rfl)) dX6_checkLetter_9 ?_
    refine lv_icmp_lt (tgt := 25) hx hb dX6_checkLetter_12 (by decide) (fun c6 => ?_) (fun c6 => ?_)
    · have hF := g_t c6 hF
      exact g_xretV hx hb hr hlocks hF hP hS (Nat.le_of_ble_eq_true rfl) (Nat.le_of_ble_eq_true rfl) dX6_checkLetter_25
    · have hF := g_f c6 hF
      exact HB15 _ _ _ _ hF hP hS (lv_sub hl [] rfl)
set_option maxHeartbeats 4000000 in
set_option maxRecDepth 100000 in
theorem k6_bribe (l : Launch) (hst : l.stackTraces = false) (D : va_G) (base : Nat) (g : g_H) (a0 : Nat) (x1 : Int32) (x2 : Int32) (rr : Nat × Int32) (gz : g_H) (hF : f6_bribe g a0 x1 x2 = some (rr, gz)) : vx_Met l yX6_bribe wsX6_bribe ({ frames := 7, cells := 3, slots := 18, locals := 111 } : Room) (va_Pc [.ref a0, .int x1, .int x2] (gC base D g)) (gXi base D rr gz) (gX base D rr gz) 3 18 (gA base) := by
  refine g_xmet (cc := cX6_bribe) (maxL := 6) (ret := (some .boolean)) (lst := [(0, .ref a0), (1, .int x1), (2, .int x2)]) (by decide) rfl (Nat.le_of_ble_eq_true rfl) rfl ?_
  intro p e s m args below meth c ls hx hb hr hml hown hlocks hname hts hE hP hl ht
  have hown : s.vm.findClass RX6 = some m.cls := hown
  have hK := hE.1
  have hov := hE.2.2.2.2.2.2.2.1
  have hbz := hE.2.2.2.2.2.2.2.2.2.2.2.2
  have hS : va_S (gA base) s.heap s.heap [] := va_S.rf
  have hiX0 : ∀ w ∈ wsX00, w ∈ wsX6_bribe := by decide +kernel
  have hiX1 : ∀ w ∈ wsX10, w ∈ wsX6_bribe := by decide +kernel
  have hiX3 : ∀ w ∈ wsX30, w ∈ wsX6_bribe := by decide +kernel
  have hiX6 : ∀ w ∈ wsX60, w ∈ wsX6_bribe := by decide +kernel
  have HB58 : ∀ (g : g_H)  (H : Heap) (locs : List Loc) (ls : Array Slot), f6_bribe_58 g  = some (rr, gz) → gP base D s g H → va_S (gA base) s.heap H locs → lv_has ls 6 [] → W p l e ({ frames := 7, cells := 3, slots := 18, locals := 111 } : Room) s m args below meth c H locs 2 12 (vx_MQ below (gXi base D rr gz) (gX base D rr gz) args s 3 18 (gA base)) (F0 m 58 ls []) := by
    intro g  H locs ls hF hP hS hl
    unfold f6_bribe_58 at hF
    exact g_throwF hx hb hst hF (text := "the bee can not take this letter now") hown hts (by decide +kernel) (hts (.classLink RX6 39 gES) (by decide +kernel)) (hts (.initialized gES) (by decide +kernel)) (by decide +kernel) g_bad3_43 (by decide) g_good3_39_43 (by decide) hE hP hS (hl.1.trans hml.symm) dX6_bribe_58 dX6_bribe_61 dX6_bribe_62 dX6_bribe_64 dX6_bribe_67 ht (Nat.le_of_ble_eq_true rfl) (Nat.le_of_ble_eq_true rfl) (Nat.le_of_ble_eq_true rfl) (Nat.le_of_ble_eq_true rfl) hlocks (by decide) rfl (Nat.le_of_ble_eq_true rfl) (Nat.le_of_ble_eq_true rfl)
  have HB81 : ∀ (g : g_H) (a3 : Nat) (a4 : Nat) (s0 : Int32) (H : Heap) (locs : List Loc) (ls : Array Slot), f6_bribe_81 g a3 a4 s0 = some (rr, gz) → gP base D s g H → va_S (gA base) s.heap H locs → lv_has ls 6 [(3, .ref a3), (4, .ref a4)] → W p l e ({ frames := 7, cells := 3, slots := 18, locals := 111 } : Room) s m args below meth c H locs 2 12 (vx_MQ below (gXi base D rr gz) (gX base D rr gz) args s 3 18 (gA base)) (F0 m 81 ls [.int s0]) := by
    intro g a3 a4 s0 H locs ls hF hP hS hl
    unfold f6_bribe_81 at hF
    refine lv_istore (lv' := [(5, .int s0), (3, .ref a3), (4, .ref a4)]) hx hb dX6_bribe_81 hl (by decide) rfl (fun ls hl => ?_)
    refine lv_iload hx hb dX6_bribe_83 (lv_at hl 0 rfl) ?_
    refine lv_if_eq (tgt := 96) hx hb dX6_bribe_85 (by decide) (fun c42 => ?_) (fun c42 => ?_)
    · have hF := g_t c42 hF
      refine lv_aload_n hx hb dX6_bribe_96 rfl (lv_at hl 1 rfl) ?_
      refine lv_aload hx hb dX6_bribe_97 (lv_at hl 2 rfl) ?_
      obtain ⟨h44, hF⟩ := g_if hF
      obtain ⟨g45, h43, hF⟩ := g_bind hF
      refine g_callv (va_runV (As := [.ref a4]) (rest := []) ⟨hx, hb, hml, hown, hts⟩ (k0_take l D base g a3 a4 g45 h43) (cwV 1 hts gX6_bribe_X0_take rfl rfl rfl (by decide +kernel) ⟨Nat.le_of_ble_eq_true rfl, Nat.le_of_ble_eq_true rfl⟩) (gC.preV hE hP hS 0 rfl (by decide) h44 [.ref a4]) rfl rfl hl.1 rfl (lv_room (Nat.le_of_ble_eq_true rfl)) dX6_bribe_99 ⟨(Nat.le_of_ble_eq_true rfl), (Nat.le_of_ble_eq_true rfl)⟩) hS (fun H locs hP hS => ?_)
      refine lv_aload_n hx hb dX6_bribe_102 rfl (lv_at hl 1 rfl) ?_
      refine lv_iconst (v := (-1)) hx hb dX6_bribe_103 (by decide) ?_
      obtain ⟨h48, hF⟩ := g_if hF
      obtain ⟨g49, h47, hF⟩ := g_bind hF
      refine g_callv (va_runV (As := [.int ((-1 : Int32))]) (rest := []) ⟨hx, hb, hml, hown, hts⟩ (k0_addHonour l D base g45 a3 ((-1 : Int32)) g49 h47) (cwV 1 hts gX6_bribe_X0_addHonour rfl rfl rfl (by decide +kernel) ⟨Nat.le_of_ble_eq_true rfl, Nat.le_of_ble_eq_true rfl⟩) (gC.preV hE hP hS 0 rfl (by decide) h48 [.int ((-1 : Int32))]) rfl rfl hl.1 rfl (lv_room (Nat.le_of_ble_eq_true rfl)) dX6_bribe_104 ⟨(Nat.le_of_ble_eq_true rfl), (Nat.le_of_ble_eq_true rfl)⟩) hS (fun H locs hP hS => ?_)
      refine lv_iload hx hb dX6_bribe_107 (lv_at hl 0 rfl) ?_
      refine lv_if_ne (tgt := 116) hx hb dX6_bribe_109 (by decide) (fun c51 => ?_) (fun c51 => ?_)
      · have hF := g_f c51 hF
        refine lv_iconst (v := 0) hx hb dX6_bribe_116 (by decide) ?_
        exact g_xretZ hx hb hr (Or.inl rfl) hlocks hF hP hS (Nat.le_of_ble_eq_true rfl) (Nat.le_of_ble_eq_true rfl) dX6_bribe_117
      · have hF := g_t c51 hF
        refine lv_iconst (v := 1) hx hb dX6_bribe_112 (by decide) ?_
        refine lv_goto (tgt := 117) hx hb dX6_bribe_113 (by decide) ?_
        exact g_xretZ hx hb hr (Or.inr rfl) hlocks hF hP hS (Nat.le_of_ble_eq_true rfl) (Nat.le_of_ble_eq_true rfl) dX6_bribe_117
    · have hF := g_f c42 hF
      refine lv_aload_n hx hb dX6_bribe_88 rfl (lv_at hl 1 rfl) ?_
      refine lv_iconst (v := 1) hx hb dX6_bribe_89 (by decide) ?_
      obtain ⟨h53, hF⟩ := g_if hF
      obtain ⟨g54, h52, hF⟩ := g_bind hF
      refine g_callv (va_runV (As := [.int ((1 : Int32))]) (rest := []) ⟨hx, hb, hml, hown, hts⟩ (k0_addHonour l D base g a3 ((1 : Int32)) g54 h52) (cwV 1 hts gX6_bribe_X0_addHonour rfl rfl rfl (by decide +kernel) ⟨Nat.le_of_ble_eq_true rfl, Nat.le_of_ble_eq_true rfl⟩) (gC.preV hE hP hS 0 rfl (by decide) h53 [.int ((1 : Int32))]) rfl rfl hl.1 rfl (lv_room (Nat.le_of_ble_eq_true rfl)) dX6_bribe_90 ⟨(Nat.le_of_ble_eq_true rfl), (Nat.le_of_ble_eq_true rfl)⟩) hS (fun H locs hP hS => ?_)
      refine lv_goto (tgt := 107) hx hb dX6_bribe_93 (by decide) ?_
      refine lv_iload hx hb dX6_bribe_107 (lv_at hl 0 rfl) ?_
      refine lv_if_ne (tgt := 116) hx hb dX6_bribe_109 (by decide) (fun c56 => ?_) (fun c56 => ?_)
      · have hF := g_f c56 hF
        refine lv_iconst (v := 0) hx hb dX6_bribe_116 (by decide) ?_
        exact g_xretZ hx hb hr (Or.inl rfl) hlocks hF hP hS (Nat.le_of_ble_eq_true rfl) (Nat.le_of_ble_eq_true rfl) dX6_bribe_117
      · have hF := g_t c56 hF
        refine lv_iconst (v := 1) hx hb dX6_bribe_112 (by decide) ?_
        refine lv_goto (tgt := 117) hx hb dX6_bribe_113 (by decide) ?_
        exact g_xretZ hx hb hr (Or.inr rfl) hlocks hF hP hS (Nat.le_of_ble_eq_true rfl) (Nat.le_of_ble_eq_true rfl) dX6_bribe_117
  unfold f6_bribe at hF
  refine lv_aload_n hx hb dX6_bribe_0 rfl (lv_at hl 0 rfl) ?_
  refine lv_iload_n hx hb dX6_bribe_1 rfl (lv_at hl 1 rfl) ?_
  obtain ⟨h2, hF⟩ := g_if hF
  obtain ⟨o5, g3, h1, hF⟩ := g_bind2 hF
  refine g_xcallv (vx_runV (As := [.int x1]) (rest := []) ⟨hx, hb, hml, hown, hts⟩ (k6_checkBee l hst D base g a0 x1 o5 g3 h1) (cwV 1 hts gX6_bribe_X6_checkBee rfl rfl rfl (by decide +kernel) ⟨Nat.le_of_ble_eq_true rfl, Nat.le_of_ble_eq_true rfl⟩) (gC.preV hE hP hS 6 rfl (by decide) h2 [.int x1]) rfl rfl hl.1 rfl (lv_room (Nat.le_of_ble_eq_true rfl)) dX6_bribe_2 ⟨(Nat.le_of_ble_eq_true rfl), (Nat.le_of_ble_eq_true rfl)⟩) hS ht hlocks (fun h0 => g_thr h0 hF) (Nat.le_of_ble_eq_true rfl) (Nat.le_of_ble_eq_true rfl) (fun H locs h6 hP hS => ?_)
  have hF := g_t h6 hF
  refine lv_aload_n hx hb dX6_bribe_5 rfl (lv_at hl 0 rfl) ?_
  refine lv_iload_n hx hb dX6_bribe_6 rfl (lv_at hl 2 rfl) ?_
  obtain ⟨h8, hF⟩ := g_if hF
  obtain ⟨o11, g9, h7, hF⟩ := g_bind2 hF
  refine g_xcallv (vx_runV (As := [.int x2]) (rest := []) ⟨hx, hb, hml, hown, hts⟩ (k6_checkLetter l hst D base g3 a0 x2 o11 g9 h7) (cwV 1 hts gX6_bribe_X6_checkLetter rfl rfl rfl (by decide +kernel) ⟨Nat.le_of_ble_eq_true rfl, Nat.le_of_ble_eq_true rfl⟩) (gC.preV hE hP hS 6 rfl (by decide) h8 [.int x2]) rfl rfl hl.1 rfl (lv_room (Nat.le_of_ble_eq_true rfl)) dX6_bribe_7 ⟨(Nat.le_of_ble_eq_true rfl), (Nat.le_of_ble_eq_true rfl)⟩) hS ht hlocks (fun h0 => g_thr h0 hF) (Nat.le_of_ble_eq_true rfl) (Nat.le_of_ble_eq_true rfl) (fun H locs h12 hP hS => ?_)
  have hF := g_t h12 hF
  refine lv_aload_n hx hb dX6_bribe_10 rfl (lv_at hl 0 rfl) ?_
  obtain ⟨h13, hF⟩ := g_if hF
  obtain ⟨q14, hq15, hF⟩ := g_bind hF
  refine g_get hx hb hts hiX6 hown hK hP 6 rfl (by decide) h13 1 (by decide) (hts (.fieldLink RX6 21 "CourierBees" "now" "LCourierBees$Flight;") (by decide +kernel)) (fun _ h9 => h9) ((gFv_r (by decide)).trans (congrArg va_rf hq15)) dX6_bribe_11 ?_
  obtain ⟨h16, hF⟩ := g_if hF
  obtain ⟨q17, hq18, hF⟩ := g_bind hF
  refine g_get hx hb hts hiX1 hown hK hP 1 rfl (by decide) h16 1 (by decide) (hts (.fieldLink RX6 106 "CourierBees$Flight" "bees" "[LCourierBees$Bee;") (by decide +kernel)) (fun _ h9 => h9) ((gFv_r (by decide)).trans (congrArg va_rf hq18)) dX6_bribe_14 ?_
  refine lv_iload_n hx hb dX6_bribe_17 rfl (lv_at hl 1 rfl) ?_
  obtain ⟨h19, hF⟩ := g_if hF
  obtain ⟨h20, hF⟩ := g_if hF
  obtain ⟨q21, hq22, hF⟩ := g_bind hF
  refine g_aald hx hb hP (g_pr h19) (by decide) h20 hq22 dX6_bribe_18 ?_
  refine lv_astore_n (lv' := [(3, .ref q21), (0, .ref a0), (1, .int x1), (2, .int x2)]) hx hb dX6_bribe_19 rfl hl (by decide) rfl (fun ls hl => ?_)
  refine lv_aload_n hx hb dX6_bribe_20 rfl (lv_at hl 1 rfl) ?_
  obtain ⟨q23, hq24, hF⟩ := g_bind hF
  refine g_get hx hb hts hiX6 hown hK hP 6 rfl (by decide) h13 1 (by decide) (hts (.fieldLink RX6 21 "CourierBees" "now" "LCourierBees$Flight;") (by decide +kernel)) (fun _ h9 => h9) ((gFv_r (by decide)).trans (congrArg va_rf hq24)) dX6_bribe_21 ?_
  obtain ⟨h25, hF⟩ := g_if hF
  obtain ⟨q26, hq27, hF⟩ := g_bind hF
  refine g_get hx hb hts hiX1 hown hK hP 1 rfl (by decide) h25 2 (by decide) (hts (.fieldLink RX6 149 "CourierBees$Flight" "letters" "[LCourierBees$Letter;") (by decide +kernel)) (fun _ h9 => h9) ((gFv_r (by decide)).trans (congrArg va_rf hq27)) dX6_bribe_24 ?_
  refine lv_iload_n hx hb dX6_bribe_27 rfl (lv_at hl 3 rfl) ?_
  obtain ⟨h28, hF⟩ := g_if hF
  obtain ⟨h29, hF⟩ := g_if hF
  obtain ⟨q30, hq31, hF⟩ := g_bind hF
  refine g_aald hx hb hP (g_pr h28) (by decide) h29 hq31 dX6_bribe_28 ?_
  refine lv_astore (lv' := [(4, .ref q30), (3, .ref q21), (0, .ref a0), (1, .int x1), (2, .int x2)]) hx hb dX6_bribe_29 hl (by decide) rfl (fun ls hl => ?_)
  refine lv_aload_n hx hb dX6_bribe_31 rfl (lv_at hl 1 rfl) ?_
  obtain ⟨h32, hF⟩ := g_if hF
  refine g_get hx hb hts hiX0 hown hK hP 0 rfl (by decide) h32 3 (by decide) (hts (.fieldLink RX6 127 "CourierBees$Bee" "left" "I") (by decide +kernel)) (fun _ h9 => h9) (gFv_i (Or.inl rfl)) dX6_bribe_32 ?_
  refine lv_if_gt (tgt := 58) hx hb dX6_bribe_35 (by decide) (fun c33 => ?_) (fun c33 => ?_)
  · have hF := g_t c33 hF
    exact HB58 _ _ _ _ hF hP hS (lv_sub hl [] rfl)
  · have hF := g_f c33 hF
    refine lv_aload hx hb dX6_bribe_38 (lv_at hl 0 rfl) ?_
    obtain ⟨h34, hF⟩ := g_if hF
    refine g_get hx hb hts hiX3 hown hK hP 3 rfl (by decide) h34 1 (by decide) (hts (.fieldLink RX6 162 "CourierBees$Letter" "lies" "I") (by decide +kernel)) (fun _ h9 => h9) (gFv_i (Or.inl rfl)) dX6_bribe_40 ?_
    refine lv_aload_n hx hb dX6_bribe_43 rfl (lv_at hl 1 rfl) ?_
    obtain ⟨v37, g36, h35, hF⟩ := g_bind2 hF
    refine g_calli (va_runV (As := []) (rest := [.int (gI g9 q30 1)]) ⟨hx, hb, hml, hown, hts⟩ (k0_house l D base g9 q21 v37 g36 h35) (cwV 0 hts gX6_bribe_X0_house rfl rfl rfl (by decide +kernel) ⟨Nat.le_of_ble_eq_true rfl, Nat.le_of_ble_eq_true rfl⟩) (gC.preV hE hP hS 0 rfl (by decide) h32 []) rfl rfl hl.1 rfl (lv_room (Nat.le_of_ble_eq_true rfl)) dX6_bribe_44 ⟨(Nat.le_of_ble_eq_true rfl), (Nat.le_of_ble_eq_true rfl)⟩) hS (fun H locs hP hS => ?_)
    refine lv_icmp_ne (tgt := 58) hx hb dX6_bribe_47 (by decide) (fun c38 => ?_) (fun c38 => ?_)
    · have hF := g_f c38 hF
      exact HB58 _ _ _ _ hF hP hS (lv_sub hl [] rfl)
    · have hF := g_t c38 hF
      refine lv_aload_n hx hb dX6_bribe_50 rfl (lv_at hl 1 rfl) ?_
      obtain ⟨h39, hF⟩ := g_if hF
      refine g_get hx hb hts hiX0 hown hK hP 0 rfl (by decide) h39 6 (by decide) (hts (.fieldLink RX6 165 "CourierBees$Bee" "carries" "I") (by decide +kernel)) (fun _ h9 => h9) (gFv_i (Or.inl rfl)) dX6_bribe_51 ?_
      refine lv_iconst (v := 3) hx hb dX6_bribe_54 (by decide) ?_
      refine lv_icmp_lt (tgt := 68) hx hb dX6_bribe_55 (by decide) (fun c40 => ?_) (fun c40 => ?_)
      · have hF := g_t c40 hF
        refine lv_aload_n hx hb dX6_bribe_68 rfl (lv_at hl 1 rfl) ?_
        refine g_get hx hb hts hiX0 hown hK hP 0 rfl (by decide) h39 5 (by decide) (hts (.fieldLink RX6 139 "CourierBees$Bee" "honour" "I") (by decide +kernel)) (fun _ h9 => h9) (gFv_i (Or.inl rfl)) dX6_bribe_69 ?_
        refine lv_iconst (v := 5) hx hb dX6_bribe_72 (by decide) ?_
        refine lv_icmp_lt (tgt := 80) hx hb dX6_bribe_73 (by decide) (fun c41 => ?_) (fun c41 => ?_)
        · have hF := g_t c41 hF
          refine lv_iconst (v := 0) hx hb dX6_bribe_80 (by decide) ?_
          exact HB81 _ _ _ _ _ _ _ hF hP hS (lv_sub hl [1, 0] rfl)
        · have hF := g_f c41 hF
          refine lv_iconst (v := 1) hx hb dX6_bribe_76 (by decide) ?_
          refine lv_goto (tgt := 81) hx hb dX6_bribe_77 (by decide) ?_
          exact HB81 _ _ _ _ _ _ _ hF hP hS (lv_sub hl [1, 0] rfl)
      · have hF := g_f c40 hF
        exact HB58 _ _ _ _ hF hP hS (lv_sub hl [] rfl)
set_option maxHeartbeats 4000000 in
set_option maxRecDepth 100000 in
theorem k6_checkWhat (l : Launch) (hst : l.stackTraces = false) (D : va_G) (base : Nat) (g : g_H) (x0 : Int32) (x1 : Int32) (rr : Nat × Int32) (gz : g_H) (hF : f6_checkWhat g x0 x1 = some (rr, gz)) : vx_Met l yX6_checkWhat wsX6_checkWhat ({ frames := 6, cells := 1, slots := 6, locals := 90 } : Room) (va_Pc [.int x0, .int x1] (gC base D g)) (gXv base D rr gz) (gX base D rr gz) 1 6 (gA base) := by
  refine g_xmet (cc := cX6_checkWhat) (maxL := 2) (ret := none) (lst := [(0, .int x0), (1, .int x1)]) (by decide) rfl (Nat.le_of_ble_eq_true rfl) rfl ?_
  intro p e s m args below meth c ls hx hb hr hml hown hlocks hname hts hE hP hl ht
  have hown : s.vm.findClass RX6 = some m.cls := hown
  have hK := hE.1
  have hov := hE.2.2.2.2.2.2.2.1
  have hbz := hE.2.2.2.2.2.2.2.2.2.2.2.2
  have hS : va_S (gA base) s.heap s.heap [] := va_S.rf
  have HB9 : ∀ (g : g_H)  (H : Heap) (locs : List Loc) (ls : Array Slot), f6_checkWhat_9 g  = some (rr, gz) → gP base D s g H → va_S (gA base) s.heap H locs → lv_has ls 2 [] → W p l e ({ frames := 6, cells := 1, slots := 6, locals := 90 } : Room) s m args below meth c H locs 0 0 (vx_MQ below (gXv base D rr gz) (gX base D rr gz) args s 1 6 (gA base)) (F0 m 9 ls []) := by
    intro g  H locs ls hF hP hS hl
    unfold f6_checkWhat_9 at hF
    exact g_throwF hx hb hst hF (text := "nothing is told by this number") hown hts (by decide +kernel) (hts (.classLink RX6 78 gEI) (by decide +kernel)) (hts (.initialized gEI) (by decide +kernel)) (by decide +kernel) g_bad1_82 (by decide) g_good1_78_82 (by decide) hE hP hS (hl.1.trans hml.symm) dX6_checkWhat_9 dX6_checkWhat_12 dX6_checkWhat_13 dX6_checkWhat_15 dX6_checkWhat_18 ht (Nat.le_of_ble_eq_true rfl) (Nat.le_of_ble_eq_true rfl) (Nat.le_of_ble_eq_true rfl) (Nat.le_of_ble_eq_true rfl) hlocks (by decide) rfl (Nat.le_of_ble_eq_true rfl) (Nat.le_of_ble_eq_true rfl)
  unfold f6_checkWhat at hF
  refine lv_iload_n hx hb dX6_checkWhat_0 rfl (lv_at hl 0 rfl) ?_
  refine lv_if_lt (tgt := 9) hx hb dX6_checkWhat_1 (by decide) (fun c1 => ?_) (fun c1 => ?_)
  · have hF := g_t c1 hF
    exact HB9 _ _ _ _ hF hP hS (lv_sub hl [] rfl)
  · have hF := g_f c1 hF
    refine lv_iload_n hx hb dX6_checkWhat_4 rfl (lv_at hl 0 rfl) ?_
    refine lv_iload_n hx hb dX6_checkWhat_5 rfl (lv_at hl 1 rfl) ?_
    refine lv_icmp_lt (tgt := 19) hx hb dX6_checkWhat_6 (by decide) (fun c2 => ?_) (fun c2 => ?_)
    · have hF := g_t c2 hF
      exact g_xretV hx hb hr hlocks hF hP hS (Nat.le_of_ble_eq_true rfl) (Nat.le_of_ble_eq_true rfl) dX6_checkWhat_19
    · have hF := g_f c2 hF
      exact HB9 _ _ _ _ hF hP hS (lv_sub hl [] rfl)
set_option maxHeartbeats 4000000 in
set_option maxRecDepth 100000 in
theorem k6_bee (l : Launch) (hst : l.stackTraces = false) (D : va_G) (base : Nat) (g : g_H) (a0 : Nat) (x1 : Int32) (x2 : Int32) (rr : Nat × Int32) (gz : g_H) (hF : f6_bee g a0 x1 x2 = some (rr, gz)) : vx_Met l yX6_bee wsX6_bee ({ frames := 7, cells := 2, slots := 12, locals := 111 } : Room) (va_Pc [.ref a0, .int x1, .int x2] (gC base D g)) (gXi base D rr gz) (gX base D rr gz) 2 12 (gA base) := by
  refine g_xmet (cc := cX6_bee) (maxL := 3) (ret := (some .int)) (lst := [(0, .ref a0), (1, .int x1), (2, .int x2)]) (by decide) rfl (Nat.le_of_ble_eq_true rfl) rfl ?_
  intro p e s m args below meth c ls hx hb hr hml hown hlocks hname hts hE hP hl ht
  have hown : s.vm.findClass RX6 = some m.cls := hown
  have hK := hE.1
  have hov := hE.2.2.2.2.2.2.2.1
  have hbz := hE.2.2.2.2.2.2.2.2.2.2.2.2
  have hS : va_S (gA base) s.heap s.heap [] := va_S.rf
  have hiX1 : ∀ w ∈ wsX10, w ∈ wsX6_bee := by decide +kernel
  have hiX6 : ∀ w ∈ wsX60, w ∈ wsX6_bee := by decide +kernel
  unfold f6_bee at hF
  refine lv_aload_n hx hb dX6_bee_0 rfl (lv_at hl 0 rfl) ?_
  refine lv_iload_n hx hb dX6_bee_1 rfl (lv_at hl 1 rfl) ?_
  obtain ⟨h2, hF⟩ := g_if hF
  obtain ⟨o5, g3, h1, hF⟩ := g_bind2 hF
  refine g_xcallv (vx_runV (As := [.int x1]) (rest := []) ⟨hx, hb, hml, hown, hts⟩ (k6_checkBee l hst D base g a0 x1 o5 g3 h1) (cwV 1 hts gX6_bee_X6_checkBee rfl rfl rfl (by decide +kernel) ⟨Nat.le_of_ble_eq_true rfl, Nat.le_of_ble_eq_true rfl⟩) (gC.preV hE hP hS 6 rfl (by decide) h2 [.int x1]) rfl rfl hl.1 rfl (lv_room (Nat.le_of_ble_eq_true rfl)) dX6_bee_2 ⟨(Nat.le_of_ble_eq_true rfl), (Nat.le_of_ble_eq_true rfl)⟩) hS ht hlocks (fun h0 => g_thr h0 hF) (Nat.le_of_ble_eq_true rfl) (Nat.le_of_ble_eq_true rfl) (fun H locs h6 hP hS => ?_)
  have hF := g_t h6 hF
  refine lv_iload_n hx hb dX6_bee_5 rfl (lv_at hl 2 rfl) ?_
  refine lv_bipush (v := 9) hx hb dX6_bee_6 (by decide) ?_
  obtain ⟨o10, g8, h7, hF⟩ := g_bind2 hF
  refine g_xcallv (vx_runS (As := [.int x2, .int ((9 : Int32))]) (rest := []) ⟨hx, hb, hml, hown, hts⟩ (k6_checkWhat l hst D base g3 x2 ((9 : Int32)) o10 g8 h7) (va_cwS 2 hts gX6_bee_X6_checkWhat rfl rfl rfl (by decide +kernel) ⟨Nat.le_of_ble_eq_true rfl, Nat.le_of_ble_eq_true rfl⟩) (gC.preS hE hP hS [.int x2, .int ((9 : Int32))]) rfl rfl hl.1 rfl (lv_room (Nat.le_of_ble_eq_true rfl)) dX6_bee_8 ⟨(Nat.le_of_ble_eq_true rfl), (Nat.le_of_ble_eq_true rfl)⟩) hS ht hlocks (fun h0 => g_thr h0 hF) (Nat.le_of_ble_eq_true rfl) (Nat.le_of_ble_eq_true rfl) (fun H locs h11 hP hS => ?_)
  have hF := g_t h11 hF
  refine lv_aload_n hx hb dX6_bee_11 rfl (lv_at hl 0 rfl) ?_
  obtain ⟨h12, hF⟩ := g_if hF
  obtain ⟨q13, hq14, hF⟩ := g_bind hF
  refine g_get hx hb hts hiX6 hown hK hP 6 rfl (by decide) h12 1 (by decide) (hts (.fieldLink RX6 21 "CourierBees" "now" "LCourierBees$Flight;") (by decide +kernel)) (fun _ h9 => h9) ((gFv_r (by decide)).trans (congrArg va_rf hq14)) dX6_bee_12 ?_
  obtain ⟨h15, hF⟩ := g_if hF
  obtain ⟨q16, hq17, hF⟩ := g_bind hF
  refine g_get hx hb hts hiX1 hown hK hP 1 rfl (by decide) h15 1 (by decide) (hts (.fieldLink RX6 106 "CourierBees$Flight" "bees" "[LCourierBees$Bee;") (by decide +kernel)) (fun _ h9 => h9) ((gFv_r (by decide)).trans (congrArg va_rf hq17)) dX6_bee_15 ?_
  refine lv_iload_n hx hb dX6_bee_18 rfl (lv_at hl 1 rfl) ?_
  obtain ⟨h18, hF⟩ := g_if hF
  obtain ⟨h19, hF⟩ := g_if hF
  obtain ⟨q20, hq21, hF⟩ := g_bind hF
  refine g_aald hx hb hP (g_pr h18) (by decide) h19 hq21 dX6_bee_19 ?_
  refine lv_iload_n hx hb dX6_bee_20 rfl (lv_at hl 2 rfl) ?_
  obtain ⟨h23, hF⟩ := g_if hF
  obtain ⟨v25, g24, h22, hF⟩ := g_bind2 hF
  refine g_calli (va_runV (As := [.int x2]) (rest := []) ⟨hx, hb, hml, hown, hts⟩ (k0_tell l D base g8 q20 x2 v25 g24 h22) (cwV 1 hts gX6_bee_X0_tell rfl rfl rfl (by decide +kernel) ⟨Nat.le_of_ble_eq_true rfl, Nat.le_of_ble_eq_true rfl⟩) (gC.preV hE hP hS 0 rfl (by decide) h23 [.int x2]) rfl rfl hl.1 rfl (lv_room (Nat.le_of_ble_eq_true rfl)) dX6_bee_21 ⟨(Nat.le_of_ble_eq_true rfl), (Nat.le_of_ble_eq_true rfl)⟩) hS (fun H locs hP hS => ?_)
  exact g_xretI hx hb hr hlocks hF hP hS (Nat.le_of_ble_eq_true rfl) (Nat.le_of_ble_eq_true rfl) dX6_bee_24
set_option maxHeartbeats 4000000 in
set_option maxRecDepth 100000 in
theorem k6_letter (l : Launch) (hst : l.stackTraces = false) (D : va_G) (base : Nat) (g : g_H) (a0 : Nat) (x1 : Int32) (x2 : Int32) (rr : Nat × Int32) (gz : g_H) (hF : f6_letter g a0 x1 x2 = some (rr, gz)) : vx_Met l yX6_letter wsX6_letter ({ frames := 7, cells := 2, slots := 12, locals := 111 } : Room) (va_Pc [.ref a0, .int x1, .int x2] (gC base D g)) (gXi base D rr gz) (gX base D rr gz) 2 12 (gA base) := by
  refine g_xmet (cc := cX6_letter) (maxL := 3) (ret := (some .int)) (lst := [(0, .ref a0), (1, .int x1), (2, .int x2)]) (by decide) rfl (Nat.le_of_ble_eq_true rfl) rfl ?_
  intro p e s m args below meth c ls hx hb hr hml hown hlocks hname hts hE hP hl ht
  have hown : s.vm.findClass RX6 = some m.cls := hown
  have hK := hE.1
  have hov := hE.2.2.2.2.2.2.2.1
  have hbz := hE.2.2.2.2.2.2.2.2.2.2.2.2
  have hS : va_S (gA base) s.heap s.heap [] := va_S.rf
  have hiX1 : ∀ w ∈ wsX10, w ∈ wsX6_letter := by decide +kernel
  have hiX6 : ∀ w ∈ wsX60, w ∈ wsX6_letter := by decide +kernel
  unfold f6_letter at hF
  refine lv_aload_n hx hb dX6_letter_0 rfl (lv_at hl 0 rfl) ?_
  refine lv_iload_n hx hb dX6_letter_1 rfl (lv_at hl 1 rfl) ?_
  obtain ⟨h2, hF⟩ := g_if hF
  obtain ⟨o5, g3, h1, hF⟩ := g_bind2 hF
  refine g_xcallv (vx_runV (As := [.int x1]) (rest := []) ⟨hx, hb, hml, hown, hts⟩ (k6_checkLetter l hst D base g a0 x1 o5 g3 h1) (cwV 1 hts gX6_letter_X6_checkLetter rfl rfl rfl (by decide +kernel) ⟨Nat.le_of_ble_eq_true rfl, Nat.le_of_ble_eq_true rfl⟩) (gC.preV hE hP hS 6 rfl (by decide) h2 [.int x1]) rfl rfl hl.1 rfl (lv_room (Nat.le_of_ble_eq_true rfl)) dX6_letter_2 ⟨(Nat.le_of_ble_eq_true rfl), (Nat.le_of_ble_eq_true rfl)⟩) hS ht hlocks (fun h0 => g_thr h0 hF) (Nat.le_of_ble_eq_true rfl) (Nat.le_of_ble_eq_true rfl) (fun H locs h6 hP hS => ?_)
  have hF := g_t h6 hF
  refine lv_iload_n hx hb dX6_letter_5 rfl (lv_at hl 2 rfl) ?_
  refine lv_iconst (v := 5) hx hb dX6_letter_6 (by decide) ?_
  obtain ⟨o10, g8, h7, hF⟩ := g_bind2 hF
  refine g_xcallv (vx_runS (As := [.int x2, .int ((5 : Int32))]) (rest := []) ⟨hx, hb, hml, hown, hts⟩ (k6_checkWhat l hst D base g3 x2 ((5 : Int32)) o10 g8 h7) (va_cwS 2 hts gX6_letter_X6_checkWhat rfl rfl rfl (by decide +kernel) ⟨Nat.le_of_ble_eq_true rfl, Nat.le_of_ble_eq_true rfl⟩) (gC.preS hE hP hS [.int x2, .int ((5 : Int32))]) rfl rfl hl.1 rfl (lv_room (Nat.le_of_ble_eq_true rfl)) dX6_letter_7 ⟨(Nat.le_of_ble_eq_true rfl), (Nat.le_of_ble_eq_true rfl)⟩) hS ht hlocks (fun h0 => g_thr h0 hF) (Nat.le_of_ble_eq_true rfl) (Nat.le_of_ble_eq_true rfl) (fun H locs h11 hP hS => ?_)
  have hF := g_t h11 hF
  refine lv_aload_n hx hb dX6_letter_10 rfl (lv_at hl 0 rfl) ?_
  obtain ⟨h12, hF⟩ := g_if hF
  obtain ⟨q13, hq14, hF⟩ := g_bind hF
  refine g_get hx hb hts hiX6 hown hK hP 6 rfl (by decide) h12 1 (by decide) (hts (.fieldLink RX6 21 "CourierBees" "now" "LCourierBees$Flight;") (by decide +kernel)) (fun _ h9 => h9) ((gFv_r (by decide)).trans (congrArg va_rf hq14)) dX6_letter_11 ?_
  obtain ⟨h15, hF⟩ := g_if hF
  obtain ⟨q16, hq17, hF⟩ := g_bind hF
  refine g_get hx hb hts hiX1 hown hK hP 1 rfl (by decide) h15 2 (by decide) (hts (.fieldLink RX6 149 "CourierBees$Flight" "letters" "[LCourierBees$Letter;") (by decide +kernel)) (fun _ h9 => h9) ((gFv_r (by decide)).trans (congrArg va_rf hq17)) dX6_letter_14 ?_
  refine lv_iload_n hx hb dX6_letter_17 rfl (lv_at hl 1 rfl) ?_
  obtain ⟨h18, hF⟩ := g_if hF
  obtain ⟨h19, hF⟩ := g_if hF
  obtain ⟨q20, hq21, hF⟩ := g_bind hF
  refine g_aald hx hb hP (g_pr h18) (by decide) h19 hq21 dX6_letter_18 ?_
  refine lv_iload_n hx hb dX6_letter_19 rfl (lv_at hl 2 rfl) ?_
  obtain ⟨h23, hF⟩ := g_if hF
  obtain ⟨v25, g24, h22, hF⟩ := g_bind2 hF
  refine g_calli (va_runV (As := [.int x2]) (rest := []) ⟨hx, hb, hml, hown, hts⟩ (k3_tell l D base g8 q20 x2 v25 g24 h22) (cwV 1 hts gX6_letter_X3_tell rfl rfl rfl (by decide +kernel) ⟨Nat.le_of_ble_eq_true rfl, Nat.le_of_ble_eq_true rfl⟩) (gC.preV hE hP hS 3 rfl (by decide) h23 [.int x2]) rfl rfl hl.1 rfl (lv_room (Nat.le_of_ble_eq_true rfl)) dX6_letter_20 ⟨(Nat.le_of_ble_eq_true rfl), (Nat.le_of_ble_eq_true rfl)⟩) hS (fun H locs hP hS => ?_)
  exact g_xretI hx hb hr hlocks hF hP hS (Nat.le_of_ble_eq_true rfl) (Nat.le_of_ble_eq_true rfl) dX6_letter_23
set_option maxHeartbeats 4000000 in
set_option maxRecDepth 100000 in
theorem k6_target (l : Launch) (hst : l.stackTraces = false) (D : va_G) (base : Nat) (g : g_H) (a0 : Nat) (x1 : Int32) (x2 : Int32) (rr : Nat × Int32) (gz : g_H) (hF : f6_target g a0 x1 x2 = some (rr, gz)) : vx_Met l yX6_target wsX6_target ({ frames := 7, cells := 2, slots := 12, locals := 111 } : Room) (va_Pc [.ref a0, .int x1, .int x2] (gC base D g)) (gXi base D rr gz) (gX base D rr gz) 2 12 (gA base) := by
  refine g_xmet (cc := cX6_target) (maxL := 3) (ret := (some .int)) (lst := [(0, .ref a0), (1, .int x1), (2, .int x2)]) (by decide) rfl (Nat.le_of_ble_eq_true rfl) rfl ?_
  intro p e s m args below meth c ls hx hb hr hml hown hlocks hname hts hE hP hl ht
  have hown : s.vm.findClass RX6 = some m.cls := hown
  have hK := hE.1
  have hov := hE.2.2.2.2.2.2.2.1
  have hbz := hE.2.2.2.2.2.2.2.2.2.2.2.2
  have hS : va_S (gA base) s.heap s.heap [] := va_S.rf
  have hiX0 : ∀ w ∈ wsX00, w ∈ wsX6_target := by decide +kernel
  have hiX1 : ∀ w ∈ wsX10, w ∈ wsX6_target := by decide +kernel
  have hiX6 : ∀ w ∈ wsX60, w ∈ wsX6_target := by decide +kernel
  unfold f6_target at hF
  refine lv_aload_n hx hb dX6_target_0 rfl (lv_at hl 0 rfl) ?_
  refine lv_iload_n hx hb dX6_target_1 rfl (lv_at hl 1 rfl) ?_
  obtain ⟨h2, hF⟩ := g_if hF
  obtain ⟨o5, g3, h1, hF⟩ := g_bind2 hF
  refine g_xcallv (vx_runV (As := [.int x1]) (rest := []) ⟨hx, hb, hml, hown, hts⟩ (k6_checkBee l hst D base g a0 x1 o5 g3 h1) (cwV 1 hts gX6_target_X6_checkBee rfl rfl rfl (by decide +kernel) ⟨Nat.le_of_ble_eq_true rfl, Nat.le_of_ble_eq_true rfl⟩) (gC.preV hE hP hS 6 rfl (by decide) h2 [.int x1]) rfl rfl hl.1 rfl (lv_room (Nat.le_of_ble_eq_true rfl)) dX6_target_2 ⟨(Nat.le_of_ble_eq_true rfl), (Nat.le_of_ble_eq_true rfl)⟩) hS ht hlocks (fun h0 => g_thr h0 hF) (Nat.le_of_ble_eq_true rfl) (Nat.le_of_ble_eq_true rfl) (fun H locs h6 hP hS => ?_)
  have hF := g_t h6 hF
  refine lv_aload_n hx hb dX6_target_5 rfl (lv_at hl 0 rfl) ?_
  refine lv_iload_n hx hb dX6_target_6 rfl (lv_at hl 2 rfl) ?_
  obtain ⟨h8, hF⟩ := g_if hF
  obtain ⟨o11, g9, h7, hF⟩ := g_bind2 hF
  refine g_xcallv (vx_runV (As := [.int x2]) (rest := []) ⟨hx, hb, hml, hown, hts⟩ (k6_checkHouse l hst D base g3 a0 x2 o11 g9 h7) (cwV 1 hts gX6_target_X6_checkHouse rfl rfl rfl (by decide +kernel) ⟨Nat.le_of_ble_eq_true rfl, Nat.le_of_ble_eq_true rfl⟩) (gC.preV hE hP hS 6 rfl (by decide) h8 [.int x2]) rfl rfl hl.1 rfl (lv_room (Nat.le_of_ble_eq_true rfl)) dX6_target_7 ⟨(Nat.le_of_ble_eq_true rfl), (Nat.le_of_ble_eq_true rfl)⟩) hS ht hlocks (fun h0 => g_thr h0 hF) (Nat.le_of_ble_eq_true rfl) (Nat.le_of_ble_eq_true rfl) (fun H locs h12 hP hS => ?_)
  have hF := g_t h12 hF
  refine lv_aload_n hx hb dX6_target_10 rfl (lv_at hl 0 rfl) ?_
  obtain ⟨h13, hF⟩ := g_if hF
  obtain ⟨q14, hq15, hF⟩ := g_bind hF
  refine g_get hx hb hts hiX6 hown hK hP 6 rfl (by decide) h13 1 (by decide) (hts (.fieldLink RX6 21 "CourierBees" "now" "LCourierBees$Flight;") (by decide +kernel)) (fun _ h9 => h9) ((gFv_r (by decide)).trans (congrArg va_rf hq15)) dX6_target_11 ?_
  obtain ⟨h16, hF⟩ := g_if hF
  obtain ⟨q17, hq18, hF⟩ := g_bind hF
  refine g_get hx hb hts hiX1 hown hK hP 1 rfl (by decide) h16 1 (by decide) (hts (.fieldLink RX6 106 "CourierBees$Flight" "bees" "[LCourierBees$Bee;") (by decide +kernel)) (fun _ h9 => h9) ((gFv_r (by decide)).trans (congrArg va_rf hq18)) dX6_target_14 ?_
  refine lv_iload_n hx hb dX6_target_17 rfl (lv_at hl 1 rfl) ?_
  obtain ⟨h19, hF⟩ := g_if hF
  obtain ⟨h20, hF⟩ := g_if hF
  obtain ⟨q21, hq22, hF⟩ := g_bind hF
  refine g_aald hx hb hP (g_pr h19) (by decide) h20 hq22 dX6_target_18 ?_
  obtain ⟨h23, hF⟩ := g_if hF
  obtain ⟨q24, hq25, hF⟩ := g_bind hF
  refine g_get hx hb hts hiX0 hown hK hP 0 rfl (by decide) h23 1 (by decide) (hts (.fieldLink RX6 181 "CourierBees$Bee" "route" "LCourierBees$Route;") (by decide +kernel)) (fun _ h9 => h9) ((gFv_r (by decide)).trans (congrArg va_rf hq25)) dX6_target_19 ?_
  refine lv_iload_n hx hb dX6_target_22 rfl (lv_at hl 2 rfl) ?_
  obtain ⟨h27, hF⟩ := g_if hF
  obtain ⟨v29, g28, h26, hF⟩ := g_bind2 hF
  refine g_calli (va_runV (As := [.int x2]) (rest := []) ⟨hx, hb, hml, hown, hts⟩ (k4_targetFor l D base g9 q24 x2 v29 g28 h26) (cwV 1 hts gX6_target_X4_targetFor rfl rfl rfl (by decide +kernel) ⟨Nat.le_of_ble_eq_true rfl, Nat.le_of_ble_eq_true rfl⟩) (gC.preV hE hP hS 4 rfl (by decide) h27 [.int x2]) rfl rfl hl.1 rfl (lv_room (Nat.le_of_ble_eq_true rfl)) dX6_target_23 ⟨(Nat.le_of_ble_eq_true rfl), (Nat.le_of_ble_eq_true rfl)⟩) hS (fun H locs hP hS => ?_)
  exact g_xretI hx hb hr hlocks hF hP hS (Nat.le_of_ble_eq_true rfl) (Nat.le_of_ble_eq_true rfl) dX6_target_26
