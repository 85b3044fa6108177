section
set_option maxHeartbeats 4000000 in
set_option maxRecDepth 100000 in
theorem k6_addHouse (l : Launch) (hst : l.stackTraces = false) (D : va_G) (base : Nat) (g : g_H) (a0 : Nat) (rr : Nat × Int32) (gz : g_H) (hF : f6_addHouse g a0 = some (rr, gz)) : vx_Met l yX6_addHouse wsX6_addHouse ({ frames := 6, cells := 1, slots := 6, locals := 90 } : Room) (va_Pc [.ref a0] (gC base D g)) (gXi base D rr gz) (gX base D rr gz) 1 6 (gA base) := by
  refine g_xmet (cc := cX6_addHouse) (maxL := 1) (ret := (some .int)) (lst := [(0, .ref a0)]) (by decide) rfl (Nat.le_of_ble_eq_true rfl) rfl ?_
  intro p e s m args below meth c ls hx hb hr hml hown hlocks hname hts hE hP hl ht
  have hown : s.vm.findClass RX6 = some m.cls := hown
  have hK := hE.1
  have hov := hE.2.2.2.2.2.2.2.1
  have hbz := hE.2.2.2.2.2.2.2.2.2.2.2.2
  have hS : va_S (gA base) s.heap s.heap [] := va_S.rf
  have hiX5 : ∀ w ∈ wsX50, w ∈ wsX6_addHouse := by decide +kernel
  have hiX6 : ∀ w ∈ wsX60, w ∈ wsX6_addHouse := by decide +kernel
  unfold f6_addHouse at hF
  refine lv_aload_n hx hb dX6_addHouse_0 rfl (lv_at hl 0 rfl) ?_
  obtain ⟨h1, hF⟩ := g_if hF
  obtain ⟨q2, hq3, hF⟩ := g_bind hF
  refine g_get hx hb hts hiX6 hown hK hP 6 rfl (by decide) h1 0 (by decide) (hts (.fieldLink RX6 10 "CourierBees" "town" "LCourierBees$Town;") (by decide +kernel)) (fun _ h9 => h9) ((gFv_r (by decide)).trans (congrArg va_rf hq3)) dX6_addHouse_1 ?_
  obtain ⟨h4, hF⟩ := g_if hF
  refine g_get hx hb hts hiX5 hown hK hP 5 rfl (by decide) h4 0 (by decide) (hts (.fieldLink RX6 35 "CourierBees$Town" "houseCount" "I") (by decide +kernel)) (fun _ h9 => h9) (gFv_i (Or.inl rfl)) dX6_addHouse_4 ?_
  refine lv_bipush (v := 14) hx hb dX6_addHouse_7 (by decide) ?_
  refine lv_icmp_lt (tgt := 22) hx hb dX6_addHouse_9 (by decide) (fun c5 => ?_) (fun c5 => ?_)
  · have hF := g_t c5 hF
    refine lv_aload_n hx hb dX6_addHouse_22 rfl (lv_at hl 0 rfl) ?_
    obtain ⟨q6, hq7, hF⟩ := g_bind hF
    refine g_get hx hb hts hiX6 hown hK hP 6 rfl (by decide) h1 0 (by decide) (hts (.fieldLink RX6 10 "CourierBees" "town" "LCourierBees$Town;") (by decide +kernel)) (fun _ h9 => h9) ((gFv_r (by decide)).trans (congrArg va_rf hq7)) dX6_addHouse_23 ?_
    refine lv_dup hx hb dX6_addHouse_26 rfl ?_
    obtain ⟨h8, hF⟩ := g_if hF
    refine g_get hx hb hts hiX5 hown hK hP 5 rfl (by decide) h8 0 (by decide) (hts (.fieldLink RX6 35 "CourierBees$Town" "houseCount" "I") (by decide +kernel)) (fun _ h9 => h9) (gFv_i (Or.inl rfl)) dX6_addHouse_27 ?_
    refine lv_dup_x1 hx hb dX6_addHouse_30 rfl rfl ?_
    refine lv_iconst (v := 1) hx hb dX6_addHouse_31 (by decide) ?_
    refine lv_iadd hx hb dX6_addHouse_32 ?_
    refine g_puti hx hb hts hiX5 tyX5 tyX5_ok nmX5 hown hK hP hS 5 rfl (by decide) h8 0 (by decide) (hts (.fieldLink RX6 35 "CourierBees$Town" "houseCount" "I") (by decide +kernel)) (fun _ h9 => h9) (Or.inl rfl) (Or.inl rfl) rfl rfl dX6_addHouse_33 (fun H locs hP hS => ?_)
    exact g_xretI hx hb hr hlocks hF hP hS (Nat.le_of_ble_eq_true rfl) (Nat.le_of_ble_eq_true rfl) dX6_addHouse_36
  · have hF := g_f c5 hF
    exact g_throwF hx hb hst hF (text := "there are 14 houses") hown hts (by decide +kernel) (hts (.classLink RX6 39 gES) (by decide +kernel)) (hts (.initialized gES) (by decide +kernel)) (by decide +kernel) g_bad3_43 (by decide) g_good3_39_43 (by decide) hE hP hS (hl.1.trans hml.symm) dX6_addHouse_12 dX6_addHouse_15 dX6_addHouse_16 dX6_addHouse_18 dX6_addHouse_21 ht (Nat.le_of_ble_eq_true rfl) (Nat.le_of_ble_eq_true rfl) (Nat.le_of_ble_eq_true rfl) (Nat.le_of_ble_eq_true rfl) hlocks (by decide) rfl (Nat.le_of_ble_eq_true rfl) (Nat.le_of_ble_eq_true rfl)
set_option maxHeartbeats 4000000 in
set_option maxRecDepth 100000 in
theorem k6_checkHouse (l : Launch) (hst : l.stackTraces = false) (D : va_G) (base : Nat) (g : g_H) (a0 : Nat) (x1 : Int32) (rr : Nat × Int32) (gz : g_H) (hF : f6_checkHouse g a0 x1 = some (rr, gz)) : vx_Met l yX6_checkHouse wsX6_checkHouse ({ frames := 6, cells := 1, slots := 6, locals := 90 } : Room) (va_Pc [.ref a0, .int x1] (gC base D g)) (gXv base D rr gz) (gX base D rr gz) 1 6 (gA base) := by
  refine g_xmet (cc := cX6_checkHouse) (maxL := 2) (ret := none) (lst := [(0, .ref a0), (1, .int x1)]) (by decide) rfl (Nat.le_of_ble_eq_true rfl) rfl ?_
  intro p e s m args below meth c ls hx hb hr hml hown hlocks hname hts hE hP hl ht
  have hown : s.vm.findClass RX6 = some m.cls := hown
  have hK := hE.1
  have hov := hE.2.2.2.2.2.2.2.1
  have hbz := hE.2.2.2.2.2.2.2.2.2.2.2.2
  have hS : va_S (gA base) s.heap s.heap [] := va_S.rf
  have hiX6 : ∀ w ∈ wsX60, w ∈ wsX6_checkHouse := by decide +kernel
  unfold f6_checkHouse at hF
  refine lv_aload_n hx hb dX6_checkHouse_0 rfl (lv_at hl 0 rfl) ?_
  obtain ⟨h1, hF⟩ := g_if hF
  obtain ⟨q2, hq3, hF⟩ := g_bind hF
  refine g_get hx hb hts hiX6 hown hK hP 6 rfl (by decide) h1 0 (by decide) (hts (.fieldLink RX6 10 "CourierBees" "town" "LCourierBees$Town;") (by decide +kernel)) (fun _ h9 => h9) ((gFv_r (by decide)).trans (congrArg va_rf hq3)) dX6_checkHouse_1 ?_
  refine lv_iload_n hx hb dX6_checkHouse_4 rfl (lv_at hl 1 rfl) ?_
  obtain ⟨h5, hF⟩ := g_if hF
  obtain ⟨v7, g6, h4, hF⟩ := g_bind2 hF
  refine g_calli (va_runV (As := [.int x1]) (rest := []) ⟨hx, hb, hml, hown, hts⟩ (k5_hasHouse l D base g q2 x1 v7 g6 h4) (cwV 1 hts gX6_checkHouse_X5_hasHouse rfl rfl rfl (by decide +kernel) ⟨Nat.le_of_ble_eq_true rfl, Nat.le_of_ble_eq_true rfl⟩) (gC.preV hE hP hS 5 rfl (by decide) h5 [.int x1]) rfl rfl hl.1 rfl (lv_room (Nat.le_of_ble_eq_true rfl)) dX6_checkHouse_5 ⟨(Nat.le_of_ble_eq_true rfl), (Nat.le_of_ble_eq_true rfl)⟩) hS (fun H locs hP hS => ?_)
  refine lv_if_ne (tgt := 21) hx hb dX6_checkHouse_8 (by decide) (fun c8 => ?_) (fun c8 => ?_)
  · have hF := g_f c8 hF
    exact g_xretV hx hb hr hlocks hF hP hS (Nat.le_of_ble_eq_true rfl) (Nat.le_of_ble_eq_true rfl) dX6_checkHouse_21
  · have hF := g_t c8 hF
    exact g_throwF hx hb hst hF (text := "no such house") hown hts (by decide +kernel) (hts (.classLink RX6 78 gEI) (by decide +kernel)) (hts (.initialized gEI) (by decide +kernel)) (by decide +kernel) g_bad1_82 (by decide) g_good1_78_82 (by decide) hE hP hS (hl.1.trans hml.symm) dX6_checkHouse_11 dX6_checkHouse_14 dX6_checkHouse_15 dX6_checkHouse_17 dX6_checkHouse_20 ht (Nat.le_of_ble_eq_true rfl) (Nat.le_of_ble_eq_true rfl) (Nat.le_of_ble_eq_true rfl) (Nat.le_of_ble_eq_true rfl) hlocks (by decide) rfl (Nat.le_of_ble_eq_true rfl) (Nat.le_of_ble_eq_true rfl)
set_option maxHeartbeats 4000000 in
set_option maxRecDepth 100000 in
theorem k6_setHive (l : Launch) (hst : l.stackTraces = false) (D : va_G) (base : Nat) (g : g_H) (a0 : Nat) (x1 : Int32) (x2 : Int32) (rr : Nat × Int32) (gz : g_H) (hF : f6_setHive g a0 x1 x2 = some (rr, gz)) : vx_Met l yX6_setHive wsX6_setHive ({ frames := 7, cells := 1, slots := 6, locals := 111 } : Room) (va_Pc [.ref a0, .int x1, .int x2] (gC base D g)) (gXi base D rr gz) (gX base D rr gz) 1 6 (gA base) := by
  refine g_xmet (cc := cX6_setHive) (maxL := 4) (ret := (some .boolean)) (lst := [(0, .ref a0), (1, .int x1), (2, .int x2)]) (by decide) rfl (Nat.le_of_ble_eq_true rfl) rfl ?_
  intro p e s m args below meth c ls hx hb hr hml hown hlocks hname hts hE hP hl ht
  have hown : s.vm.findClass RX6 = some m.cls := hown
  have hK := hE.1
  have hov := hE.2.2.2.2.2.2.2.1
  have hbz := hE.2.2.2.2.2.2.2.2.2.2.2.2
  have hS : va_S (gA base) s.heap s.heap [] := va_S.rf
  have hiX5 : ∀ w ∈ wsX50, w ∈ wsX6_setHive := by decide +kernel
  have hiX6 : ∀ w ∈ wsX60, w ∈ wsX6_setHive := by decide +kernel
  unfold f6_setHive at hF
  refine lv_aload_n hx hb dX6_setHive_0 rfl (lv_at hl 0 rfl) ?_
  refine lv_iload_n hx hb dX6_setHive_1 rfl (lv_at hl 1 rfl) ?_
  obtain ⟨h2, hF⟩ := g_if hF
  obtain ⟨o5, g3, h1, hF⟩ := g_bind2 hF
  refine g_xcallv (vx_runV (As := [.int x1]) (rest := []) ⟨hx, hb, hml, hown, hts⟩ (k6_checkHouse l hst D base g a0 x1 o5 g3 h1) (cwV 1 hts gX6_setHive_X6_checkHouse rfl rfl rfl (by decide +kernel) ⟨Nat.le_of_ble_eq_true rfl, Nat.le_of_ble_eq_true rfl⟩) (gC.preV hE hP hS 6 rfl (by decide) h2 [.int x1]) rfl rfl hl.1 rfl (lv_room (Nat.le_of_ble_eq_true rfl)) dX6_setHive_2 ⟨(Nat.le_of_ble_eq_true rfl), (Nat.le_of_ble_eq_true rfl)⟩) hS ht hlocks (fun h0 => g_thr h0 hF) (Nat.le_of_ble_eq_true rfl) (Nat.le_of_ble_eq_true rfl) (fun H locs h6 hP hS => ?_)
  have hF := g_t h6 hF
  refine lv_aload_n hx hb dX6_setHive_5 rfl (lv_at hl 0 rfl) ?_
  obtain ⟨h7, hF⟩ := g_if hF
  obtain ⟨q8, hq9, hF⟩ := g_bind hF
  refine g_get hx hb hts hiX6 hown hK hP 6 rfl (by decide) h7 0 (by decide) (hts (.fieldLink RX6 10 "CourierBees" "town" "LCourierBees$Town;") (by decide +kernel)) (fun _ h9 => h9) ((gFv_r (by decide)).trans (congrArg va_rf hq9)) dX6_setHive_6 ?_
  refine lv_iload_n hx hb dX6_setHive_9 rfl (lv_at hl 1 rfl) ?_
  obtain ⟨h11, hF⟩ := g_if hF
  obtain ⟨v13, g12, h10, hF⟩ := g_bind2 hF
  refine g_calli (va_runV (As := [.int x1]) (rest := []) ⟨hx, hb, hml, hown, hts⟩ (k5_hasHive l D base g3 q8 x1 v13 g12 h10) (cwV 1 hts gX6_setHive_X5_hasHive rfl rfl rfl (by decide +kernel) ⟨Nat.le_of_ble_eq_true rfl, Nat.le_of_ble_eq_true rfl⟩) (gC.preV hE hP hS 5 rfl (by decide) h11 [.int x1]) rfl rfl hl.1 rfl (lv_room (Nat.le_of_ble_eq_true rfl)) dX6_setHive_10 ⟨(Nat.le_of_ble_eq_true rfl), (Nat.le_of_ble_eq_true rfl)⟩) hS (fun H locs hP hS => ?_)
  refine lv_istore_n (lv' := [(3, .int v13), (0, .ref a0), (1, .int x1), (2, .int x2)]) hx hb dX6_setHive_13 rfl hl (by decide) rfl (fun ls hl => ?_)
  refine lv_aload_n hx hb dX6_setHive_14 rfl (lv_at hl 1 rfl) ?_
  obtain ⟨h14, hF⟩ := g_if hF
  obtain ⟨q15, hq16, hF⟩ := g_bind hF
  refine g_get hx hb hts hiX6 hown hK hP 6 rfl (by decide) h14 0 (by decide) (hts (.fieldLink RX6 10 "CourierBees" "town" "LCourierBees$Town;") (by decide +kernel)) (fun _ h9 => h9) ((gFv_r (by decide)).trans (congrArg va_rf hq16)) dX6_setHive_15 ?_
  obtain ⟨h17, hF⟩ := g_if hF
  obtain ⟨q18, hq19, hF⟩ := g_bind hF
  refine g_get hx hb hts hiX5 hown hK hP 5 rfl (by decide) h17 2 (by decide) (hts (.fieldLink RX6 54 "CourierBees$Town" "hives" "[Z") (by decide +kernel)) (fun _ h9 => h9) ((gFv_r (by decide)).trans (congrArg va_rf hq19)) dX6_setHive_18 ?_
  refine lv_iload_n hx hb dX6_setHive_21 rfl (lv_at hl 2 rfl) ?_
  refine lv_iload_n hx hb dX6_setHive_22 rfl (lv_at hl 3 rfl) ?_
  obtain ⟨h20, hF⟩ := g_if hF
  obtain ⟨h21, hF⟩ := g_if hF
  obtain ⟨h22, hF⟩ := g_if hF
  refine g_zast hx hb hP hS (g_pr h20) h21 h22 dX6_setHive_23 (fun H locs hP hS => ?_)
  refine lv_iload_n hx hb dX6_setHive_24 rfl (lv_at hl 0 rfl) ?_
  obtain ⟨h23, hF⟩ := g_if hF
  exact g_xretZ hx hb hr h23 hlocks hF hP hS (Nat.le_of_ble_eq_true rfl) (Nat.le_of_ble_eq_true rfl) dX6_setHive_25
set_option maxHeartbeats 4000000 in
set_option maxRecDepth 100000 in
theorem k6_addLane (l : Launch) (hst : l.stackTraces = false) (D : va_G) (base : Nat) (g : g_H) (a0 : Nat) (x1 : Int32) (x2 : Int32) (x3 : Int32) (rr : Nat × Int32) (gz : g_H) (hF : f6_addLane g a0 x1 x2 x3 = some (rr, gz)) : vx_Met l yX6_addLane wsX6_addLane ({ frames := 7, cells := 3, slots := 18, locals := 111 } : Room) (va_Pc [.ref a0, .int x1, .int x2, .int x3] (gC base D g)) (gXi base D rr gz) (gX base D rr gz) 3 18 (gA base) := by
  refine g_xmet (cc := cX6_addLane) (maxL := 4) (ret := (some .int)) (lst := [(0, .ref a0), (1, .int x1), (2, .int x2), (3, .int x3)]) (by decide) rfl (Nat.le_of_ble_eq_true rfl) rfl ?_
  intro p e s m args below meth c ls hx hb hr hml hown hlocks hname hts hE hP hl ht
  have hown : s.vm.findClass RX6 = some m.cls := hown
  have hK := hE.1
  have hov := hE.2.2.2.2.2.2.2.1
  have hbz := hE.2.2.2.2.2.2.2.2.2.2.2.2
  have hS : va_S (gA base) s.heap s.heap [] := va_S.rf
  have hiX1 : ∀ w ∈ wsX10, w ∈ wsX6_addLane := by decide +kernel
  have hiX5 : ∀ w ∈ wsX50, w ∈ wsX6_addLane := by decide +kernel
  have hiX6 : ∀ w ∈ wsX60, w ∈ wsX6_addLane := by decide +kernel
  have HB26 : ∀ (g : g_H)  (H : Heap) (locs : List Loc) (ls : Array Slot), f6_addLane_26 g  = some (rr, gz) → gP base D s g H → va_S (gA base) s.heap H locs → lv_has ls 4 [] → W p l e ({ frames := 7, cells := 3, slots := 18, locals := 111 } : Room) s m args below meth c H locs 2 12 (vx_MQ below (gXi base D rr gz) (gX base D rr gz) args s 3 18 (gA base)) (F0 m 26 ls []) := by
    intro g  H locs ls hF hP hS hl
    unfold f6_addLane_26 at hF
    exact g_throwF hx hb hst hF (text := "no lane can be like this") hown hts (by decide +kernel) (hts (.classLink RX6 58 gEA) (by decide +kernel)) (hts (.initialized gEA) (by decide +kernel)) (by decide +kernel) g_bad2_62 (by decide) g_good2_58_62 (by decide) hE hP hS (hl.1.trans hml.symm) dX6_addLane_26 dX6_addLane_29 dX6_addLane_30 dX6_addLane_32 dX6_addLane_35 ht (Nat.le_of_ble_eq_true rfl) (Nat.le_of_ble_eq_true rfl) (Nat.le_of_ble_eq_true rfl) (Nat.le_of_ble_eq_true rfl) hlocks (by decide) rfl (Nat.le_of_ble_eq_true rfl) (Nat.le_of_ble_eq_true rfl)
  have HB58 : ∀ (g : g_H)  (H : Heap) (locs : List Loc) (ls : Array Slot), f6_addLane_58 g  = some (rr, gz) → gP base D s g H → va_S (gA base) s.heap H locs → lv_has ls 4 [] → W p l e ({ frames := 7, cells := 3, slots := 18, locals := 111 } : Room) s m args below meth c H locs 2 12 (vx_MQ below (gXi base D rr gz) (gX base D rr gz) args s 3 18 (gA base)) (F0 m 58 ls []) := by
    intro g  H locs ls hF hP hS hl
    unfold f6_addLane_58 at hF
    exact g_throwF hx hb hst hF (text := "there are 24 lanes, or there is a bee") hown hts (by decide +kernel) (hts (.classLink RX6 39 gES) (by decide +kernel)) (hts (.initialized gES) (by decide +kernel)) (by decide +kernel) g_bad3_43 (by decide) g_good3_39_43 (by decide) hE hP hS (hl.1.trans hml.symm) dX6_addLane_58 dX6_addLane_61 dX6_addLane_62 dX6_addLane_64 dX6_addLane_67 ht (Nat.le_of_ble_eq_true rfl) (Nat.le_of_ble_eq_true rfl) (Nat.le_of_ble_eq_true rfl) (Nat.le_of_ble_eq_true rfl) hlocks (by decide) rfl (Nat.le_of_ble_eq_true rfl) (Nat.le_of_ble_eq_true rfl)
  unfold f6_addLane at hF
  refine lv_aload_n hx hb dX6_addLane_0 rfl (lv_at hl 0 rfl) ?_
  refine lv_iload_n hx hb dX6_addLane_1 rfl (lv_at hl 1 rfl) ?_
  obtain ⟨h2, hF⟩ := g_if hF
  obtain ⟨o5, g3, h1, hF⟩ := g_bind2 hF
  refine g_xcallv (vx_runV (As := [.int x1]) (rest := []) ⟨hx, hb, hml, hown, hts⟩ (k6_checkHouse l hst D base g a0 x1 o5 g3 h1) (cwV 1 hts gX6_addLane_X6_checkHouse rfl rfl rfl (by decide +kernel) ⟨Nat.le_of_ble_eq_true rfl, Nat.le_of_ble_eq_true rfl⟩) (gC.preV hE hP hS 6 rfl (by decide) h2 [.int x1]) rfl rfl hl.1 rfl (lv_room (Nat.le_of_ble_eq_true rfl)) dX6_addLane_2 ⟨(Nat.le_of_ble_eq_true rfl), (Nat.le_of_ble_eq_true rfl)⟩) hS ht hlocks (fun h0 => g_thr h0 hF) (Nat.le_of_ble_eq_true rfl) (Nat.le_of_ble_eq_true rfl) (fun H locs h6 hP hS => ?_)
  have hF := g_t h6 hF
  refine lv_aload_n hx hb dX6_addLane_5 rfl (lv_at hl 0 rfl) ?_
  refine lv_iload_n hx hb dX6_addLane_6 rfl (lv_at hl 2 rfl) ?_
  obtain ⟨h8, hF⟩ := g_if hF
  obtain ⟨o11, g9, h7, hF⟩ := g_bind2 hF
  refine g_xcallv (vx_runV (As := [.int x2]) (rest := []) ⟨hx, hb, hml, hown, hts⟩ (k6_checkHouse l hst D base g3 a0 x2 o11 g9 h7) (cwV 1 hts gX6_addLane_X6_checkHouse rfl rfl rfl (by decide +kernel) ⟨Nat.le_of_ble_eq_true rfl, Nat.le_of_ble_eq_true rfl⟩) (gC.preV hE hP hS 6 rfl (by decide) h8 [.int x2]) rfl rfl hl.1 rfl (lv_room (Nat.le_of_ble_eq_true rfl)) dX6_addLane_7 ⟨(Nat.le_of_ble_eq_true rfl), (Nat.le_of_ble_eq_true rfl)⟩) hS ht hlocks (fun h0 => g_thr h0 hF) (Nat.le_of_ble_eq_true rfl) (Nat.le_of_ble_eq_true rfl) (fun H locs h12 hP hS => ?_)
  have hF := g_t h12 hF
  refine lv_iload_n hx hb dX6_addLane_10 rfl (lv_at hl 1 rfl) ?_
  refine lv_iload_n hx hb dX6_addLane_11 rfl (lv_at hl 2 rfl) ?_
  refine lv_icmp_eq (tgt := 26) hx hb dX6_addLane_12 (by decide) (fun c13 => ?_) (fun c13 => ?_)
  · have hF := g_t c13 hF
    exact HB26 _ _ _ _ hF hP hS (lv_sub hl [] rfl)
  · have hF := g_f c13 hF
    refine lv_iload_n hx hb dX6_addLane_15 rfl (lv_at hl 3 rfl) ?_
    refine lv_iconst (v := 1) hx hb dX6_addLane_16 (by decide) ?_
    refine lv_icmp_lt (tgt := 26) hx hb dX6_addLane_17 (by decide) (fun c14 => ?_) (fun c14 => ?_)
    · have hF := g_t c14 hF
      exact HB26 _ _ _ _ hF hP hS (lv_sub hl [] rfl)
    · have hF := g_f c14 hF
      refine lv_iload_n hx hb dX6_addLane_20 rfl (lv_at hl 3 rfl) ?_
      refine lv_bipush (v := 6) hx hb dX6_addLane_21 (by decide) ?_
      refine lv_icmp_le (tgt := 36) hx hb dX6_addLane_23 (by decide) (fun c15 => ?_) (fun c15 => ?_)
      · have hF := g_t c15 hF
        refine lv_aload_n hx hb dX6_addLane_36 rfl (lv_at hl 0 rfl) ?_
        obtain ⟨h16, hF⟩ := g_if hF
        obtain ⟨q17, hq18, hF⟩ := g_bind hF
        refine g_get hx hb hts hiX6 hown hK hP 6 rfl (by decide) h16 0 (by decide) (hts (.fieldLink RX6 10 "CourierBees" "town" "LCourierBees$Town;") (by decide +kernel)) (fun _ h9 => h9) ((gFv_r (by decide)).trans (congrArg va_rf hq18)) dX6_addLane_37 ?_
        obtain ⟨h19, hF⟩ := g_if hF
        refine g_get hx hb hts hiX5 hown hK hP 5 rfl (by decide) h19 1 (by decide) (hts (.fieldLink RX6 63 "CourierBees$Town" "laneCount" "I") (by decide +kernel)) (fun _ h9 => h9) (gFv_i (Or.inl rfl)) dX6_addLane_40 ?_
        refine lv_bipush (v := 24) hx hb dX6_addLane_43 (by decide) ?_
        refine lv_icmp_ge (tgt := 58) hx hb dX6_addLane_45 (by decide) (fun c20 => ?_) (fun c20 => ?_)
        · have hF := g_t c20 hF
          exact HB58 _ _ _ _ hF hP hS (lv_sub hl [] rfl)
        · have hF := g_f c20 hF
          refine lv_aload_n hx hb dX6_addLane_48 rfl (lv_at hl 0 rfl) ?_
          obtain ⟨q21, hq22, hF⟩ := g_bind hF
          refine g_get hx hb hts hiX6 hown hK hP 6 rfl (by decide) h16 1 (by decide) (hts (.fieldLink RX6 21 "CourierBees" "now" "LCourierBees$Flight;") (by decide +kernel)) (fun _ h9 => h9) ((gFv_r (by decide)).trans (congrArg va_rf hq22)) dX6_addLane_49 ?_
          obtain ⟨h23, hF⟩ := g_if hF
          refine g_get hx hb hts hiX1 hown hK hP 1 rfl (by decide) h23 3 (by decide) (hts (.fieldLink RX6 66 "CourierBees$Flight" "beeCount" "I") (by decide +kernel)) (fun _ h9 => h9) (gFv_i (Or.inl rfl)) dX6_addLane_52 ?_
          refine lv_if_le (tgt := 68) hx hb dX6_addLane_55 (by decide) (fun c24 => ?_) (fun c24 => ?_)
          · have hF := g_t c24 hF
            refine lv_aload_n hx hb dX6_addLane_68 rfl (lv_at hl 0 rfl) ?_
            obtain ⟨q25, hq26, hF⟩ := g_bind hF
            refine g_get hx hb hts hiX6 hown hK hP 6 rfl (by decide) h16 0 (by decide) (hts (.fieldLink RX6 10 "CourierBees" "town" "LCourierBees$Town;") (by decide +kernel)) (fun _ h9 => h9) ((gFv_r (by decide)).trans (congrArg va_rf hq26)) dX6_addLane_69 ?_
            refine lv_iload_n hx hb dX6_addLane_72 rfl (lv_at hl 1 rfl) ?_
            refine lv_iload_n hx hb dX6_addLane_73 rfl (lv_at hl 2 rfl) ?_
            refine lv_iload_n hx hb dX6_addLane_74 rfl (lv_at hl 3 rfl) ?_
            obtain ⟨h28, hF⟩ := g_if hF
            obtain ⟨v30, g29, h27, hF⟩ := g_bind2 hF
            refine g_calli (va_runV (As := [.int x1, .int x2, .int x3]) (rest := []) ⟨hx, hb, hml, hown, hts⟩ (k5_join l D base g9 q25 x1 x2 x3 v30 g29 h27) (cwV 3 hts gX6_addLane_X5_join rfl rfl rfl (by decide +kernel) ⟨Nat.le_of_ble_eq_true rfl, Nat.le_of_ble_eq_true rfl⟩) (gC.preV hE hP hS 5 rfl (by decide) h28 [.int x1, .int x2, .int x3]) rfl rfl hl.1 rfl (lv_room (Nat.le_of_ble_eq_true rfl)) dX6_addLane_75 ⟨(Nat.le_of_ble_eq_true rfl), (Nat.le_of_ble_eq_true rfl)⟩) hS (fun H locs hP hS => ?_)
            exact g_xretI hx hb hr hlocks hF hP hS (Nat.le_of_ble_eq_true rfl) (Nat.le_of_ble_eq_true rfl) dX6_addLane_78
          · have hF := g_f c24 hF
            exact HB58 _ _ _ _ hF hP hS (lv_sub hl [] rfl)
      · have hF := g_f c15 hF
        exact HB26 _ _ _ _ hF hP hS (lv_sub hl [] rfl)
set_option maxHeartbeats 4000000 in
set_option maxRecDepth 100000 in
theorem k6_setGate (l : Launch) (hst : l.stackTraces = false) (D : va_G) (base : Nat) (g : g_H) (a0 : Nat) (x1 : Int32) (x2 : Int32) (x3 : Int32) (rr : Nat × Int32) (gz : g_H) (hF : f6_setGate g a0 x1 x2 x3 = some (rr, gz)) : vx_Met l yX6_setGate wsX6_setGate ({ frames := 6, cells := 1, slots := 6, locals := 90 } : Room) (va_Pc [.ref a0, .int x1, .int x2, .int x3] (gC base D g)) (gXi base D rr gz) (gX base D rr gz) 1 6 (gA base) := by
  refine g_xmet (cc := cX6_setGate) (maxL := 6) (ret := (some .int)) (lst := [(0, .ref a0), (1, .int x1), (2, .int x2), (3, .int x3)]) (by decide) rfl (Nat.le_of_ble_eq_true rfl) rfl ?_
  intro p e s m args below meth c ls hx hb hr hml hown hlocks hname hts hE hP hl ht
  have hown : s.vm.findClass RX6 = some m.cls := hown
  have hK := hE.1
  have hov := hE.2.2.2.2.2.2.2.1
  have hbz := hE.2.2.2.2.2.2.2.2.2.2.2.2
  have hS : va_S (gA base) s.heap s.heap [] := va_S.rf
  have hiX2 : ∀ w ∈ wsX20, w ∈ wsX6_setGate := by decide +kernel
  have hiX5 : ∀ w ∈ wsX50, w ∈ wsX6_setGate := by decide +kernel
  have hiX6 : ∀ w ∈ wsX60, w ∈ wsX6_setGate := by decide +kernel
  have HB42 : ∀ (g : g_H)  (H : Heap) (locs : List Loc) (ls : Array Slot), f6_setGate_42 g  = some (rr, gz) → gP base D s g H → va_S (gA base) s.heap H locs → lv_has ls 6 [] → W p l e ({ frames := 6, cells := 1, slots := 6, locals := 90 } : Room) s m args below meth c H locs 0 0 (vx_MQ below (gXi base D rr gz) (gX base D rr gz) args s 1 6 (gA base)) (F0 m 42 ls []) := by
    intro g  H locs ls hF hP hS hl
    unfold f6_setGate_42 at hF
    exact g_throwF hx hb hst hF (text := "no gate can be open like this") hown hts (by decide +kernel) (hts (.classLink RX6 58 gEA) (by decide +kernel)) (hts (.initialized gEA) (by decide +kernel)) (by decide +kernel) g_bad2_62 (by decide) g_good2_58_62 (by decide) hE hP hS (hl.1.trans hml.symm) dX6_setGate_42 dX6_setGate_45 dX6_setGate_46 dX6_setGate_48 dX6_setGate_51 ht (Nat.le_of_ble_eq_true rfl) (Nat.le_of_ble_eq_true rfl) (Nat.le_of_ble_eq_true rfl) (Nat.le_of_ble_eq_true rfl) hlocks (by decide) rfl (Nat.le_of_ble_eq_true rfl) (Nat.le_of_ble_eq_true rfl)
  unfold f6_setGate at hF
  refine lv_aload_n hx hb dX6_setGate_0 rfl (lv_at hl 0 rfl) ?_
  obtain ⟨h1, hF⟩ := g_if hF
  obtain ⟨q2, hq3, hF⟩ := g_bind hF
  refine g_get hx hb hts hiX6 hown hK hP 6 rfl (by decide) h1 0 (by decide) (hts (.fieldLink RX6 10 "CourierBees" "town" "LCourierBees$Town;") (by decide +kernel)) (fun _ h9 => h9) ((gFv_r (by decide)).trans (congrArg va_rf hq3)) dX6_setGate_1 ?_
  refine lv_iload_n hx hb dX6_setGate_4 rfl (lv_at hl 1 rfl) ?_
  obtain ⟨h5, hF⟩ := g_if hF
  obtain ⟨v7, g6, h4, hF⟩ := g_bind2 hF
  refine g_calli (va_runV (As := [.int x1]) (rest := []) ⟨hx, hb, hml, hown, hts⟩ (k5_hasLane l D base g q2 x1 v7 g6 h4) (cwV 1 hts gX6_setGate_X5_hasLane rfl rfl rfl (by decide +kernel) ⟨Nat.le_of_ble_eq_true rfl, Nat.le_of_ble_eq_true rfl⟩) (gC.preV hE hP hS 5 rfl (by decide) h5 [.int x1]) rfl rfl hl.1 rfl (lv_room (Nat.le_of_ble_eq_true rfl)) dX6_setGate_5 ⟨(Nat.le_of_ble_eq_true rfl), (Nat.le_of_ble_eq_true rfl)⟩) hS (fun H locs hP hS => ?_)
  refine lv_if_ne (tgt := 21) hx hb dX6_setGate_8 (by decide) (fun c8 => ?_) (fun c8 => ?_)
  · have hF := g_f c8 hF
    refine lv_iload_n hx hb dX6_setGate_21 rfl (lv_at hl 2 rfl) ?_
    refine lv_if_lt (tgt := 42) hx hb dX6_setGate_22 (by decide) (fun c9 => ?_) (fun c9 => ?_)
    · have hF := g_t c9 hF
      exact HB42 _ _ _ _ hF hP hS (lv_sub hl [] rfl)
    · have hF := g_f c9 hF
      refine lv_iload_n hx hb dX6_setGate_25 rfl (lv_at hl 2 rfl) ?_
      refine lv_bipush (v := 24) hx hb dX6_setGate_26 (by decide) ?_
      refine lv_icmp_ge (tgt := 42) hx hb dX6_setGate_28 (by decide) (fun c10 => ?_) (fun c10 => ?_)
      · have hF := g_t c10 hF
        exact HB42 _ _ _ _ hF hP hS (lv_sub hl [] rfl)
      · have hF := g_f c10 hF
        refine lv_iload_n hx hb dX6_setGate_31 rfl (lv_at hl 3 rfl) ?_
        refine lv_iload_n hx hb dX6_setGate_32 rfl (lv_at hl 2 rfl) ?_
        refine lv_icmp_lt (tgt := 42) hx hb dX6_setGate_33 (by decide) (fun c11 => ?_) (fun c11 => ?_)
        · have hF := g_t c11 hF
          exact HB42 _ _ _ _ hF hP hS (lv_sub hl [] rfl)
        · have hF := g_f c11 hF
          refine lv_iload_n hx hb dX6_setGate_36 rfl (lv_at hl 3 rfl) ?_
          refine lv_bipush (v := 24) hx hb dX6_setGate_37 (by decide) ?_
          refine lv_icmp_le (tgt := 52) hx hb dX6_setGate_39 (by decide) (fun c12 => ?_) (fun c12 => ?_)
          · have hF := g_t c12 hF
            refine lv_aload_n hx hb dX6_setGate_52 rfl (lv_at hl 0 rfl) ?_
            obtain ⟨h13, hF⟩ := g_if hF
            obtain ⟨q14, hq15, hF⟩ := g_bind hF
            refine g_get hx hb hts hiX6 hown hK hP 6 rfl (by decide) h13 0 (by decide) (hts (.fieldLink RX6 10 "CourierBees" "town" "LCourierBees$Town;") (by decide +kernel)) (fun _ h9 => h9) ((gFv_r (by decide)).trans (congrArg va_rf hq15)) dX6_setGate_53 ?_
            obtain ⟨h16, hF⟩ := g_if hF
            obtain ⟨q17, hq18, hF⟩ := g_bind hF
            refine g_get hx hb hts hiX5 hown hK hP 5 rfl (by decide) h16 3 (by decide) (hts (.fieldLink RX6 85 "CourierBees$Town" "lanes" "[LCourierBees$Lane;") (by decide +kernel)) (fun _ h9 => h9) ((gFv_r (by decide)).trans (congrArg va_rf hq18)) dX6_setGate_56 ?_
            refine lv_iload_n hx hb dX6_setGate_59 rfl (lv_at hl 1 rfl) ?_
            obtain ⟨h19, hF⟩ := g_if hF
            obtain ⟨h20, hF⟩ := g_if hF
            obtain ⟨q21, hq22, hF⟩ := g_bind hF
            refine g_aald hx hb hP (g_pr h19) (by decide) h20 hq22 dX6_setGate_60 ?_
            refine lv_astore (lv' := [(4, .ref q21), (0, .ref a0), (1, .int x1), (2, .int x2), (3, .int x3)]) hx hb dX6_setGate_61 hl (by decide) rfl (fun ls hl => ?_)
            refine lv_bipush (v := 100) hx hb dX6_setGate_63 (by decide) ?_
            refine lv_aload hx hb dX6_setGate_65 (lv_at hl 0 rfl) ?_
            obtain ⟨h23, hF⟩ := g_if hF
            refine g_get hx hb hts hiX2 hown hK hP 2 rfl (by decide) h23 3 (by decide) (hts (.fieldLink RX6 89 "CourierBees$Lane" "from" "I") (by decide +kernel)) (fun _ h9 => h9) (gFv_i (Or.inl rfl)) dX6_setGate_67 ?_
            refine lv_imul hx hb dX6_setGate_70 ?_
            refine lv_aload hx hb dX6_setGate_71 (lv_at hl 0 rfl) ?_
            refine g_get hx hb hts hiX2 hown hK hP 2 rfl (by decide) h23 4 (by decide) (hts (.fieldLink RX6 94 "CourierBees$Lane" "till" "I") (by decide +kernel)) (fun _ h9 => h9) (gFv_i (Or.inl rfl)) dX6_setGate_73 ?_
            refine lv_iadd hx hb dX6_setGate_76 ?_
            refine lv_istore (lv' := [(5, .int ((((100 : Int32)) * (gI g6 q21 3)) + (gI g6 q21 4))), (4, .ref q21), (0, .ref a0), (1, .int x1), (2, .int x2), (3, .int x3)]) hx hb dX6_setGate_77 hl (by decide) rfl (fun ls hl => ?_)
            refine lv_aload hx hb dX6_setGate_79 (lv_at hl 1 rfl) ?_
            refine lv_iload_n hx hb dX6_setGate_81 rfl (lv_at hl 4 rfl) ?_
            refine g_puti hx hb hts hiX2 tyX2 tyX2_ok nmX2 hown hK hP hS 2 rfl (by decide) h23 3 (by decide) (hts (.fieldLink RX6 89 "CourierBees$Lane" "from" "I") (by decide +kernel)) (fun _ h9 => h9) (Or.inl rfl) (Or.inl rfl) rfl rfl dX6_setGate_82 (fun H locs hP hS => ?_)
            refine lv_aload hx hb dX6_setGate_85 (lv_at hl 1 rfl) ?_
            refine lv_iload_n hx hb dX6_setGate_87 rfl (lv_at hl 5 rfl) ?_
            refine g_puti hx hb hts hiX2 tyX2 tyX2_ok nmX2 hown hK hP hS 2 rfl (by decide) h23 4 (by decide) (hts (.fieldLink RX6 94 "CourierBees$Lane" "till" "I") (by decide +kernel)) (fun _ h9 => h9) (Or.inl rfl) (Or.inl rfl) rfl rfl dX6_setGate_88 (fun H locs hP hS => ?_)
            refine lv_iload hx hb dX6_setGate_91 (lv_at hl 0 rfl) ?_
            exact g_xretI hx hb hr hlocks hF hP hS (Nat.le_of_ble_eq_true rfl) (Nat.le_of_ble_eq_true rfl) dX6_setGate_93
          · have hF := g_f c12 hF
            exact HB42 _ _ _ _ hF hP hS (lv_sub hl [] rfl)
  · have hF := g_t c8 hF
    exact g_throwF hx hb hst hF (text := "no such lane") hown hts (by decide +kernel) (hts (.classLink RX6 78 gEI) (by decide +kernel)) (hts (.initialized gEI) (by decide +kernel)) (by decide +kernel) g_bad1_82 (by decide) g_good1_78_82 (by decide) hE hP hS (hl.1.trans hml.symm) dX6_setGate_11 dX6_setGate_14 dX6_setGate_15 dX6_setGate_17 dX6_setGate_20 ht (Nat.le_of_ble_eq_true rfl) (Nat.le_of_ble_eq_true rfl) (Nat.le_of_ble_eq_true rfl) (Nat.le_of_ble_eq_true rfl) hlocks (by decide) rfl (Nat.le_of_ble_eq_true rfl) (Nat.le_of_ble_eq_true rfl)
set_option maxHeartbeats 4000000 in
set_option maxRecDepth 100000 in
theorem k6_way (l : Launch) (hst : l.stackTraces = false) (D : va_G) (base : Nat) (g : g_H) (a0 : Nat) (x1 : Int32) (x2 : Int32) (rr : Nat × Int32) (gz : g_H) (hF : f6_way g a0 x1 x2 = some (rr, gz)) : vx_Met l yX6_way wsX6_way ({ frames := 7, cells := 2, slots := 12, locals := 111 } : Room) (va_Pc [.ref a0, .int x1, .int x2] (gC base D g)) (gXi base D rr gz) (gX base D rr gz) 2 12 (gA base) := by
  refine g_xmet (cc := cX6_way) (maxL := 4) (ret := (some .int)) (lst := [(0, .ref a0), (1, .int x1), (2, .int x2)]) (by decide) rfl (Nat.le_of_ble_eq_true rfl) rfl ?_
  intro p e s m args below meth c ls hx hb hr hml hown hlocks hname hts hE hP hl ht
  have hown : s.vm.findClass RX6 = some m.cls := hown
  have hK := hE.1
  have hov := hE.2.2.2.2.2.2.2.1
  have hbz := hE.2.2.2.2.2.2.2.2.2.2.2.2
  have hS : va_S (gA base) s.heap s.heap [] := va_S.rf
  have hiX6 : ∀ w ∈ wsX60, w ∈ wsX6_way := by decide +kernel
  unfold f6_way at hF
  refine lv_aload_n hx hb dX6_way_0 rfl (lv_at hl 0 rfl) ?_
  refine lv_iload_n hx hb dX6_way_1 rfl (lv_at hl 1 rfl) ?_
  obtain ⟨h2, hF⟩ := g_if hF
  obtain ⟨o5, g3, h1, hF⟩ := g_bind2 hF
  refine g_xcallv (vx_runV (As := [.int x1]) (rest := []) ⟨hx, hb, hml, hown, hts⟩ (k6_checkHouse l hst D base g a0 x1 o5 g3 h1) (cwV 1 hts gX6_way_X6_checkHouse rfl rfl rfl (by decide +kernel) ⟨Nat.le_of_ble_eq_true rfl, Nat.le_of_ble_eq_true rfl⟩) (gC.preV hE hP hS 6 rfl (by decide) h2 [.int x1]) rfl rfl hl.1 rfl (lv_room (Nat.le_of_ble_eq_true rfl)) dX6_way_2 ⟨(Nat.le_of_ble_eq_true rfl), (Nat.le_of_ble_eq_true rfl)⟩) hS ht hlocks (fun h0 => g_thr h0 hF) (Nat.le_of_ble_eq_true rfl) (Nat.le_of_ble_eq_true rfl) (fun H locs h6 hP hS => ?_)
  have hF := g_t h6 hF
  refine lv_aload_n hx hb dX6_way_5 rfl (lv_at hl 0 rfl) ?_
  refine lv_iload_n hx hb dX6_way_6 rfl (lv_at hl 2 rfl) ?_
  obtain ⟨h8, hF⟩ := g_if hF
  obtain ⟨o11, g9, h7, hF⟩ := g_bind2 hF
  refine g_xcallv (vx_runV (As := [.int x2]) (rest := []) ⟨hx, hb, hml, hown, hts⟩ (k6_checkHouse l hst D base g3 a0 x2 o11 g9 h7) (cwV 1 hts gX6_way_X6_checkHouse rfl rfl rfl (by decide +kernel) ⟨Nat.le_of_ble_eq_true rfl, Nat.le_of_ble_eq_true rfl⟩) (gC.preV hE hP hS 6 rfl (by decide) h8 [.int x2]) rfl rfl hl.1 rfl (lv_room (Nat.le_of_ble_eq_true rfl)) dX6_way_7 ⟨(Nat.le_of_ble_eq_true rfl), (Nat.le_of_ble_eq_true rfl)⟩) hS ht hlocks (fun h0 => g_thr h0 hF) (Nat.le_of_ble_eq_true rfl) (Nat.le_of_ble_eq_true rfl) (fun H locs h12 hP hS => ?_)
  have hF := g_t h12 hF
  refine lv_aload_n hx hb dX6_way_10 rfl (lv_at hl 0 rfl) ?_
  obtain ⟨h13, hF⟩ := g_if hF
  obtain ⟨q14, hq15, hF⟩ := g_bind hF
  refine g_get hx hb hts hiX6 hown hK hP 6 rfl (by decide) h13 0 (by decide) (hts (.fieldLink RX6 10 "CourierBees" "town" "LCourierBees$Town;") (by decide +kernel)) (fun _ h9 => h9) ((gFv_r (by decide)).trans (congrArg va_rf hq15)) dX6_way_11 ?_
  refine lv_iload_n hx hb dX6_way_14 rfl (lv_at hl 1 rfl) ?_
  refine lv_iload_n hx hb dX6_way_15 rfl (lv_at hl 2 rfl) ?_
  obtain ⟨h17, hF⟩ := g_if hF
  obtain ⟨v19, g18, h16, hF⟩ := g_bind2 hF
  refine g_calli (va_runV (As := [.int x1, .int x2]) (rest := []) ⟨hx, hb, hml, hown, hts⟩ (k5_wayBetween l D base g9 q14 x1 x2 v19 g18 h16) (cwV 2 hts gX6_way_X5_wayBetween rfl rfl rfl (by decide +kernel) ⟨Nat.le_of_ble_eq_true rfl, Nat.le_of_ble_eq_true rfl⟩) (gC.preV hE hP hS 5 rfl (by decide) h17 [.int x1, .int x2]) rfl rfl hl.1 rfl (lv_room (Nat.le_of_ble_eq_true rfl)) dX6_way_16 ⟨(Nat.le_of_ble_eq_true rfl), (Nat.le_of_ble_eq_true rfl)⟩) hS (fun H locs hP hS => ?_)
  refine lv_istore_n (lv' := [(3, .int v19), (0, .ref a0), (1, .int x1), (2, .int x2)]) hx hb dX6_way_19 rfl hl (by decide) rfl (fun ls hl => ?_)
  refine lv_iload_n hx hb dX6_way_20 rfl (lv_at hl 0 rfl) ?_
  refine lv_sipush (v := 1000) hx hb dX6_way_21 (by decide) ?_
  refine lv_icmp_ge (tgt := 31) hx hb dX6_way_24 (by decide) (fun c20 => ?_) (fun c20 => ?_)
  · have hF := g_t c20 hF
    refine lv_iconst (v := (-1)) hx hb dX6_way_31 (by decide) ?_
    exact g_xretI hx hb hr hlocks hF hP hS (Nat.le_of_ble_eq_true rfl) (Nat.le_of_ble_eq_true rfl) dX6_way_32
  · have hF := g_f c20 hF
    refine lv_iload_n hx hb dX6_way_27 rfl (lv_at hl 0 rfl) ?_
    refine lv_goto (tgt := 32) hx hb dX6_way_28 (by decide) ?_
    exact g_xretI hx hb hr hlocks hF hP hS (Nat.le_of_ble_eq_true rfl) (Nat.le_of_ble_eq_true rfl) dX6_way_32
set_option maxHeartbeats 4000000 in
set_option maxRecDepth 100000 in
theorem k6_checkRoute (l : Launch) (hst : l.stackTraces = false) (D : va_G) (base : Nat) (g : g_H) (a0 : Nat) (x1 : Int32) (rr : Nat × Int32) (gz : g_H) (hF : f6_checkRoute g a0 x1 = some (rr, gz)) : vx_Met l yX6_checkRoute wsX6_checkRoute ({ frames := 6, cells := 1, slots := 6, locals := 113 } : Room) (va_Pc [.ref a0, .int x1] (gC base D g)) (gXv base D rr gz) (gX base D rr gz) 1 6 (gA base) := by
  refine g_xmet (cc := cX6_checkRoute) (maxL := 2) (ret := none) (lst := [(0, .ref a0), (1, .int x1)]) (by decide) rfl (Nat.le_of_ble_eq_true rfl) rfl ?_
  intro p e s m args below meth c ls hx hb hr hml hown hlocks hname hts hE hP hl ht
  have hown : s.vm.findClass RX6 = some m.cls := hown
  have hK := hE.1
  have hov := hE.2.2.2.2.2.2.2.1
  have hbz := hE.2.2.2.2.2.2.2.2.2.2.2.2
  have hS : va_S (gA base) s.heap s.heap [] := va_S.rf
  have hiX6 : ∀ w ∈ wsX60, w ∈ wsX6_checkRoute := by decide +kernel
  unfold f6_checkRoute at hF
  refine lv_aload_n hx hb dX6_checkRoute_0 rfl (lv_at hl 0 rfl) ?_
  obtain ⟨h1, hF⟩ := g_if hF
  obtain ⟨q2, hq3, hF⟩ := g_bind hF
  refine g_get hx hb hts hiX6 hown hK hP 6 rfl (by decide) h1 3 (by decide) (hts (.fieldLink RX6 31 "CourierBees" "draft" "LCourierBees$Route;") (by decide +kernel)) (fun _ h9 => h9) ((gFv_r (by decide)).trans (congrArg va_rf hq3)) dX6_checkRoute_1 ?_
  refine lv_iload_n hx hb dX6_checkRoute_4 rfl (lv_at hl 1 rfl) ?_
  refine lv_aload_n hx hb dX6_checkRoute_5 rfl (lv_at hl 0 rfl) ?_
  obtain ⟨q4, hq5, hF⟩ := g_bind hF
  refine g_get hx hb hts hiX6 hown hK hP 6 rfl (by decide) h1 0 (by decide) (hts (.fieldLink RX6 10 "CourierBees" "town" "LCourierBees$Town;") (by decide +kernel)) (fun _ h9 => h9) ((gFv_r (by decide)).trans (congrArg va_rf hq5)) dX6_checkRoute_6 ?_
  obtain ⟨h7, hF⟩ := g_if hF
  obtain ⟨v9, g8, h6, hF⟩ := g_bind2 hF
  refine g_calli (va_runV (As := [.int x1, .ref q4]) (rest := []) ⟨hx, hb, hml, hown, hts⟩ (k4_read l D base g q2 x1 q4 v9 g8 h6) (cwV 2 hts gX6_checkRoute_X4_read rfl rfl rfl (by decide +kernel) ⟨Nat.le_of_ble_eq_true rfl, Nat.le_of_ble_eq_true rfl⟩) (gC.preV hE hP hS 4 rfl (by decide) h7 [.int x1, .ref q4]) rfl rfl hl.1 rfl (lv_room (Nat.le_of_ble_eq_true rfl)) dX6_checkRoute_9 ⟨(Nat.le_of_ble_eq_true rfl), (Nat.le_of_ble_eq_true rfl)⟩) hS (fun H locs hP hS => ?_)
  refine lv_if_ne (tgt := 25) hx hb dX6_checkRoute_12 (by decide) (fun c10 => ?_) (fun c10 => ?_)
  · have hF := g_f c10 hF
    exact g_xretV hx hb hr hlocks hF hP hS (Nat.le_of_ble_eq_true rfl) (Nat.le_of_ble_eq_true rfl) dX6_checkRoute_25
  · have hF := g_t c10 hF
    exact g_throwF hx hb hst hF (text := "no such route") hown hts (by decide +kernel) (hts (.classLink RX6 58 gEA) (by decide +kernel)) (hts (.initialized gEA) (by decide +kernel)) (by decide +kernel) g_bad2_62 (by decide) g_good2_58_62 (by decide) hE hP hS (hl.1.trans hml.symm) dX6_checkRoute_15 dX6_checkRoute_18 dX6_checkRoute_19 dX6_checkRoute_21 dX6_checkRoute_24 ht (Nat.le_of_ble_eq_true rfl) (Nat.le_of_ble_eq_true rfl) (Nat.le_of_ble_eq_true rfl) (Nat.le_of_ble_eq_true rfl) hlocks (by decide) rfl (Nat.le_of_ble_eq_true rfl) (Nat.le_of_ble_eq_true rfl)
set_option maxHeartbeats 4000000 in
set_option maxRecDepth 100000 in
theorem k6_addBee (l : Launch) (hst : l.stackTraces = false) (D : va_G) (base : Nat) (g : g_H) (a0 : Nat) (x1 : Int32) (rr : Nat × Int32) (gz : g_H) (hF : f6_addBee g a0 x1 = some (rr, gz)) : vx_Met l yX6_addBee wsX6_addBee ({ frames := 7, cells := 2, slots := 12, locals := 134 } : Room) (va_Pc [.ref a0, .int x1] (gC base D g)) (gXi base D rr gz) (gX base D rr gz) 2 12 (gA base) := by
  refine g_xmet (cc := cX6_addBee) (maxL := 2) (ret := (some .int)) (lst := [(0, .ref a0), (1, .int x1)]) (by decide) rfl (Nat.le_of_ble_eq_true rfl) rfl ?_
  intro p e s m args below meth c ls hx hb hr hml hown hlocks hname hts hE hP hl ht
  have hown : s.vm.findClass RX6 = some m.cls := hown
  have hK := hE.1
  have hov := hE.2.2.2.2.2.2.2.1
  have hbz := hE.2.2.2.2.2.2.2.2.2.2.2.2
  have hS : va_S (gA base) s.heap s.heap [] := va_S.rf
  have hiX1 : ∀ w ∈ wsX10, w ∈ wsX6_addBee := by decide +kernel
  have hiX6 : ∀ w ∈ wsX60, w ∈ wsX6_addBee := by decide +kernel
  unfold f6_addBee at hF
  refine lv_aload_n hx hb dX6_addBee_0 rfl (lv_at hl 0 rfl) ?_
  refine lv_iload_n hx hb dX6_addBee_1 rfl (lv_at hl 1 rfl) ?_
  obtain ⟨h2, hF⟩ := g_if hF
  obtain ⟨o5, g3, h1, hF⟩ := g_bind2 hF
  refine g_xcallv (vx_runV (As := [.int x1]) (rest := []) ⟨hx, hb, hml, hown, hts⟩ (k6_checkRoute l hst D base g a0 x1 o5 g3 h1) (cwV 1 hts gX6_addBee_X6_checkRoute rfl rfl rfl (by decide +kernel) ⟨Nat.le_of_ble_eq_true rfl, Nat.le_of_ble_eq_true rfl⟩) (gC.preV hE hP hS 6 rfl (by decide) h2 [.int x1]) rfl rfl hl.1 rfl (lv_room (Nat.le_of_ble_eq_true rfl)) dX6_addBee_2 ⟨(Nat.le_of_ble_eq_true rfl), (Nat.le_of_ble_eq_true rfl)⟩) hS ht hlocks (fun h0 => g_thr h0 hF) (Nat.le_of_ble_eq_true rfl) (Nat.le_of_ble_eq_true rfl) (fun H locs h6 hP hS => ?_)
  have hF := g_t h6 hF
  refine lv_aload_n hx hb dX6_addBee_5 rfl (lv_at hl 0 rfl) ?_
  obtain ⟨h7, hF⟩ := g_if hF
  obtain ⟨q8, hq9, hF⟩ := g_bind hF
  refine g_get hx hb hts hiX6 hown hK hP 6 rfl (by decide) h7 1 (by decide) (hts (.fieldLink RX6 21 "CourierBees" "now" "LCourierBees$Flight;") (by decide +kernel)) (fun _ h9 => h9) ((gFv_r (by decide)).trans (congrArg va_rf hq9)) dX6_addBee_6 ?_
  obtain ⟨h10, hF⟩ := g_if hF
  refine g_get hx hb hts hiX1 hown hK hP 1 rfl (by decide) h10 3 (by decide) (hts (.fieldLink RX6 66 "CourierBees$Flight" "beeCount" "I") (by decide +kernel)) (fun _ h9 => h9) (gFv_i (Or.inl rfl)) dX6_addBee_9 ?_
  refine lv_bipush (v := 6) hx hb dX6_addBee_12 (by decide) ?_
  refine lv_icmp_lt (tgt := 27) hx hb dX6_addBee_14 (by decide) (fun c11 => ?_) (fun c11 => ?_)
  · have hF := g_t c11 hF
    refine lv_aload_n hx hb dX6_addBee_27 rfl (lv_at hl 0 rfl) ?_
    obtain ⟨q12, hq13, hF⟩ := g_bind hF
    refine g_get hx hb hts hiX6 hown hK hP 6 rfl (by decide) h7 1 (by decide) (hts (.fieldLink RX6 21 "CourierBees" "now" "LCourierBees$Flight;") (by decide +kernel)) (fun _ h9 => h9) ((gFv_r (by decide)).trans (congrArg va_rf hq13)) dX6_addBee_28 ?_
    obtain ⟨h14, hF⟩ := g_if hF
    obtain ⟨q15, hq16, hF⟩ := g_bind hF
    refine g_get hx hb hts hiX1 hown hK hP 1 rfl (by decide) h14 1 (by decide) (hts (.fieldLink RX6 106 "CourierBees$Flight" "bees" "[LCourierBees$Bee;") (by decide +kernel)) (fun _ h9 => h9) ((gFv_r (by decide)).trans (congrArg va_rf hq16)) dX6_addBee_31 ?_
    refine lv_aload_n hx hb dX6_addBee_34 rfl (lv_at hl 0 rfl) ?_
    obtain ⟨q17, hq18, hF⟩ := g_bind hF
    refine g_get hx hb hts hiX6 hown hK hP 6 rfl (by decide) h7 1 (by decide) (hts (.fieldLink RX6 21 "CourierBees" "now" "LCourierBees$Flight;") (by decide +kernel)) (fun _ h9 => h9) ((gFv_r (by decide)).trans (congrArg va_rf hq18)) dX6_addBee_35 ?_
    obtain ⟨h19, hF⟩ := g_if hF
    refine g_get hx hb hts hiX1 hown hK hP 1 rfl (by decide) h19 3 (by decide) (hts (.fieldLink RX6 66 "CourierBees$Flight" "beeCount" "I") (by decide +kernel)) (fun _ h9 => h9) (gFv_i (Or.inl rfl)) dX6_addBee_38 ?_
    obtain ⟨h20, hF⟩ := g_if hF
    obtain ⟨h21, hF⟩ := g_if hF
    obtain ⟨q22, hq23, hF⟩ := g_bind hF
    refine g_aald hx hb hP (g_pr h20) (by decide) h21 hq23 dX6_addBee_41 ?_
    refine lv_aload_n hx hb dX6_addBee_42 rfl (lv_at hl 0 rfl) ?_
    obtain ⟨q24, hq25, hF⟩ := g_bind hF
    refine g_get hx hb hts hiX6 hown hK hP 6 rfl (by decide) h7 3 (by decide) (hts (.fieldLink RX6 31 "CourierBees" "draft" "LCourierBees$Route;") (by decide +kernel)) (fun _ h9 => h9) ((gFv_r (by decide)).trans (congrArg va_rf hq25)) dX6_addBee_43 ?_
    obtain ⟨h27, hF⟩ := g_if hF
    obtain ⟨g28, h26, hF⟩ := g_bind hF
    refine g_callv (va_runV (As := [.ref q24]) (rest := []) ⟨hx, hb, hml, hown, hts⟩ (k0_hatch l D base g3 q22 q24 g28 h26) (cwV 1 hts gX6_addBee_X0_hatch rfl rfl rfl (by decide +kernel) ⟨Nat.le_of_ble_eq_true rfl, Nat.le_of_ble_eq_true rfl⟩) (gC.preV hE hP hS 0 rfl (by decide) h27 [.ref q24]) rfl rfl hl.1 rfl (lv_room (Nat.le_of_ble_eq_true rfl)) dX6_addBee_46 ⟨(Nat.le_of_ble_eq_true rfl), (Nat.le_of_ble_eq_true rfl)⟩) hS (fun H locs hP hS => ?_)
    refine lv_aload_n hx hb dX6_addBee_49 rfl (lv_at hl 0 rfl) ?_
    obtain ⟨h30, hF⟩ := g_if hF
    obtain ⟨q31, hq32, hF⟩ := g_bind hF
    refine g_get hx hb hts hiX6 hown hK hP 6 rfl (by decide) h30 1 (by decide) (hts (.fieldLink RX6 21 "CourierBees" "now" "LCourierBees$Flight;") (by decide +kernel)) (fun _ h9 => h9) ((gFv_r (by decide)).trans (congrArg va_rf hq32)) dX6_addBee_50 ?_
    refine lv_dup hx hb dX6_addBee_53 rfl ?_
    obtain ⟨h33, hF⟩ := g_if hF
    refine g_get hx hb hts hiX1 hown hK hP 1 rfl (by decide) h33 3 (by decide) (hts (.fieldLink RX6 66 "CourierBees$Flight" "beeCount" "I") (by decide +kernel)) (fun _ h9 => h9) (gFv_i (Or.inl rfl)) dX6_addBee_54 ?_
    refine lv_dup_x1 hx hb dX6_addBee_57 rfl rfl ?_
    refine lv_iconst (v := 1) hx hb dX6_addBee_58 (by decide) ?_
    refine lv_iadd hx hb dX6_addBee_59 ?_
    obtain ⟨y34, e35, hF⟩ := g_let hF
    rw [e35]
    refine g_puti hx hb hts hiX1 tyX1 tyX1_ok nmX1 hown hK hP hS 1 rfl (by decide) h33 3 (by decide) (hts (.fieldLink RX6 66 "CourierBees$Flight" "beeCount" "I") (by decide +kernel)) (fun _ h9 => h9) (Or.inl rfl) (Or.inl rfl) rfl rfl dX6_addBee_60 (fun H locs hP hS => ?_)
    exact g_xretI hx hb hr hlocks hF hP hS (Nat.le_of_ble_eq_true rfl) (Nat.le_of_ble_eq_true rfl) dX6_addBee_63
  · have hF := g_f c11 hF
    exact g_throwF hx hb hst hF (text := "there are 6 bees") hown hts (by decide +kernel) (hts (.classLink RX6 39 gES) (by decide +kernel)) (hts (.initialized gES) (by decide +kernel)) (by decide +kernel) g_bad3_43 (by decide) g_good3_39_43 (by decide) hE hP hS (hl.1.trans hml.symm) dX6_addBee_17 dX6_addBee_20 dX6_addBee_21 dX6_addBee_23 dX6_addBee_26 ht (Nat.le_of_ble_eq_true rfl) (Nat.le_of_ble_eq_true rfl) (Nat.le_of_ble_eq_true rfl) (Nat.le_of_ble_eq_true rfl) hlocks (by decide) rfl (Nat.le_of_ble_eq_true rfl) (Nat.le_of_ble_eq_true rfl)
set_option maxHeartbeats 4000000 in
set_option maxRecDepth 100000 in
theorem k6_checkBee (l : Launch) (hst : l.stackTraces = false) (D : va_G) (base : Nat) (g : g_H) (a0 : Nat) (x1 : Int32) (rr : Nat × Int32) (gz : g_H) (hF : f6_checkBee g a0 x1 = some (rr, gz)) : vx_Met l yX6_checkBee wsX6_checkBee ({ frames := 6, cells := 1, slots := 6, locals := 90 } : Room) (va_Pc [.ref a0, .int x1] (gC base D g)) (gXv base D rr gz) (gX base D rr gz) 1 6 (gA base) := by
  refine g_xmet (cc := cX6_checkBee) (maxL := 2) (ret := none) (lst := [(0, .ref a0), (1, .int x1)]) (by decide) rfl (Nat.le_of_ble_eq_true rfl) rfl ?_
  intro p e s m args below meth c ls hx hb hr hml hown hlocks hname hts hE hP hl ht
  have hown : s.vm.findClass RX6 = some m.cls := hown
  have hK := hE.1
  have hov := hE.2.2.2.2.2.2.2.1
  have hbz := hE.2.2.2.2.2.2.2.2.2.2.2.2
  have hS : va_S (gA base) s.heap s.heap [] := va_S.rf
  have hiX1 : ∀ w ∈ wsX10, w ∈ wsX6_checkBee := by decide +kernel
  have hiX6 : ∀ w ∈ wsX60, w ∈ wsX6_checkBee := by decide +kernel
  have HB15 : ∀ (g : g_H)  (H : Heap) (locs : List Loc) (ls : Array Slot), f6_checkBee_15 g  = some (rr, gz) → gP base D s g H → va_S (gA base) s.heap H locs → lv_has ls 2 [] → W p l e ({ frames := 6, cells := 1, slots := 6, locals := 90 } : Room) s m args below meth c H locs 0 0 (vx_MQ below (gXv base D rr gz) (gX base D rr gz) args s 1 6 (gA base)) (F0 m 15 ls []) := by
    intro g  H locs ls hF hP hS hl
    unfold f6_checkBee_15 at hF
    exact g_throwF hx hb hst hF (text := "no such bee") hown hts (by decide +kernel) (hts (.classLink RX6 78 gEI) (by decide +kernel)) (hts (.initialized gEI) (by decide +kernel)) (by decide +kernel) g_bad1_82 (by decide) g_good1_78_82 (by decide) hE hP hS (hl.1.trans hml.symm) dX6_checkBee_15 dX6_checkBee_18 dX6_checkBee_19 dX6_checkBee_21 dX6_checkBee_24 ht (Nat.le_of_ble_eq_true rfl) (Nat.le_of_ble_eq_true rfl) (Nat.le_of_ble_eq_true rfl) (Nat.le_of_ble_eq_true rfl) hlocks (by decide) rfl (Nat.le_of_ble_eq_true rfl) (Nat.le_of_ble_eq_true rfl)
  unfold f6_checkBee at hF
  refine lv_iload_n hx hb dX6_checkBee_0 rfl (lv_at hl 1 rfl) ?_
  refine lv_if_lt (tgt := 15) hx hb dX6_checkBee_1 (by decide) (fun c1 => ?_) (fun c1 => ?_)
  · have hF := g_t c1 hF
    exact HB15 _ _ _ _ hF hP hS (lv_sub hl [] rfl)
  · have hF := g_f c1 hF
    refine lv_iload_n hx hb dX6_checkBee_4 rfl (lv_at hl 1 rfl) ?_
    refine lv_aload_n hx hb dX6_checkBee_5 rfl (lv_at hl 0 rfl) ?_
    obtain ⟨h2, hF⟩ := g_if hF
    obtain ⟨q3, hq4, hF⟩ := g_bind hF
    refine g_get hx hb hts hiX6 hown hK hP 6 rfl (by decide) h2 1 (by decide) (hts (.fieldLink RX6 21 "CourierBees" "now" "LCourierBees$Flight;") (by decide +kernel)) (fun _ h9 => h9) ((gFv_r (by decide)).trans (congrArg va_rf hq4)) dX6_checkBee_6 ?_
    obtain ⟨h5, hF⟩ := g_if hF
    refine g_get hx hb hts hiX1 hown hK hP 1 rfl (by decide) h5 3 (by decide) (hts (.fieldLink RX6 66 "CourierBees$Flight" "beeCount" "I") (by decide +kernel)) (fun _ h9 => h9) (gFv_i (Or.inl rfl)) dX6_checkBee_9 ?_
    refine lv_icmp_lt (tgt := 25) hx hb dX6_checkBee_12 (by decide) (fun c6 => ?_) (fun c6 => ?_)
    · have hF := g_t c6 hF
      exact g_xretV hx hb hr hlocks hF hP hS (Nat.le_of_ble_eq_true rfl) (Nat.le_of_ble_eq_true rfl) dX6_checkBee_25
    · have hF := g_f c6 hF
      exact HB15 _ _ _ _ hF hP hS (lv_sub hl [] rfl)
set_option maxHeartbeats 4000000 in
set_option maxRecDepth 100000 in
theorem k6_swear (l : Launch) (hst : l.stackTraces = false) (D : va_G) (base : Nat) (g : g_H) (a0 : Nat) (x1 : Int32) (x2 : Int32) (rr : Nat × Int32) (gz : g_H) (hF : f6_swear g a0 x1 x2 = some (rr, gz)) : vx_Met l yX6_swear wsX6_swear ({ frames := 7, cells := 3, slots := 18, locals := 134 } : Room) (va_Pc [.ref a0, .int x1, .int x2] (gC base D g)) (gXi base D rr gz) (gX base D rr gz) 3 18 (gA base) := by
  refine g_xmet (cc := cX6_swear) (maxL := 5) (ret := (some .int)) (lst := [(0, .ref a0), (1, .int x1), (2, .int x2)]) (by decide) rfl (Nat.le_of_ble_eq_true rfl) rfl ?_
  intro p e s m args below meth c ls hx hb hr hml hown hlocks hname hts hE hP hl ht
  have hown : s.vm.findClass RX6 = some m.cls := hown
  have hK := hE.1
  have hov := hE.2.2.2.2.2.2.2.1
  have hbz := hE.2.2.2.2.2.2.2.2.2.2.2.2
  have hS : va_S (gA base) s.heap s.heap [] := va_S.rf
  have hiX0 : ∀ w ∈ wsX00, w ∈ wsX6_swear := by decide +kernel
  have hiX1 : ∀ w ∈ wsX10, w ∈ wsX6_swear := by decide +kernel
  have hiX6 : ∀ w ∈ wsX60, w ∈ wsX6_swear := by decide +kernel
  have HB46 : ∀ (g : g_H)  (H : Heap) (locs : List Loc) (ls : Array Slot), f6_swear_46 g  = some (rr, gz) → gP base D s g H → va_S (gA base) s.heap H locs → lv_has ls 5 [] → W p l e ({ frames := 7, cells := 3, slots := 18, locals := 134 } : Room) s m args below meth c H locs 2 12 (vx_MQ below (gXi base D rr gz) (gX base D rr gz) args s 3 18 (gA base)) (F0 m 46 ls []) := by
    intro g  H locs ls hF hP hS hl
    unfold f6_swear_46 at hF
    exact g_throwF hx hb hst hF (text := "the bee is at no house of this route") hown hts (by decide +kernel) (hts (.classLink RX6 39 gES) (by decide +kernel)) (hts (.initialized gES) (by decide +kernel)) (by decide +kernel) g_bad3_43 (by decide) g_good3_39_43 (by decide) hE hP hS (hl.1.trans hml.symm) dX6_swear_46 dX6_swear_49 dX6_swear_50 dX6_swear_52 dX6_swear_55 ht (Nat.le_of_ble_eq_true rfl) (Nat.le_of_ble_eq_true rfl) (Nat.le_of_ble_eq_true rfl) (Nat.le_of_ble_eq_true rfl) hlocks (by decide) rfl (Nat.le_of_ble_eq_true rfl) (Nat.le_of_ble_eq_true rfl)
  unfold f6_swear at hF
  refine lv_aload_n hx hb dX6_swear_0 rfl (lv_at hl 0 rfl) ?_
  refine lv_iload_n hx hb dX6_swear_1 rfl (lv_at hl 1 rfl) ?_
  obtain ⟨h2, hF⟩ := g_if hF
  obtain ⟨o5, g3, h1, hF⟩ := g_bind2 hF
  refine g_xcallv (vx_runV (As := [.int x1]) (rest := []) ⟨hx, hb, hml, hown, hts⟩ (k6_checkBee l hst D base g a0 x1 o5 g3 h1) (cwV 1 hts gX6_swear_X6_checkBee rfl rfl rfl (by decide +kernel) ⟨Nat.le_of_ble_eq_true rfl, Nat.le_of_ble_eq_true rfl⟩) (gC.preV hE hP hS 6 rfl (by decide) h2 [.int x1]) rfl rfl hl.1 rfl (lv_room (Nat.le_of_ble_eq_true rfl)) dX6_swear_2 ⟨(Nat.le_of_ble_eq_true rfl), (Nat.le_of_ble_eq_true rfl)⟩) hS ht hlocks (fun h0 => g_thr h0 hF) (Nat.le_of_ble_eq_true rfl) (Nat.le_of_ble_eq_true rfl) (fun H locs h6 hP hS => ?_)
  have hF := g_t h6 hF
  refine lv_aload_n hx hb dX6_swear_5 rfl (lv_at hl 0 rfl) ?_
  refine lv_iload_n hx hb dX6_swear_6 rfl (lv_at hl 2 rfl) ?_
  obtain ⟨h8, hF⟩ := g_if hF
  obtain ⟨o11, g9, h7, hF⟩ := g_bind2 hF
  refine g_xcallv (vx_runV (As := [.int x2]) (rest := []) ⟨hx, hb, hml, hown, hts⟩ (k6_checkRoute l hst D base g3 a0 x2 o11 g9 h7) (cwV 1 hts gX6_swear_X6_checkRoute rfl rfl rfl (by decide +kernel) ⟨Nat.le_of_ble_eq_true rfl, Nat.le_of_ble_eq_true rfl⟩) (gC.preV hE hP hS 6 rfl (by decide) h8 [.int x2]) rfl rfl hl.1 rfl (lv_room (Nat.le_of_ble_eq_true rfl)) dX6_swear_7 ⟨(Nat.le_of_ble_eq_true rfl), (Nat.le_of_ble_eq_true rfl)⟩) hS ht hlocks (fun h0 => g_thr h0 hF) (Nat.le_of_ble_eq_true rfl) (Nat.le_of_ble_eq_true rfl) (fun H locs h12 hP hS => ?_)
  have hF := g_t h12 hF
  refine lv_aload_n hx hb dX6_swear_10 rfl (lv_at hl 0 rfl) ?_
  obtain ⟨h13, hF⟩ := g_if hF
  obtain ⟨q14, hq15, hF⟩ := g_bind hF
  refine g_get hx hb hts hiX6 hown hK hP 6 rfl (by decide) h13 1 (by decide) (hts (.fieldLink RX6 21 "CourierBees" "now" "LCourierBees$Flight;") (by decide +kernel)) (fun _ h9 => h9) ((gFv_r (by decide)).trans (congrArg va_rf hq15)) dX6_swear_11 ?_
  obtain ⟨h16, hF⟩ := g_if hF
  obtain ⟨q17, hq18, hF⟩ := g_bind hF
  refine g_get hx hb hts hiX1 hown hK hP 1 rfl (by decide) h16 1 (by decide) (hts (.fieldLink RX6 106 "CourierBees$Flight" "bees" "[LCourierBees$Bee;") (by decide +kernel)) (fun _ h9 => h9) ((gFv_r (by decide)).trans (congrArg va_rf hq18)) dX6_swear_14 ?_
  refine lv_iload_n hx hb dX6_swear_17 rfl (lv_at hl 1 rfl) ?_
  obtain ⟨h19, hF⟩ := g_if hF
  obtain ⟨h20, hF⟩ := g_if hF
  obtain ⟨q21, hq22, hF⟩ := g_bind hF
  refine g_aald hx hb hP (g_pr h19) (by decide) h20 hq22 dX6_swear_18 ?_
  refine lv_astore_n (lv' := [(3, .ref q21), (0, .ref a0), (1, .int x1), (2, .int x2)]) hx hb dX6_swear_19 rfl hl (by decide) rfl (fun ls hl => ?_)
  refine lv_aload_n hx hb dX6_swear_20 rfl (lv_at hl 1 rfl) ?_
  obtain ⟨q23, hq24, hF⟩ := g_bind hF
  refine g_get hx hb hts hiX6 hown hK hP 6 rfl (by decide) h13 3 (by decide) (hts (.fieldLink RX6 31 "CourierBees" "draft" "LCourierBees$Route;") (by decide +kernel)) (fun _ h9 => h9) ((gFv_r (by decide)).trans (congrArg va_rf hq24)) dX6_swear_21 ?_
  refine lv_aload_n hx hb dX6_swear_24 rfl (lv_at hl 0 rfl) ?_
  obtain ⟨h26, hF⟩ := g_if hF
  obtain ⟨v28, g27, h25, hF⟩ := g_bind2 hF
  refine g_calli (va_runV (As := []) (rest := [.ref q23]) ⟨hx, hb, hml, hown, hts⟩ (k0_house l D base g9 q21 v28 g27 h25) (cwV 0 hts gX6_swear_X0_house rfl rfl rfl (by decide +kernel) ⟨Nat.le_of_ble_eq_true rfl, Nat.le_of_ble_eq_true rfl⟩) (gC.preV hE hP hS 0 rfl (by decide) h26 []) rfl rfl hl.1 rfl (lv_room (Nat.le_of_ble_eq_true rfl)) dX6_swear_25 ⟨(Nat.le_of_ble_eq_true rfl), (Nat.le_of_ble_eq_true rfl)⟩) hS (fun H locs hP hS => ?_)
  obtain ⟨h30, hF⟩ := g_if hF
  obtain ⟨v32, g31, h29, hF⟩ := g_bind2 hF
  refine g_calli (va_runV (As := [.int v28]) (rest := []) ⟨hx, hb, hml, hown, hts⟩ (k4_placeOf l D base g27 q23 v28 v32 g31 h29) (cwV 1 hts gX6_swear_X4_placeOf rfl rfl rfl (by decide +kernel) ⟨Nat.le_of_ble_eq_true rfl, Nat.le_of_ble_eq_true rfl⟩) (gC.preV hE hP hS 4 rfl (by decide) h30 [.int v28]) rfl rfl hl.1 rfl (lv_room (Nat.le_of_ble_eq_true rfl)) dX6_swear_28 ⟨(Nat.le_of_ble_eq_true rfl), (Nat.le_of_ble_eq_true rfl)⟩) hS (fun H locs hP hS => ?_)
  refine lv_istore (lv' := [(4, .int v32), (3, .ref q21), (0, .ref a0), (1, .int x1), (2, .int x2)]) hx hb dX6_swear_31 hl (by decide) rfl (fun ls hl => ?_)
  refine lv_aload_n hx hb dX6_swear_33 rfl (lv_at hl 1 rfl) ?_
  obtain ⟨h33, hF⟩ := g_if hF
  refine g_get hx hb hts hiX0 hown hK hP 0 rfl (by decide) h33 3 (by decide) (hts (.fieldLink RX6 127 "CourierBees$Bee" "left" "I") (by decide +kernel)) (fun _ h9 => h9) (gFv_i (Or.inl rfl)) dX6_swear_34 ?_
  refine lv_if_gt (tgt := 46) hx hb dX6_swear_37 (by decide) (fun c34 => ?_) (fun c34 => ?_)
  · have hF := g_t c34 hF
    exact HB46 _ _ _ _ hF hP hS (lv_sub hl [] rfl)
  · have hF := g_f c34 hF
    refine lv_iload hx hb dX6_swear_40 (lv_at hl 0 rfl) ?_
    refine lv_iconst (v := (-1)) hx hb dX6_swear_42 (by decide) ?_
    refine lv_icmp_ne (tgt := 56) hx hb dX6_swear_43 (by decide) (fun c35 => ?_) (fun c35 => ?_)
    · have hF := g_f c35 hF
      refine lv_aload_n hx hb dX6_swear_56 rfl (lv_at hl 1 rfl) ?_
      refine lv_aload_n hx hb dX6_swear_57 rfl (lv_at hl 2 rfl) ?_
      obtain ⟨h36, hF⟩ := g_if hF
      obtain ⟨q37, hq38, hF⟩ := g_bind hF
      refine g_get hx hb hts hiX6 hown hK hP 6 rfl (by decide) h36 3 (by decide) (hts (.fieldLink RX6 31 "CourierBees" "draft" "LCourierBees$Route;") (by decide +kernel)) (fun _ h9 => h9) ((gFv_r (by decide)).trans (congrArg va_rf hq38)) dX6_swear_58 ?_
      refine lv_iload hx hb dX6_swear_61 (lv_at hl 0 rfl) ?_
      obtain ⟨g40, h39, hF⟩ := g_bind hF
      refine g_callv (va_runV (As := [.ref q37, .int v32]) (rest := []) ⟨hx, hb, hml, hown, hts⟩ (k0_follow l D base g31 q21 q37 v32 g40 h39) (cwV 2 hts gX6_swear_X0_follow rfl rfl rfl (by decide +kernel) ⟨Nat.le_of_ble_eq_true rfl, Nat.le_of_ble_eq_true rfl⟩) (gC.preV hE hP hS 0 rfl (by decide) h33 [.ref q37, .int v32]) rfl rfl hl.1 rfl (lv_room (Nat.le_of_ble_eq_true rfl)) dX6_swear_63 ⟨(Nat.le_of_ble_eq_true rfl), (Nat.le_of_ble_eq_true rfl)⟩) hS (fun H locs hP hS => ?_)
      refine lv_aload_n hx hb dX6_swear_66 rfl (lv_at hl 1 rfl) ?_
      refine lv_bipush (v := (-3)) hx hb dX6_swear_67 (by decide) ?_
      obtain ⟨h43, hF⟩ := g_if hF
      obtain ⟨g44, h42, hF⟩ := g_bind hF
      refine g_callv (va_runV (As := [.int ((-3 : Int32))]) (rest := []) ⟨hx, hb, hml, hown, hts⟩ (k0_addHonour l D base g40 q21 ((-3 : Int32)) g44 h42) (cwV 1 hts gX6_swear_X0_addHonour rfl rfl rfl (by decide +kernel) ⟨Nat.le_of_ble_eq_true rfl, Nat.le_of_ble_eq_true rfl⟩) (gC.preV hE hP hS 0 rfl (by decide) h43 [.int ((-3 : Int32))]) rfl rfl hl.1 rfl (lv_room (Nat.le_of_ble_eq_true rfl)) dX6_swear_69 ⟨(Nat.le_of_ble_eq_true rfl), (Nat.le_of_ble_eq_true rfl)⟩) hS (fun H locs hP hS => ?_)
      refine lv_aload_n hx hb dX6_swear_72 rfl (lv_at hl 1 rfl) ?_
      obtain ⟨h46, hF⟩ := g_if hF
      refine g_get hx hb hts hiX0 hown hK hP 0 rfl (by decide) h46 5 (by decide) (hts (.fieldLink RX6 139 "CourierBees$Bee" "honour" "I") (by decide +kernel)) (fun _ h9 => h9) (gFv_i (Or.inl rfl)) dX6_swear_73 ?_
      exact g_xretI hx hb hr hlocks hF hP hS (Nat.le_of_ble_eq_true rfl) (Nat.le_of_ble_eq_true rfl) dX6_swear_76
    · have hF := g_t c35 hF
      exact HB46 _ _ _ _ hF hP hS (lv_sub hl [] rfl)
set_option maxHeartbeats 4000000 in
set_option maxRecDepth 100000 in
theorem k6_write (l : Launch) (hst : l.stackTraces = false) (D : va_G) (base : Nat) (g : g_H) (a0 : Nat) (x1 : Int32) (x2 : Int32) (rr : Nat × Int32) (gz : g_H) (hF : f6_write g a0 x1 x2 = some (rr, gz)) : vx_Met l yX6_write wsX6_write ({ frames := 7, cells := 3, slots := 18, locals := 111 } : Room) (va_Pc [.ref a0, .int x1, .int x2] (gC base D g)) (gXi base D rr gz) (gX base D rr gz) 3 18 (gA base) := by
  refine g_xmet (cc := cX6_write) (maxL := 3) (ret := (some .int)) (lst := [(0, .ref a0), (1, .int x1), (2, .int x2)]) (by decide) rfl (Nat.le_of_ble_eq_true rfl) rfl ?_
  intro p e s m args below meth c ls hx hb hr hml hown hlocks hname hts hE hP hl ht
  have hown : s.vm.findClass RX6 = some m.cls := hown
  have hK := hE.1
  have hov := hE.2.2.2.2.2.2.2.1
  have hbz := hE.2.2.2.2.2.2.2.2.2.2.2.2
  have hS : va_S (gA base) s.heap s.heap [] := va_S.rf
  have hiX1 : ∀ w ∈ wsX10, w ∈ wsX6_write := by decide +kernel
  have hiX6 : ∀ w ∈ wsX60, w ∈ wsX6_write := by decide +kernel
  unfold f6_write at hF
  refine lv_aload_n hx hb dX6_write_0 rfl (lv_at hl 0 rfl) ?_
  refine lv_iload_n hx hb dX6_write_1 rfl (lv_at hl 1 rfl) ?_
  obtain ⟨h2, hF⟩ := g_if hF
  obtain ⟨o5, g3, h1, hF⟩ := g_bind2 hF
  refine g_xcallv (vx_runV (As := [.int x1]) (rest := []) ⟨hx, hb, hml, hown, hts⟩ (k6_checkHouse l hst D base g a0 x1 o5 g3 h1) (cwV 1 hts gX6_write_X6_checkHouse rfl rfl rfl (by decide +kernel) ⟨Nat.le_of_ble_eq_true rfl, Nat.le_of_ble_eq_true rfl⟩) (gC.preV hE hP hS 6 rfl (by decide) h2 [.int x1]) rfl rfl hl.1 rfl (lv_room (Nat.le_of_ble_eq_true rfl)) dX6_write_2 ⟨(Nat.le_of_ble_eq_true rfl), (Nat.le_of_ble_eq_true rfl)⟩) hS ht hlocks (fun h0 => g_thr h0 hF) (Nat.le_of_ble_eq_true rfl) (Nat.le_of_ble_eq_true rfl) (fun H locs h6 hP hS => ?_)
  have hF := g_t h6 hF
  refine lv_aload_n hx hb dX6_write_5 rfl (lv_at hl 0 rfl) ?_
  refine lv_iload_n hx hb dX6_write_6 rfl (lv_at hl 2 rfl) ?_
  obtain ⟨h8, hF⟩ := g_if hF
  obtain ⟨o11, g9, h7, hF⟩ := g_bind2 hF
  refine g_xcallv (vx_runV (As := [.int x2]) (rest := []) ⟨hx, hb, hml, hown, hts⟩ (k6_checkHouse l hst D base g3 a0 x2 o11 g9 h7) (cwV 1 hts gX6_write_X6_checkHouse rfl rfl rfl (by decide +kernel) ⟨Nat.le_of_ble_eq_true rfl, Nat.le_of_ble_eq_true rfl⟩) (gC.preV hE hP hS 6 rfl (by decide) h8 [.int x2]) rfl rfl hl.1 rfl (lv_room (Nat.le_of_ble_eq_true rfl)) dX6_write_7 ⟨(Nat.le_of_ble_eq_true rfl), (Nat.le_of_ble_eq_true rfl)⟩) hS ht hlocks (fun h0 => g_thr h0 hF) (Nat.le_of_ble_eq_true rfl) (Nat.le_of_ble_eq_true rfl) (fun H locs h12 hP hS => ?_)
  have hF := g_t h12 hF
  refine lv_iload_n hx hb dX6_write_10 rfl (lv_at hl 1 rfl) ?_
  refine lv_iload_n hx hb dX6_write_11 rfl (lv_at hl 2 rfl) ?_
  refine lv_icmp_ne (tgt := 25) hx hb dX6_write_12 (by decide) (fun c13 => ?_) (fun c13 => ?_)
  · have hF := g_f c13 hF
    refine lv_aload_n hx hb dX6_write_25 rfl (lv_at hl 0 rfl) ?_
    obtain ⟨h14, hF⟩ := g_if hF
    obtain ⟨q15, hq16, hF⟩ := g_bind hF
    refine g_get hx hb hts hiX6 hown hK hP 6 rfl (by decide) h14 1 (by decide) (hts (.fieldLink RX6 21 "CourierBees" "now" "LCourierBees$Flight;") (by decide +kernel)) (fun _ h9 => h9) ((gFv_r (by decide)).trans (congrArg va_rf hq16)) dX6_write_26 ?_
    obtain ⟨h17, hF⟩ := g_if hF
    refine g_get hx hb hts hiX1 hown hK hP 1 rfl (by decide) h17 4 (by decide) (hts (.fieldLink RX6 144 "CourierBees$Flight" "letterCount" "I") (by decide +kernel)) (fun _ h9 => h9) (gFv_i (Or.inl rfl)) dX6_write_29 ?_
    refine lv_bipush (v := 20) hx hb dX6_write_32 (by decide) ?_
    refine lv_icmp_lt (tgt := 47) hx hb dX6_write_34 (by decide) (fun c18 => ?_) (fun c18 => ?_)
    · have hF := g_t c18 hF
      refine lv_aload_n hx hb dX6_write_47 rfl (lv_at hl 0 rfl) ?_
      obtain ⟨q19, hq20, hF⟩ := g_bind hF
      refine g_get hx hb hts hiX6 hown hK hP 6 rfl (by decide) h14 1 (by decide) (hts (.fieldLink RX6 21 "CourierBees" "now" "LCourierBees$Flight;") (by decide +kernel)) (fun _ h9 => h9) ((gFv_r (by decide)).trans (congrArg va_rf hq20)) dX6_write_48 ?_
      obtain ⟨h21, hF⟩ := g_if hF
      obtain ⟨q22, hq23, hF⟩ := g_bind hF
      refine g_get hx hb hts hiX1 hown hK hP 1 rfl (by decide) h21 2 (by decide) (hts (.fieldLink RX6 149 "CourierBees$Flight" "letters" "[LCourierBees$Letter;") (by decide +kernel)) (fun _ h9 => h9) ((gFv_r (by decide)).trans (congrArg va_rf hq23)) dX6_write_51 ?_
      refine lv_aload_n hx hb dX6_write_54 rfl (lv_at hl 0 rfl) ?_
      obtain ⟨q24, hq25, hF⟩ := g_bind hF
      refine g_get hx hb hts hiX6 hown hK hP 6 rfl (by decide) h14 1 (by decide) (hts (.fieldLink RX6 21 "CourierBees" "now" "LCourierBees$Flight;") (by decide +kernel)) (fun _ h9 => h9) ((gFv_r (by decide)).trans (congrArg va_rf hq25)) dX6_write_55 ?_
      obtain ⟨h26, hF⟩ := g_if hF
      refine g_get hx hb hts hiX1 hown hK hP 1 rfl (by decide) h26 4 (by decide) (hts (.fieldLink RX6 144 "CourierBees$Flight" "letterCount" "I") (by decide +kernel)) (fun _ h9 => h9) (gFv_i (Or.inl rfl)) dX6_write_58 ?_
      obtain ⟨h27, hF⟩ := g_if hF
      obtain ⟨h28, hF⟩ := g_if hF
      obtain ⟨q29, hq30, hF⟩ := g_bind hF
      refine g_aald hx hb hP (g_pr h27) (by decide) h28 hq30 dX6_write_61 ?_
      refine lv_iload_n hx hb dX6_write_62 rfl (lv_at hl 1 rfl) ?_
      refine lv_iload_n hx hb dX6_write_63 rfl (lv_at hl 2 rfl) ?_
      obtain ⟨h32, hF⟩ := g_if hF
      obtain ⟨g33, h31, hF⟩ := g_bind hF
      refine g_callv (va_runV (As := [.int x1, .int x2]) (rest := []) ⟨hx, hb, hml, hown, hts⟩ (k3_begin l D base g9 q29 x1 x2 g33 h31) (cwV 2 hts gX6_write_X3_begin rfl rfl rfl (by decide +kernel) ⟨Nat.le_of_ble_eq_true rfl, Nat.le_of_ble_eq_true rfl⟩) (gC.preV hE hP hS 3 rfl (by decide) h32 [.int x1, .int x2]) rfl rfl hl.1 rfl (lv_room (Nat.le_of_ble_eq_true rfl)) dX6_write_64 ⟨(Nat.le_of_ble_eq_true rfl), (Nat.le_of_ble_eq_true rfl)⟩) hS (fun H locs hP hS => ?_)
      refine lv_aload_n hx hb dX6_write_67 rfl (lv_at hl 0 rfl) ?_
      obtain ⟨h35, hF⟩ := g_if hF
      obtain ⟨q36, hq37, hF⟩ := g_bind hF
      refine g_get hx hb hts hiX6 hown hK hP 6 rfl (by decide) h35 1 (by decide) (hts (.fieldLink RX6 21 "CourierBees" "now" "LCourierBees$Flight;") (by decide +kernel)) (fun _ h9 => h9) ((gFv_r (by decide)).trans (congrArg va_rf hq37)) dX6_write_68 ?_
      refine lv_dup hx hb dX6_write_71 rfl ?_
      obtain ⟨h38, hF⟩ := g_if hF
      refine g_get hx hb hts hiX1 hown hK hP 1 rfl (by decide) h38 4 (by decide) (hts (.fieldLink RX6 144 "CourierBees$Flight" "letterCount" "I") (by decide +kernel)) (fun _ h9 => h9) (gFv_i (Or.inl rfl)) dX6_write_72 ?_
      refine lv_dup_x1 hx hb dX6_write_75 rfl rfl ?_
      refine lv_iconst (v := 1) hx hb dX6_write_76 (by decide) ?_
      refine lv_iadd hx hb dX6_write_77 ?_
      obtain ⟨y39, e40, hF⟩ := g_let hF
      rw [e40]
      refine g_puti hx hb hts hiX1 tyX1 tyX1_ok nmX1 hown hK hP hS 1 rfl (by decide) h38 4 (by decide) (hts (.fieldLink RX6 144 "CourierBees$Flight" "letterCount" "I") (by decide +kernel)) (fun _ h9 => h9) (Or.inl rfl) (Or.inl rfl) rfl rfl dX6_write_78 (fun H locs hP hS => ?_)
      exact g_xretI hx hb hr hlocks hF hP hS (Nat.le_of_ble_eq_true rfl) (Nat.le_of_ble_eq_true rfl) dX6_write_81
    · have hF := g_f c18 hF
      exact g_throwF hx hb hst hF (text := "there are 20 letters") hown hts (by decide +kernel) (hts (.classLink RX6 39 gES) (by decide +kernel)) (hts (.initialized gES) (by decide +kernel)) (by decide +kernel) g_bad3_43 (by decide) g_good3_39_43 (by decide) hE hP hS (hl.1.trans hml.symm) dX6_write_37 dX6_write_40 dX6_write_41 dX6_write_43 dX6_write_46 ht (Nat.le_of_ble_eq_true rfl) (Nat.le_of_ble_eq_true rfl) (Nat.le_of_ble_eq_true rfl) (Nat.le_of_ble_eq_true rfl) hlocks (by decide) rfl (Nat.le_of_ble_eq_true rfl) (Nat.le_of_ble_eq_true rfl)
  · have hF := g_t c13 hF
    exact g_throwF hx hb hst hF (text := "the letter is there already") hown hts (by decide +kernel) (hts (.classLink RX6 58 gEA) (by decide +kernel)) (hts (.initialized gEA) (by decide +kernel)) (by decide +kernel) g_bad2_62 (by decide) g_good2_58_62 (by decide) hE hP hS (hl.1.trans hml.symm) dX6_write_15 dX6_write_18 dX6_write_19 dX6_write_21 dX6_write_24 ht (Nat.le_of_ble_eq_true rfl) (Nat.le_of_ble_eq_true rfl) (Nat.le_of_ble_eq_true rfl) (Nat.le_of_ble_eq_true rfl) hlocks (by decide) rfl (Nat.le_of_ble_eq_true rfl) (Nat.le_of_ble_eq_true rfl)
set_option maxHeartbeats 4000000 in
set_option maxRecDepth 100000 in
theorem k6_checkLetter (l : Launch) (hst : l.stackTraces = false) (D : va_G) (base : Nat) (g : g_H) (a0 : Nat) (x1 : Int32) (rr : Nat × Int32) (gz : g_H) (hF : f6_checkLetter g a0 x1 = some (rr, gz)) : vx_Met l yX6_checkLetter wsX6_checkLetter ({ frames := 6, cells := 1, slots := 6, locals := 90 } : Room) (va_Pc [.ref a0, .int x1] (gC base D g)) (gXv base D rr gz) (gX base D rr gz) 1 6 (gA base) := by
  refine g_xmet (cc := cX6_checkLetter) (maxL := 2) (ret := none) (lst := [(0, .ref a0), (1, .int x1)]) (by decide) rfl (Nat.le_of_ble_eq_true rfl) rfl ?_
  intro p e s m args below meth c ls hx hb hr hml hown hlocks hname hts hE hP hl ht
  have hown : s.vm.findClass RX6 = some m.cls := hown
  have hK := hE.1
  have hov := hE.2.2.2.2.2.2.2.1
  have hbz := hE.2.2.2.2.2.2.2.2.2.2.2.2
  have hS : va_S (gA base) s.heap s.heap [] := va_S.rf
  have hiX1 : ∀ w ∈ wsX10, w ∈ wsX6_checkLetter := by decide +kernel
  have hiX6 : ∀ w ∈ wsX60, w ∈ wsX6_checkLetter := by decide +kernel
  have HB15 : ∀ (g : g_H)  (H : Heap) (locs : List Loc) (ls : Array Slot), f6_checkLetter_15 g  = some (rr, gz) → gP base D s g H → va_S (gA base) s.heap H locs → lv_has ls 2 [] → W p l e ({ frames := 6, cells := 1, slots := 6, locals := 90 } : Room) s m args below meth c H locs 0 0 (vx_MQ below (gXv base D rr gz) (gX base D rr gz) args s 1 6 (gA base)) (F0 m 15 ls []) := by
    intro g  H locs ls hF hP hS hl
    unfold f6_checkLetter_15 at hF
    exact g_throwF hx hb hst hF (text := "no such letter") hown hts (by decide +kernel) (hts (.classLink RX6 78 gEI) (by decide +kernel)) (hts (.initialized gEI) (by decide +kernel)) (by decide +kernel) g_bad1_82 (by decide) g_good1_78_82 (by decide) hE hP hS (hl.1.trans hml.symm) dX6_checkLetter_15 dX6_checkLetter_18 dX6_checkLetter_19 dX6_checkLetter_21 dX6_checkLetter_24 ht (Nat.le_of_ble_eq_true rfl) (Nat.le_of_ble_eq_true rfl) (Nat.le_of_ble_eq_true rfl) (Nat.le_of_ble_eq_true rfl) hlocks (by decide) rfl (Nat.le_of_ble_eq_true rfl) (Nat.le_of_ble_eq_true rfl)
  unfold f6_checkLetter at hF
  refine lv_iload_n hx hb dX6_checkLetter_0 rfl (lv_at hl 1 rfl) ?_
  refine lv_if_lt (tgt := 15) hx hb dX6_checkLetter_1 (by decide) (fun c1 => ?_) (fun c1 => ?_)
  · have hF := g_t c1 hF
    exact HB15 _ _ _ _ hF hP hS (lv_sub hl [] rfl)
  · have hF := g_f c1 hF
    refine lv_iload_n hx hb dX6_checkLetter_4 rfl (lv_at hl 1 rfl) ?_
    refine lv_aload_n hx hb dX6_checkLetter_5 rfl (lv_at hl 0 rfl) ?_
    obtain ⟨h2, hF⟩ := g_if hF
    obtain ⟨q3, hq4, hF⟩ := g_bind hF
    refine g_get hx hb hts hiX6 hown hK hP 6 rfl (by decide) h2 1 (by decide) (hts (.fieldLink RX6 21 "CourierBees" "now" "LCourierBees$Flight;") (by decide +kernel)) (fun _ h9 => h9) ((gFv_r (by decide)).trans (congrArg va_rf hq4)) dX6_checkLetter_6 ?_
    obtain ⟨h5, hF⟩ := g_if hF
    refine g_get hx hb hts hiX1 hown hK hP 1 rfl (by decide) h5 4 (by decide) (hts (.fieldLink RX6 144 "CourierBees$Flight" "letterCount" "I") (by decide +kernel)) (fun _ h9 => h9) (gFv_i (Or.inl rfl)) dX6_checkLetter_9 ?_
    refine lv_icmp_lt (tgt := 25) hx hb dX6_checkLetter_12 (by decide) (fun c6 => ?_) (fun c6 => ?_)
    · have hF := g_t c6 hF
      exact g_xretV hx hb hr hlocks hF hP hS (Nat.le_of_ble_eq_true rfl) (Nat.le_of_ble_eq_true rfl) dX6_checkLetter_25
    · have hF := g_f c6 hF
      exact HB15 _ _ _ _ hF hP hS (lv_sub hl [] rfl)
set_option maxHeartbeats 4000000 in
set_option maxRecDepth 100000 in
theorem k6_bribe (l : Launch) (hst : l.stackTraces = false) (D : va_G) (base : Nat) (g : g_H) (a0 : Nat) (x1 : Int32) (x2 : Int32) (rr : Nat × Int32) (gz : g_H) (hF : f6_bribe g a0 x1 x2 = some (rr, gz)) : vx_Met l yX6_bribe wsX6_bribe ({ frames := 7, cells := 3, slots := 18, locals := 111 } : Room) (va_Pc [.ref a0, .int x1, .int x2] (gC base D g)) (gXi base D rr gz) (gX base D rr gz) 3 18 (gA base) := by
  refine g_xmet (cc := cX6_bribe) (maxL := 6) (ret := (some .boolean)) (lst := [(0, .ref a0), (1, .int x1), (2, .int x2)]) (by decide) rfl (Nat.le_of_ble_eq_true rfl) rfl ?_
  intro p e s m args below meth c ls hx hb hr hml hown hlocks hname hts hE hP hl ht
  have hown : s.vm.findClass RX6 = some m.cls := hown
  have hK := hE.1
  have hov := hE.2.2.2.2.2.2.2.1
  have hbz := hE.2.2.2.2.2.2.2.2.2.2.2.2
  have hS : va_S (gA base) s.heap s.heap [] := va_S.rf
  have hiX0 : ∀ w ∈ wsX00, w ∈ wsX6_bribe := by decide +kernel
  have hiX1 : ∀ w ∈ wsX10, w ∈ wsX6_bribe := by decide +kernel
  have hiX3 : ∀ w ∈ wsX30, w ∈ wsX6_bribe := by decide +kernel
  have hiX6 : ∀ w ∈ wsX60, w ∈ wsX6_bribe := by decide +kernel
  have HB58 : ∀ (g : g_H)  (H : Heap) (locs : List Loc) (ls : Array Slot), f6_bribe_58 g  = some (rr, gz) → gP base D s g H → va_S (gA base) s.heap H locs → lv_has ls 6 [] → W p l e ({ frames := 7, cells := 3, slots := 18, locals := 111 } : Room) s m args below meth c H locs 2 12 (vx_MQ below (gXi base D rr gz) (gX base D rr gz) args s 3 18 (gA base)) (F0 m 58 ls []) := by
    intro g  H locs ls hF hP hS hl
    unfold f6_bribe_58 at hF
    exact g_throwF hx hb hst hF (text := "the bee can not take this letter now") hown hts (by decide +kernel) (hts (.classLink RX6 39 gES) (by decide +kernel)) (hts (.initialized gES) (by decide +kernel)) (by decide +kernel) g_bad3_43 (by decide) g_good3_39_43 (by decide) hE hP hS (hl.1.trans hml.symm) dX6_bribe_58 dX6_bribe_61 dX6_bribe_62 dX6_bribe_64 dX6_bribe_67 ht (Nat.le_of_ble_eq_true rfl) (Nat.le_of_ble_eq_true rfl) (Nat.le_of_ble_eq_true rfl) (Nat.le_of_ble_eq_true rfl) hlocks (by decide) rfl (Nat.le_of_ble_eq_true rfl) (Nat.le_of_ble_eq_true rfl)
  have HB81 : ∀ (g : g_H) (a3 : Nat) (a4 : Nat) (s0 : Int32) (H : Heap) (locs : List Loc) (ls : Array Slot), f6_bribe_81 g a3 a4 s0 = some (rr, gz) → gP base D s g H → va_S (gA base) s.heap H locs → lv_has ls 6 [(3, .ref a3), (4, .ref a4)] → W p l e ({ frames := 7, cells := 3, slots := 18, locals := 111 } : Room) s m args below meth c H locs 2 12 (vx_MQ below (gXi base D rr gz) (gX base D rr gz) args s 3 18 (gA base)) (F0 m 81 ls [.int s0]) := by
    intro g a3 a4 s0 H locs ls hF hP hS hl
    unfold f6_bribe_81 at hF
    refine lv_istore (lv' := [(5, .int s0), (3, .ref a3), (4, .ref a4)]) hx hb dX6_bribe_81 hl (by decide) rfl (fun ls hl => ?_)
    refine lv_iload hx hb dX6_bribe_83 (lv_at hl 0 rfl) ?_
    refine lv_if_eq (tgt := 96) hx hb dX6_bribe_85 (by decide) (fun c42 => ?_) (fun c42 => ?_)
    · have hF := g_t c42 hF
      refine lv_aload_n hx hb dX6_bribe_96 rfl (lv_at hl 1 rfl) ?_
      refine lv_aload hx hb dX6_bribe_97 (lv_at hl 2 rfl) ?_
      obtain ⟨h44, hF⟩ := g_if hF
      obtain ⟨g45, h43, hF⟩ := g_bind hF
      refine g_callv (va_runV (As := [.ref a4]) (rest := []) ⟨hx, hb, hml, hown, hts⟩ (k0_take l D base g a3 a4 g45 h43) (cwV 1 hts gX6_bribe_X0_take rfl rfl rfl (by decide +kernel) ⟨Nat.le_of_ble_eq_true rfl, Nat.le_of_ble_eq_true rfl⟩) (gC.preV hE hP hS 0 rfl (by decide) h44 [.ref a4]) rfl rfl hl.1 rfl (lv_room (Nat.le_of_ble_eq_true rfl)) dX6_bribe_99 ⟨(Nat.le_of_ble_eq_true rfl), (Nat.le_of_ble_eq_true rfl)⟩) hS (fun H locs hP hS => ?_)
      refine lv_aload_n hx hb dX6_bribe_102 rfl (lv_at hl 1 rfl) ?_
      refine lv_iconst (v := (-1)) hx hb dX6_bribe_103 (by decide) ?_
      obtain ⟨h48, hF⟩ := g_if hF
      obtain ⟨g49, h47, hF⟩ := g_bind hF
      refine g_callv (va_runV (As := [.int ((-1 : Int32))]) (rest := []) ⟨hx, hb, hml, hown, hts⟩ (k0_addHonour l D base g45 a3 ((-1 : Int32)) g49 h47) (cwV 1 hts gX6_bribe_X0_addHonour rfl rfl rfl (by decide +kernel) ⟨Nat.le_of_ble_eq_true rfl, Nat.le_of_ble_eq_true rfl⟩) (gC.preV hE hP hS 0 rfl (by decide) h48 [.int ((-1 : Int32))]) rfl rfl hl.1 rfl (lv_room (Nat.le_of_ble_eq_true rfl)) dX6_bribe_104 ⟨(Nat.le_of_ble_eq_true rfl), (Nat.le_of_ble_eq_true rfl)⟩) hS (fun H locs hP hS => ?_)
      refine lv_iload hx hb dX6_bribe_107 (lv_at hl 0 rfl) ?_
      refine lv_if_ne (tgt := 116) hx hb dX6_bribe_109 (by decide) (fun c51 => ?_) (fun c51 => ?_)
      · have hF := g_f c51 hF
        refine lv_iconst (v := 0) hx hb dX6_bribe_116 (by decide) ?_
        exact g_xretZ hx hb hr (Or.inl rfl) hlocks hF hP hS (Nat.le_of_ble_eq_true rfl) (Nat.le_of_ble_eq_true rfl) dX6_bribe_117
      · have hF := g_t c51 hF
        refine lv_iconst (v := 1) hx hb dX6_bribe_112 (by decide) ?_
        refine lv_goto (tgt := 117) hx hb dX6_bribe_113 (by decide) ?_
        exact g_xretZ hx hb hr (Or.inr rfl) hlocks hF hP hS (Nat.le_of_ble_eq_true rfl) (Nat.le_of_ble_eq_true rfl) dX6_bribe_117
    · have hF := g_f c42 hF
      refine lv_aload_n hx hb dX6_bribe_88 rfl (lv_at hl 1 rfl) ?_
      refine lv_iconst (v := 1) hx hb dX6_bribe_89 (by decide) ?_
      obtain ⟨h53, hF⟩ := g_if hF
      obtain ⟨g54, h52, hF⟩ := g_bind hF
      refine g_callv (va_runV (As := [.int ((1 : Int32))]) (rest := []) ⟨hx, hb, hml, hown, hts⟩ (k0_addHonour l D base g a3 ((1 : Int32)) g54 h52) (cwV 1 hts gX6_bribe_X0_addHonour rfl rfl rfl (by decide +kernel) ⟨Nat.le_of_ble_eq_true rfl, Nat.le_of_ble_eq_true rfl⟩) (gC.preV hE hP hS 0 rfl (by decide) h53 [.int ((1 : Int32))]) rfl rfl hl.1 rfl (lv_room (Nat.le_of_ble_eq_true rfl)) dX6_bribe_90 ⟨(Nat.le_of_ble_eq_true rfl), (Nat.le_of_ble_eq_true rfl)⟩) hS (fun H locs hP hS => ?_)
      refine lv_goto (tgt := 107) hx hb dX6_bribe_93 (by decide) ?_
      refine lv_iload hx hb dX6_bribe_107 (lv_at hl 0 rfl) ?_
      refine lv_if_ne (tgt := 116) hx hb dX6_bribe_109 (by decide) (fun c56 => ?_) (fun c56 => ?_)
      · have hF := g_f c56 hF
        refine lv_iconst (v := 0) hx hb dX6_bribe_116 (by decide) ?_
        exact g_xretZ hx hb hr (Or.inl rfl) hlocks hF hP hS (Nat.le_of_ble_eq_true rfl) (Nat.le_of_ble_eq_true rfl) dX6_bribe_117
      · have hF := g_t c56 hF
        refine lv_iconst (v := 1) hx hb dX6_bribe_112 (by decide) ?_
        refine lv_goto (tgt := 117) hx hb dX6_bribe_113 (by decide) ?_
        exact g_xretZ hx hb hr (Or.inr rfl) hlocks hF hP hS (Nat.le_of_ble_eq_true rfl) (Nat.le_of_ble_eq_true rfl) dX6_bribe_117
  unfold f6_bribe at hF
  refine lv_aload_n hx hb dX6_bribe_0 rfl (lv_at hl 0 rfl) ?_
  refine lv_iload_n hx hb dX6_bribe_1 rfl (lv_at hl 1 rfl) ?_
  obtain ⟨h2, hF⟩ := g_if hF
  obtain ⟨o5, g3, h1, hF⟩ := g_bind2 hF
  refine g_xcallv (vx_runV (As := [.int x1]) (rest := []) ⟨hx, hb, hml, hown, hts⟩ (k6_checkBee l hst D base g a0 x1 o5 g3 h1) (cwV 1 hts gX6_bribe_X6_checkBee rfl rfl rfl (by decide +kernel) ⟨Nat.le_of_ble_eq_true rfl, Nat.le_of_ble_eq_true rfl⟩) (gC.preV hE hP hS 6 rfl (by decide) h2 [.int x1]) rfl rfl hl.1 rfl (lv_room (Nat.le_of_ble_eq_true rfl)) dX6_bribe_2 ⟨(Nat.le_of_ble_eq_true rfl), (Nat.le_of_ble_eq_true rfl)⟩) hS ht hlocks (fun h0 => g_thr h0 hF) (Nat.le_of_ble_eq_true rfl) (Nat.le_of_ble_eq_true rfl) (fun H locs h6 hP hS => ?_)
  have hF := g_t h6 hF
  refine lv_aload_n hx hb dX6_bribe_5 rfl (lv_at hl 0 rfl) ?_
  refine lv_iload_n hx hb dX6_bribe_6 rfl (lv_at hl 2 rfl) ?_
  obtain ⟨h8, hF⟩ := g_if hF
  obtain ⟨o11, g9, h7, hF⟩ := g_bind2 hF
  refine g_xcallv (vx_runV (As := [.int x2]) (rest := []) ⟨hx, hb, hml, hown, hts⟩ (k6_checkLetter l hst D base g3 a0 x2 o11 g9 h7) (cwV 1 hts gX6_bribe_X6_checkLetter rfl rfl rfl (by decide +kernel) ⟨Nat.le_of_ble_eq_true rfl, Nat.le_of_ble_eq_true rfl⟩) (gC.preV hE hP hS 6 rfl (by decide) h8 [.int x2]) rfl rfl hl.1 rfl (lv_room (Nat.le_of_ble_eq_true rfl)) dX6_bribe_7 ⟨(Nat.le_of_ble_eq_true rfl), (Nat.le_of_ble_eq_true rfl)⟩) hS ht hlocks (fun h0 => g_thr h0 hF) (Nat.le_of_ble_eq_true rfl) (Nat.le_of_ble_eq_true rfl) (fun H locs h12 hP hS => ?_)
  have hF := g_t h12 hF
  refine lv_aload_n hx hb dX6_bribe_10 rfl (lv_at hl 0 rfl) ?_
  obtain ⟨h13, hF⟩ := g_if hF
  obtain ⟨q14, hq15, hF⟩ := g_bind hF
  refine g_get hx hb hts hiX6 hown hK hP 6 rfl (by decide) h13 1 (by decide) (hts (.fieldLink RX6 21 "CourierBees" "now" "LCourierBees$Flight;") (by decide +kernel)) (fun _ h9 => h9) ((gFv_r (by decide)).trans (congrArg va_rf hq15)) dX6_bribe_11 ?_
  obtain ⟨h16, hF⟩ := g_if hF
  obtain ⟨q17, hq18, hF⟩ := g_bind hF
  refine g_get hx hb hts hiX1 hown hK hP 1 rfl (by decide) h16 1 (by decide) (hts (.fieldLink RX6 106 "CourierBees$Flight" "bees" "[LCourierBees$Bee;") (by decide +kernel)) (fun _ h9 => h9) ((gFv_r (by decide)).trans (congrArg va_rf hq18)) dX6_bribe_14 ?_
  refine lv_iload_n hx hb dX6_bribe_17 rfl (lv_at hl 1 rfl) ?_
  obtain ⟨h19, hF⟩ := g_if hF
  obtain ⟨h20, hF⟩ := g_if hF
  obtain ⟨q21, hq22, hF⟩ := g_bind hF
  refine g_aald hx hb hP (g_pr h19) (by decide) h20 hq22 dX6_bribe_18 ?_
  refine lv_astore_n (lv' := [(3, .ref q21), (0, .ref a0), (1, .int x1), (2, .int x2)]) hx hb dX6_bribe_19 rfl hl (by decide) rfl (fun ls hl => ?_)
  refine lv_aload_n hx hb dX6_bribe_20 rfl (lv_at hl 1 rfl) ?_
  obtain ⟨q23, hq24, hF⟩ := g_bind hF
  refine g_get hx hb hts hiX6 hown hK hP 6 rfl (by decide) h13 1 (by decide) (hts (.fieldLink RX6 21 "CourierBees" "now" "LCourierBees$Flight;") (by decide +kernel)) (fun _ h9 => h9) ((gFv_r (by decide)).trans (congrArg va_rf hq24)) dX6_bribe_21 ?_
  obtain ⟨h25, hF⟩ := g_if hF
  obtain ⟨q26, hq27, hF⟩ := g_bind hF
  refine g_get hx hb hts hiX1 hown hK hP 1 rfl (by decide) h25 2 (by decide) (hts (.fieldLink RX6 149 "CourierBees$Flight" "letters" "[LCourierBees$Letter;") (by decide +kernel)) (fun _ h9 => h9) ((gFv_r (by decide)).trans (congrArg va_rf hq27)) dX6_bribe_24 ?_
  refine lv_iload_n hx hb dX6_bribe_27 rfl (lv_at hl 3 rfl) ?_
  obtain ⟨h28, hF⟩ := g_if hF
  obtain ⟨h29, hF⟩ := g_if hF
  obtain ⟨q30, hq31, hF⟩ := g_bind hF
  refine g_aald hx hb hP (g_pr h28) (by decide) h29 hq31 dX6_bribe_28 ?_
  refine lv_astore (lv' := [(4, .ref q30), (3, .ref q21), (0, .ref a0), (1, .int x1), (2, .int x2)]) hx hb dX6_bribe_29 hl (by decide) rfl (fun ls hl => ?_)
  refine lv_aload_n hx hb dX6_bribe_31 rfl (lv_at hl 1 rfl) ?_
  obtain ⟨h32, hF⟩ := g_if hF
  refine g_get hx hb hts hiX0 hown hK hP 0 rfl (by decide) h32 3 (by decide) (hts (.fieldLink RX6 127 "CourierBees$Bee" "left" "I") (by decide +kernel)) (fun _ h9 => h9) (gFv_i (Or.inl rfl)) dX6_bribe_32 ?_
  refine lv_if_gt (tgt := 58) hx hb dX6_bribe_35 (by decide) (fun c33 => ?_) (fun c33 => ?_)
  · have hF := g_t c33 hF
    exact HB58 _ _ _ _ hF hP hS (lv_sub hl [] rfl)
  · have hF := g_f c33 hF
    refine lv_aload hx hb dX6_bribe_38 (lv_at hl 0 rfl) ?_
    obtain ⟨h34, hF⟩ := g_if hF
    refine g_get hx hb hts hiX3 hown hK hP 3 rfl (by decide) h34 1 (by decide) (hts (.fieldLink RX6 162 "CourierBees$Letter" "lies" "I") (by decide +kernel)) (fun _ h9 => h9) (gFv_i (Or.inl rfl)) dX6_bribe_40 ?_
    refine lv_aload_n hx hb dX6_bribe_43 rfl (lv_at hl 1 rfl) ?_
    obtain ⟨v37, g36, h35, hF⟩ := g_bind2 hF
    refine g_calli (va_runV (As := []) (rest := [.int (gI g9 q30 1)]) ⟨hx, hb, hml, hown, hts⟩ (k0_house l D base g9 q21 v37 g36 h35) (cwV 0 hts gX6_bribe_X0_house rfl rfl rfl (by decide +kernel) ⟨Nat.le_of_ble_eq_true rfl, Nat.le_of_ble_eq_true rfl⟩) (gC.preV hE hP hS 0 rfl (by decide) h32 []) rfl rfl hl.1 rfl (lv_room (Nat.le_of_ble_eq_true rfl)) dX6_bribe_44 ⟨(Nat.le_of_ble_eq_true rfl), (Nat.le_of_ble_eq_true rfl)⟩) hS (fun H locs hP hS => ?_)
    refine lv_icmp_ne (tgt := 58) hx hb dX6_bribe_47 (by decide) (fun c38 => ?_) (fun c38 => ?_)
    · have hF := g_f c38 hF
      exact HB58 _ _ _ _ hF hP hS (lv_sub hl [] rfl)
    · have hF := g_t c38 hF
      refine lv_aload_n hx hb dX6_bribe_50 rfl (lv_at hl 1 rfl) ?_
      obtain ⟨h39, hF⟩ := g_if hF
      refine g_get hx hb hts hiX0 hown hK hP 0 rfl (by decide) h39 6 (by decide) (hts (.fieldLink RX6 165 "CourierBees$Bee" "carries" "I") (by decide +kernel)) (fun _ h9 => h9) (gFv_i (Or.inl rfl)) dX6_bribe_51 ?_
      refine lv_iconst (v := 3) hx hb dX6_bribe_54 (by decide) ?_
      refine lv_icmp_lt (tgt := 68) hx hb dX6_bribe_55 (by decide) (fun c40 => ?_) (fun c40 => ?_)
      · have hF := g_t c40 hF
        refine lv_aload_n hx hb dX6_bribe_68 rfl (lv_at hl 1 rfl) ?_
        refine g_get hx hb hts hiX0 hown hK hP 0 rfl (by decide) h39 5 (by decide) (hts (.fieldLink RX6 139 "CourierBees$Bee" "honour" "I") (by decide +kernel)) (fun _ h9 => h9) (gFv_i (Or.inl rfl)) dX6_bribe_69 ?_
        refine lv_iconst (v := 5) hx hb dX6_bribe_72 (by decide) ?_
        refine lv_icmp_lt (tgt := 80) hx hb dX6_bribe_73 (by decide) (fun c41 => ?_) (fun c41 => ?_)
        · have hF := g_t c41 hF
          refine lv_iconst (v := 0) hx hb dX6_bribe_80 (by decide) ?_
          exact HB81 _ _ _ _ _ _ _ hF hP hS (lv_sub hl [1, 0] rfl)
        · have hF := g_f c41 hF
          refine lv_iconst (v := 1) hx hb dX6_bribe_76 (by decide) ?_
          refine lv_goto (tgt := 81) hx hb dX6_bribe_77 (by decide) ?_
          exact HB81 _ _ _ _ _ _ _ hF hP hS (lv_sub hl [1, 0] rfl)
      · have hF := g_f c40 hF
        exact HB58 _ _ _ _ hF hP hS (lv_sub hl [] rfl)
set_option maxHeartbeats 4000000 in
set_option maxRecDepth 100000 in
theorem k6_checkWhat (l : Launch) (hst : l.stackTraces = false) (D : va_G) (base : Nat) (g : g_H) (x0 : Int32) (x1 : Int32) (rr : Nat × Int32) (gz : g_H) (hF : f6_checkWhat g x0 x1 = some (rr, gz)) : vx_Met l yX6_checkWhat wsX6_checkWhat ({ frames := 6, cells := 1, slots := 6, locals := 90 } : Room) (va_Pc [.int x0, .int x1] (gC base D g)) (gXv base D rr gz) (gX base D rr gz) 1 6 (gA base) := by
  refine g_xmet (cc := cX6_checkWhat) (maxL := 2) (ret := none) (lst := [(0, .int x0), (1, .int x1)]) (by decide) rfl (Nat.le_of_ble_eq_true rfl) rfl ?_
  intro p e s m args below meth c ls hx hb hr hml hown hlocks hname hts hE hP hl ht
  have hown : s.vm.findClass RX6 = some m.cls := hown
  have hK := hE.1
  have hov := hE.2.2.2.2.2.2.2.1
  have hbz := hE.2.2.2.2.2.2.2.2.2.2.2.2
  have hS : va_S (gA base) s.heap s.heap [] := va_S.rf
  have HB9 : ∀ (g : g_H)  (H : Heap) (locs : List Loc) (ls : Array Slot), f6_checkWhat_9 g  = some (rr, gz) → gP base D s g H → va_S (gA base) s.heap H locs → lv_has ls 2 [] → W p l e ({ frames := 6, cells := 1, slots := 6, locals := 90 } : Room) s m args below meth c H locs 0 0 (vx_MQ below (gXv base D rr gz) (gX base D rr gz) args s 1 6 (gA base)) (F0 m 9 ls []) := by
    intro g  H locs ls hF hP hS hl
    unfold f6_checkWhat_9 at hF
    exact g_throwF hx hb hst hF (text := "nothing is told by this number") hown hts (by decide +kernel) (hts (.classLink RX6 78 gEI) (by decide +kernel)) (hts (.initialized gEI) (by decide +kernel)) (by decide +kernel) g_bad1_82 (by decide) g_good1_78_82 (by decide) hE hP hS (hl.1.trans hml.symm) dX6_checkWhat_9 dX6_checkWhat_12 dX6_checkWhat_13 dX6_checkWhat_15 dX6_checkWhat_18 ht (Nat.le_of_ble_eq_true rfl) (Nat.le_of_ble_eq_true rfl) (Nat.le_of_ble_eq_true rfl) (Nat.le_of_ble_eq_true rfl) hlocks (by decide) rfl (Nat.le_of_ble_eq_true rfl) (Nat.le_of_ble_eq_true rfl)
  unfold f6_checkWhat at hF
  refine lv_iload_n hx hb dX6_checkWhat_0 rfl (lv_at hl 0 rfl) ?_
  refine lv_if_lt (tgt := 9) hx hb dX6_checkWhat_1 (by decide) (fun c1 => ?_) (fun c1 => ?_)
  · have hF := g_t c1 hF
    exact HB9 _ _ _ _ hF hP hS (lv_sub hl [] rfl)
  · have hF := g_f c1 hF
    refine lv_iload_n hx hb dX6_checkWhat_4 rfl (lv_at hl 0 rfl) ?_
    refine lv_iload_n hx hb dX6_checkWhat_5 rfl (lv_at hl 1 rfl) ?_
    refine lv_icmp_lt (tgt := 19) hx hb dX6_checkWhat_6 (by decide) (fun c2 => ?_) (fun c2 => ?_)
    · have hF := g_t c2 hF
      exact g_xretV hx hb hr hlocks hF hP hS (Nat.le_of_ble_eq_true rfl) (Nat.le_of_ble_eq_true rfl) dX6_checkWhat_19
    · have hF := g_f c2 hF
      exact HB9 _ _ _ _ hF hP hS (lv_sub hl [] rfl)
set_option maxHeartbeats 4000000 in
set_option maxRecDepth 100000 in
theorem k6_bee (l : Launch) (hst : l.stackTraces = false) (D : va_G) (base : Nat) (g : g_H) (a0 : Nat) (x1 : Int32) (x2 : Int32) (rr : Nat × Int32) (gz : g_H) (hF : f6_bee g a0 x1 x2 = some (rr, gz)) : vx_Met l yX6_bee wsX6_bee ({ frames := 7, cells := 2, slots := 12, locals := 111 } : Room) (va_Pc [.ref a0, .int x1, .int x2] (gC base D g)) (gXi base D rr gz) (gX base D rr gz) 2 12 (gA base) := by
  refine g_xmet (cc := cX6_bee) (maxL := 3) (ret := (some .int)) (lst := [(0, .ref a0), (1, .int x1), (2, .int x2)]) (by decide) rfl (Nat.le_of_ble_eq_true rfl) rfl ?_
  intro p e s m args below meth c ls hx hb hr hml hown hlocks hname hts hE hP hl ht
  have hown : s.vm.findClass RX6 = some m.cls := hown
  have hK := hE.1
  have hov := hE.2.2.2.2.2.2.2.1
  have hbz := hE.2.2.2.2.2.2.2.2.2.2.2.2
  have hS : va_S (gA base) s.heap s.heap [] := va_S.rf
  have hiX1 : ∀ w ∈ wsX10, w ∈ wsX6_bee := by decide +kernel
  have hiX6 : ∀ w ∈ wsX60, w ∈ wsX6_bee := by decide +kernel
  unfold f6_bee at hF
  refine lv_aload_n hx hb dX6_bee_0 rfl (lv_at hl 0 rfl) ?_
  refine lv_iload_n hx hb dX6_bee_1 rfl (lv_at hl 1 rfl) ?_
  obtain ⟨h2, hF⟩ := g_if hF
  obtain ⟨o5, g3, h1, hF⟩ := g_bind2 hF
  refine g_xcallv (vx_runV (As := [.int x1]) (rest := []) ⟨hx, hb, hml, hown, hts⟩ (k6_checkBee l hst D base g a0 x1 o5 g3 h1) (cwV 1 hts gX6_bee_X6_checkBee rfl rfl rfl (by decide +kernel) ⟨Nat.le_of_ble_eq_true rfl, Nat.le_of_ble_eq_true rfl⟩) (gC.preV hE hP hS 6 rfl (by decide) h2 [.int x1]) rfl rfl hl.1 rfl (lv_room (Nat.le_of_ble_eq_true rfl)) dX6_bee_2 ⟨(Nat.le_of_ble_eq_true rfl), (Nat.le_of_ble_eq_true rfl)⟩) hS ht hlocks (fun h0 => g_thr h0 hF) (Nat.le_of_ble_eq_true rfl) (Nat.le_of_ble_eq_true rfl) (fun H locs h6 hP hS => ?_)
  have hF := g_t h6 hF
  refine lv_iload_n hx hb dX6_bee_5 rfl (lv_at hl 2 rfl) ?_
  refine lv_bipush (v := 9) hx hb dX6_bee_6 (by decide) ?_
  obtain ⟨o10, g8, h7, hF⟩ := g_bind2 hF
  refine g_xcallv (vx_runS (As := [.int x2, .int ((9 : Int32))]) (rest := []) ⟨hx, hb, hml, hown, hts⟩ (k6_checkWhat l hst D base g3 x2 ((9 : Int32)) o10 g8 h7) (va_cwS 2 hts gX6_bee_X6_checkWhat rfl rfl rfl (by decide +kernel) ⟨Nat.le_of_ble_eq_true rfl, Nat.le_of_ble_eq_true rfl⟩) (gC.preS hE hP hS [.int x2, .int ((9 : Int32))]) rfl rfl hl.1 rfl (lv_room (Nat.le_of_ble_eq_true rfl)) dX6_bee_8 ⟨(Nat.le_of_ble_eq_true rfl), (Nat.le_of_ble_eq_true rfl)⟩) hS ht hlocks (fun h0 => g_thr h0 hF) (Nat.le_of_ble_eq_true rfl) (Nat.le_of_ble_eq_true rfl) (fun H locs h11 hP hS => ?_)
  have hF := g_t h11 hF
  refine lv_aload_n hx hb dX6_bee_11 rfl (lv_at hl 0 rfl) ?_
  obtain ⟨h12, hF⟩ := g_if hF
  obtain ⟨q13, hq14, hF⟩ := g_bind hF
  refine g_get hx hb hts hiX6 hown hK hP 6 rfl (by decide) h12 1 (by decide) (hts (.fieldLink RX6 21 "CourierBees" "now" "LCourierBees$Flight;") (by decide +kernel)) (fun _ h9 => h9) ((gFv_r (by decide)).trans (congrArg va_rf hq14)) dX6_bee_12 ?_
  obtain ⟨h15, hF⟩ := g_if hF
  obtain ⟨q16, hq17, hF⟩ := g_bind hF
  refine g_get hx hb hts hiX1 hown hK hP 1 rfl (by decide) h15 1 (by decide) (hts (.fieldLink RX6 106 "CourierBees$Flight" "bees" "[LCourierBees$Bee;") (by decide +kernel)) (fun _ h9 => h9) ((gFv_r (by decide)).trans (congrArg va_rf hq17)) dX6_bee_15 ?_
  refine lv_iload_n hx hb dX6_bee_18 rfl (lv_at hl 1 rfl) ?_
  obtain ⟨h18, hF⟩ := g_if hF
  obtain ⟨h19, hF⟩ := g_if hF
  obtain ⟨q20, hq21, hF⟩ := g_bind hF
  refine g_aald hx hb hP (g_pr h18) (by decide) h19 hq21 dX6_bee_19 ?_
  refine lv_iload_n hx hb dX6_bee_20 rfl (lv_at hl 2 rfl) ?_
  obtain ⟨h23, hF⟩ := g_if hF
  obtain ⟨v25, g24, h22, hF⟩ := g_bind2 hF
  refine g_calli (va_runV (As := [.int x2]) (rest := []) ⟨hx, hb, hml, hown, hts⟩ (k0_tell l D base g8 q20 x2 v25 g24 h22) (cwV 1 hts gX6_bee_X0_tell rfl rfl rfl (by decide +kernel) ⟨Nat.le_of_ble_eq_true rfl, Nat.le_of_ble_eq_true rfl⟩) (gC.preV hE hP hS 0 rfl (by decide) h23 [.int x2]) rfl rfl hl.1 rfl (lv_room (Nat.le_of_ble_eq_true rfl)) dX6_bee_21 ⟨(Nat.le_of_ble_eq_true rfl), (Nat.le_of_ble_eq_true rfl)⟩) hS (fun H locs hP hS => ?_)
  exact g_xretI hx hb hr hlocks hF hP hS (Nat.le_of_ble_eq_true rfl) (Nat.le_of_ble_eq_true rfl) dX6_bee_24
set_option maxHeartbeats 4000000 in
set_option maxRecDepth 100000 in
theorem k6_letter (l : Launch) (hst : l.stackTraces = false) (D : va_G) (base : Nat) (g : g_H) (a0 : Nat) (x1 : Int32) (x2 : Int32) (rr : Nat × Int32) (gz : g_H) (hF : f6_letter g a0 x1 x2 = some (rr, gz)) : vx_Met l yX6_letter wsX6_letter ({ frames := 7, cells := 2, slots := 12, locals := 111 } : Room) (va_Pc [.ref a0, .int x1, .int x2] (gC base D g)) (gXi base D rr gz) (gX base D rr gz) 2 12 (gA base) := by
  refine g_xmet (cc := cX6_letter) (maxL := 3) (ret := (some .int)) (lst := [(0, .ref a0), (1, .int x1), (2, .int x2)]) (by decide) rfl (Nat.le_of_ble_eq_true rfl) rfl ?_
  intro p e s m args below meth c ls hx hb hr hml hown hlocks hname hts hE hP hl ht
  have hown : s.vm.findClass RX6 = some m.cls := hown
  have hK := hE.1
  have hov := hE.2.2.2.2.2.2.2.1
  have hbz := hE.2.2.2.2.2.2.2.2.2.2.2.2
  have hS : va_S (gA base) s.heap s.heap [] := va_S.rf
  have hiX1 : ∀ w ∈ wsX10, w ∈ wsX6_letter := by decide +kernel
  have hiX6 : ∀ w ∈ wsX60, w ∈ wsX6_letter := by decide +kernel
  unfold f6_letter at hF
  refine lv_aload_n hx hb dX6_letter_0 rfl (lv_at hl 0 rfl) ?_
  refine lv_iload_n hx hb dX6_letter_1 rfl (lv_at hl 1 rfl) ?_
  obtain ⟨h2, hF⟩ := g_if hF
  obtain ⟨o5, g3, h1, hF⟩ := g_bind2 hF
  refine g_xcallv (vx_runV (As := [.int x1]) (rest := []) ⟨hx, hb, hml, hown, hts⟩ (k6_checkLetter l hst D base g a0 x1 o5 g3 h1) (cwV 1 hts gX6_letter_X6_checkLetter rfl rfl rfl (by decide +kernel) ⟨Nat.le_of_ble_eq_true rfl, Nat.le_of_ble_eq_true rfl⟩) (gC.preV hE hP hS 6 rfl (by decide) h2 [.int x1]) rfl rfl hl.1 rfl (lv_room (Nat.le_of_ble_eq_true rfl)) dX6_letter_2 ⟨(Nat.le_of_ble_eq_true rfl), (Nat.le_of_ble_eq_true rfl)⟩) hS ht hlocks (fun h0 => g_thr h0 hF) (Nat.le_of_ble_eq_true rfl) (Nat.le_of_ble_eq_true rfl) (fun H locs h6 hP hS => ?_)
  have hF := g_t h6 hF
  refine lv_iload_n hx hb dX6_letter_5 rfl (lv_at hl 2 rfl) ?_
  refine lv_iconst (v := 5) hx hb dX6_letter_6 (by decide) ?_
  obtain ⟨o10, g8, h7, hF⟩ := g_bind2 hF
  refine g_xcallv (vx_runS (As := [.int x2, .int ((5 : Int32))]) (rest := []) ⟨hx, hb, hml, hown, hts⟩ (k6_checkWhat l hst D base g3 x2 ((5 : Int32)) o10 g8 h7) (va_cwS 2 hts gX6_letter_X6_checkWhat rfl rfl rfl (by decide +kernel) ⟨Nat.le_of_ble_eq_true rfl, Nat.le_of_ble_eq_true rfl⟩) (gC.preS hE hP hS [.int x2, .int ((5 : Int32))]) rfl rfl hl.1 rfl (lv_room (Nat.le_of_ble_eq_true rfl)) dX6_letter_7 ⟨(Nat.le_of_ble_eq_true rfl), (Nat.le_of_ble_eq_true rfl)⟩) hS ht hlocks (fun h0 => g_thr h0 hF) (Nat.le_of_ble_eq_true rfl) (Nat.le_of_ble_eq_true rfl) (fun H locs h11 hP hS => ?_)
  have hF := g_t h11 hF
  refine lv_aload_n hx hb dX6_letter_10 rfl (lv_at hl 0 rfl) ?_
  obtain ⟨h12, hF⟩ := g_if hF
  obtain ⟨q13, hq14, hF⟩ := g_bind hF
  refine g_get hx hb hts hiX6 hown hK hP 6 rfl (by decide) h12 1 (by decide) (hts (.fieldLink RX6 21 "CourierBees" "now" "LCourierBees$Flight;") (by decide +kernel)) (fun _ h9 => h9) ((gFv_r (by decide)).trans (congrArg va_rf hq14)) dX6_letter_11 ?_
  obtain ⟨h15, hF⟩ := g_if hF
  obtain ⟨q16, hq17, hF⟩ := g_bind hF
  refine g_get hx hb hts hiX1 hown hK hP 1 rfl (by decide) h15 2 (by decide) (hts (.fieldLink RX6 149 "CourierBees$Flight" "letters" "[LCourierBees$Letter;") (by decide +kernel)) (fun _ h9 => h9) ((gFv_r (by decide)).trans (congrArg va_rf hq17)) dX6_letter_14 ?_
  refine lv_iload_n hx hb dX6_letter_17 rfl (lv_at hl 1 rfl) ?_
  obtain ⟨h18, hF⟩ := g_if hF
  obtain ⟨h19, hF⟩ := g_if hF
  obtain ⟨q20, hq21, hF⟩ := g_bind hF
  refine g_aald hx hb hP (g_pr h18) (by decide) h19 hq21 dX6_letter_18 ?_
  refine lv_iload_n hx hb dX6_letter_19 rfl (lv_at hl 2 rfl) ?_
  obtain ⟨h23, hF⟩ := g_if hF
  obtain ⟨v25, g24, h22, hF⟩ := g_bind2 hF
  refine g_calli (va_runV (As := [.int x2]) (rest := []) ⟨hx, hb, hml, hown, hts⟩ (k3_tell l D base g8 q20 x2 v25 g24 h22) (cwV 1 hts gX6_letter_X3_tell rfl rfl rfl (by decide +kernel) ⟨Nat.le_of_ble_eq_true rfl, Nat.le_of_ble_eq_true rfl⟩) (gC.preV hE hP hS 3 rfl (by decide) h23 [.int x2]) rfl rfl hl.1 rfl (lv_room (Nat.le_of_ble_eq_true rfl)) dX6_letter_20 ⟨(Nat.le_of_ble_eq_true rfl), (Nat.le_of_ble_eq_true rfl)⟩) hS (fun H locs hP hS => ?_)
  exact g_xretI hx hb hr hlocks hF hP hS (Nat.le_of_ble_eq_true rfl) (Nat.le_of_ble_eq_true rfl) dX6_letter_23
set_option maxHeartbeats 4000000 in
set_option maxRecDepth 100000 in
theorem k6_target (l : Launch) (hst : l.stackTraces = false) (D : va_G) (base : Nat) (g : g_H) (a0 : Nat) (x1 : Int32) (x2 : Int32) (rr : Nat × Int32) (gz : g_H) (hF : f6_target g a0 x1 x2 = some (rr, gz)) : vx_Met l yX6_target wsX6_target ({ frames := 7, cells := 2, slots := 12, locals := 111 } : Room) (va_Pc [.ref a0, .int x1, .int x2] (gC base D g)) (gXi base D rr gz) (gX base D rr gz) 2 12 (gA base) := by
  refine g_xmet (cc := cX6_target) (maxL := 3) (ret := (some .int)) (lst := [(0, .ref a0), (1, .int x1), (2, .int x2)]) (by decide) rfl (Nat.le_of_ble_eq_true rfl) rfl ?_
  intro p e s m args below meth c ls hx hb hr hml hown hlocks hname hts hE hP hl ht
  have hown : s.vm.findClass RX6 = some m.cls := hown
  have hK := hE.1
  have hov := hE.2.2.2.2.2.2.2.1
  have hbz := hE.2.2.2.2.2.2.2.2.2.2.2.2
  have hS : va_S (gA base) s.heap s.heap [] := va_S.rf
  have hiX0 : ∀ w ∈ wsX00, w ∈ wsX6_target := by decide +kernel
  have hiX1 : ∀ w ∈ wsX10, w ∈ wsX6_target := by decide +kernel
  have hiX6 : ∀ w ∈ wsX60, w ∈ wsX6_target := by decide +kernel
  unfold f6_target at hF
  refine lv_aload_n hx hb dX6_target_0 rfl (lv_at hl 0 rfl) ?_
  refine lv_iload_n hx hb dX6_target_1 rfl (lv_at hl 1 rfl) ?_
  obtain ⟨h2, hF⟩ := g_if hF
  obtain ⟨o5, g3, h1, hF⟩ := g_bind2 hF
  refine g_xcallv (vx_runV (As := [.int x1]) (rest := []) ⟨hx, hb, hml, hown, hts⟩ (k6_checkBee l hst D base g a0 x1 o5 g3 h1) (cwV 1 hts gX6_target_X6_checkBee rfl rfl rfl (by decide +kernel) ⟨Nat.le_of_ble_eq_true rfl, Nat.le_of_ble_eq_true rfl⟩) (gC.preV hE hP hS 6 rfl (by decide) h2 [.int x1]) rfl rfl hl.1 rfl (lv_room (Nat.le_of_ble_eq_true rfl)) dX6_target_2 ⟨(Nat.le_of_ble_eq_true rfl), (Nat.le_of_ble_eq_true rfl)⟩) hS ht hlocks (fun h0 => g_thr h0 hF) (Nat.le_of_ble_eq_true rfl) (Nat.le_of_ble_eq_true rfl) (fun H locs h6 hP hS => ?_)
  have hF := g_t h6 hF
  refine lv_aload_n hx hb dX6_target_5 rfl (lv_at hl 0 rfl) ?_
  refine lv_iload_n hx hb dX6_target_6 rfl (lv_at hl 2 rfl) ?_
  obtain ⟨h8, hF⟩ := g_if hF
  obtain ⟨o11, g9, h7, hF⟩ := g_bind2 hF
  refine g_xcallv (vx_runV (As := [.int x2]) (rest := []) ⟨hx, hb, hml, hown, hts⟩ (k6_checkHouse l hst D base g3 a0 x2 o11 g9 h7) (cwV 1 hts gX6_target_X6_checkHouse rfl rfl rfl (by decide +kernel) ⟨Nat.le_of_ble_eq_true rfl, Nat.le_of_ble_eq_true rfl⟩) (gC.preV hE hP hS 6 rfl (by decide) h8 [.int x2]) rfl rfl hl.1 rfl (lv_room (Nat.le_of_ble_eq_true rfl)) dX6_target_7 ⟨(Nat.le_of_ble_eq_true rfl), (Nat.le_of_ble_eq_true rfl)⟩) hS ht hlocks (fun h0 => g_thr h0 hF) (Nat.le_of_ble_eq_true rfl) (Nat.le_of_ble_eq_true rfl) (fun H locs h12 hP hS => ?_)
  have hF := g_t h12 hF
  refine lv_aload_n hx hb dX6_target_10 rfl (lv_at hl 0 rfl) ?_
  obtain ⟨h13, hF⟩ := g_if hF
  obtain ⟨q14, hq15, hF⟩ := g_bind hF
  refine g_get hx hb hts hiX6 hown hK hP 6 rfl (by decide) h13 1 (by decide) (hts (.fieldLink RX6 21 "CourierBees" "now" "LCourierBees$Flight;") (by decide +kernel)) (fun _ h9 => h9) ((gFv_r (by decide)).trans (congrArg va_rf hq15)) dX6_target_11 ?_
  obtain ⟨h16, hF⟩ := g_if hF
  obtain ⟨q17, hq18, hF⟩ := g_bind hF
  refine g_get hx hb hts hiX1 hown hK hP 1 rfl (by decide) h16 1 (by decide) (hts (.fieldLink RX6 106 "CourierBees$Flight" "bees" "[LCourierBees$Bee;") (by decide +kernel)) (fun _ h9 => h9) ((gFv_r (by decide)).trans (congrArg va_rf hq18)) dX6_target_14 ?_
  refine lv_iload_n hx hb dX6_target_17 rfl (lv_at hl 1 rfl) ?_
  obtain ⟨h19, hF⟩ := g_if hF
  obtain ⟨h20, hF⟩ := g_if hF
  obtain ⟨q21, hq22, hF⟩ := g_bind hF
  refine g_aald hx hb hP (g_pr h19) (by decide) h20 hq22 dX6_target_18 ?_
  obtain ⟨h23, hF⟩ := g_if hF
  obtain ⟨q24, hq25, hF⟩ := g_bind hF
  refine g_get hx hb hts hiX0 hown hK hP 0 rfl (by decide) h23 1 (by decide) (hts (.fieldLink RX6 181 "CourierBees$Bee" "route" "LCourierBees$Route;") (by decide +kernel)) (fun _ h9 => h9) ((gFv_r (by decide)).trans (congrArg va_rf hq25)) dX6_target_19 ?_
  refine lv_iload_n hx hb dX6_target_22 rfl (lv_at hl 2 rfl) ?_
  obtain ⟨h27, hF⟩ := g_if hF
  obtain ⟨v29, g28, h26, hF⟩ := g_bind2 hF
  refine g_calli (va_runV (As := [.int x2]) (rest := []) ⟨hx, hb, hml, hown, hts⟩ (k4_targetFor l D base g9 q24 x2 v29 g28 h26) (cwV 1 hts gX6_target_X4_targetFor rfl rfl rfl (by decide +kernel) ⟨Nat.le_of_ble_eq_true rfl, Nat.le_of_ble_eq_true rfl⟩) (gC.preV hE hP hS 4 rfl (by decide) h27 [.int x2]) rfl rfl hl.1 rfl (lv_room (Nat.le_of_ble_eq_true rfl)) dX6_target_23 ⟨(Nat.le_of_ble_eq_true rfl), (Nat.le_of_ble_eq_true rfl)⟩) hS (fun H locs hP hS => ?_)
  exact g_xretI hx hb hr hlocks hF hP hS (Nat.le_of_ble_eq_true rfl) (Nat.le_of_ble_eq_true rfl) dX6_target_26
end
section
set_option maxHeartbeats 4000000 in
set_option maxRecDepth 100000 in
theorem k6_pass (l : Launch) (hst : l.stackTraces = false) (D : va_G) (base : Nat) (g : g_H) (a0 : Nat) (x1 : Int32) (rr : Nat × Int32) (gz : g_H) (hF : f6_pass g a0 x1 = some (rr, gz)) : vx_Met l yX6_pass wsX6_pass ({ frames := 6, cells := 1, slots := 6, locals := 137 } : Room) (va_Pc [.ref a0, .int x1] (gC base D g)) (gXi base D rr gz) (gX base D rr gz) 1 6 (gA base) := by
  refine g_xmet (cc := cX6_pass) (maxL := 2) (ret := (some .int)) (lst := [(0, .ref a0), (1, .int x1)]) (by decide) rfl (Nat.le_of_ble_eq_true rfl) rfl ?_
  intro p e s m args below meth c ls hx hb hr hml hown hlocks hname hts hE hP hl ht
  have hown : s.vm.findClass RX6 = some m.cls := hown
  have hK := hE.1
  have hov := hE.2.2.2.2.2.2.2.1
  have hbz := hE.2.2.2.2.2.2.2.2.2.2.2.2
  have hS : va_S (gA base) s.heap s.heap [] := va_S.rf
  have hiX6 : ∀ w ∈ wsX60, w ∈ wsX6_pass := by decide +kernel
  have HB12 : ∀ (g : g_H)  (H : Heap) (locs : List Loc) (ls : Array Slot), f6_pass_12 g  = some (rr, gz) → gP base D s g H → va_S (gA base) s.heap H locs → lv_has ls 2 [] → W p l e ({ frames := 6, cells := 1, slots := 6, locals := 137 } : Room) s m args below meth c H locs 0 0 (vx_MQ below (gXi base D rr gz) (gX base D rr gz) args s 1 6 (gA base)) (F0 m 12 ls []) := by
    intro g  H locs ls hF hP hS hl
    unfold f6_pass_12 at hF
    exact g_throwF hx hb hst hF (text := "quarters are 1 to 240") hown hts (by decide +kernel) (hts (.classLink RX6 58 gEA) (by decide +kernel)) (hts (.initialized gEA) (by decide +kernel)) (by decide +kernel) g_bad2_62 (by decide) g_good2_58_62 (by decide) hE hP hS (hl.1.trans hml.symm) dX6_pass_12 dX6_pass_15 dX6_pass_16 dX6_pass_18 dX6_pass_21 ht (Nat.le_of_ble_eq_true rfl) (Nat.le_of_ble_eq_true rfl) (Nat.le_of_ble_eq_true rfl) (Nat.le_of_ble_eq_true rfl) hlocks (by decide) rfl (Nat.le_of_ble_eq_true rfl) (Nat.le_of_ble_eq_true rfl)
  unfold f6_pass at hF
  refine lv_iload_n hx hb dX6_pass_0 rfl (lv_at hl 1 rfl) ?_
  refine lv_iconst (v := 1) hx hb dX6_pass_1 (by decide) ?_
  refine lv_icmp_lt (tgt := 12) hx hb dX6_pass_2 (by decide) (fun c1 => ?_) (fun c1 => ?_)
  · have hF := g_t c1 hF
    exact HB12 _ _ _ _ hF hP hS (lv_sub hl [] rfl)
  · have hF := g_f c1 hF
    refine lv_iload_n hx hb dX6_pass_5 rfl (lv_at hl 1 rfl) ?_
    refine lv_sipush (v := 240) hx hb dX6_pass_6 (by decide) ?_
    refine lv_icmp_le (tgt := 22) hx hb dX6_pass_9 (by decide) (fun c2 => ?_) (fun c2 => ?_)
    · have hF := g_t c2 hF
      refine lv_aload_n hx hb dX6_pass_22 rfl (lv_at hl 0 rfl) ?_
      obtain ⟨h3, hF⟩ := g_if hF
      obtain ⟨q4, hq5, hF⟩ := g_bind hF
      refine g_get hx hb hts hiX6 hown hK hP 6 rfl (by decide) h3 1 (by decide) (hts (.fieldLink RX6 21 "CourierBees" "now" "LCourierBees$Flight;") (by decide +kernel)) (fun _ h9 => h9) ((gFv_r (by decide)).trans (congrArg va_rf hq5)) dX6_pass_23 ?_
      refine lv_iload_n hx hb dX6_pass_26 rfl (lv_at hl 1 rfl) ?_
      obtain ⟨h7, hF⟩ := g_if hF
      obtain ⟨v9, g8, h6, hF⟩ := g_bind2 hF
      refine g_calli (va_runV (As := [.int x1]) (rest := []) ⟨hx, hb, hml, hown, hts⟩ (k1_passQuarters l D base g q4 x1 v9 g8 h6) (cwV 1 hts gX6_pass_X1_passQuarters rfl rfl rfl (by decide +kernel) ⟨Nat.le_of_ble_eq_true rfl, Nat.le_of_ble_eq_true rfl⟩) (gC.preV hE hP hS 1 rfl (by decide) h7 [.int x1]) rfl rfl hl.1 rfl (lv_room (Nat.le_of_ble_eq_true rfl)) dX6_pass_27 ⟨(Nat.le_of_ble_eq_true rfl), (Nat.le_of_ble_eq_true rfl)⟩) hS (fun H locs hP hS => ?_)
      exact g_xretI hx hb hr hlocks hF hP hS (Nat.le_of_ble_eq_true rfl) (Nat.le_of_ble_eq_true rfl) dX6_pass_30
    · have hF := g_f c2 hF
      exact HB12 _ _ _ _ hF hP hS (lv_sub hl [] rfl)
set_option maxHeartbeats 4000000 in
set_option maxRecDepth 100000 in
theorem k6_tellCount (l : Launch) (D : va_G) (base : Nat) (g : g_H) (a0 : Nat) (x1 : Int32) (rr : Int32) (gz : g_H) (hF : f6_tellCount g a0 x1 = some (rr, gz)) : Met l yX6_tellCount wsX6_tellCount ({ frames := 2, cells := 0, slots := 0, locals := 45 } : Room) (va_Pc [.ref a0, .int x1] (gC base D g)) (gQi base D rr gz) 0 0 (gA base) := by
  refine g_met (cc := cX6_tellCount) (maxL := 2) (ret := (some .int)) (lst := [(0, .ref a0), (1, .int x1)]) (by decide) rfl (Nat.le_of_ble_eq_true rfl) rfl ?_
  intro p e s m args below meth c ls hx hb hr hml hown hlocks hname hts hE hP hl
  have hown : s.vm.findClass RX6 = some m.cls := hown
  have hK := hE.1
  have hov := hE.2.2.2.2.2.2.2.1
  have hbz := hE.2.2.2.2.2.2.2.2.2.2.2.2
  have hS : va_S (gA base) s.heap s.heap [] := va_S.rf
  have hiX1 : ∀ w ∈ wsX10, w ∈ wsX6_tellCount := by decide +kernel
  have hiX5 : ∀ w ∈ wsX50, w ∈ wsX6_tellCount := by decide +kernel
  have hiX6 : ∀ w ∈ wsX60, w ∈ wsX6_tellCount := by decide +kernel
  unfold f6_tellCount at hF
  refine lv_iload_n hx hb dX6_tellCount_0 rfl (lv_at hl 1 rfl) ?_
  by_cases c1 : x1 = (0 : Int32)
  · have hF := g_t c1 hF
    refine lv_tableIn (off := 47) (tgt := 48) hx hb dX6_tellCount_1 (by rw [c1]; decide) (by rw [c1]; decide) (by rw [c1]; rfl) (by decide) ?_
    refine lv_aload_n hx hb dX6_tellCount_48 rfl (lv_at hl 0 rfl) ?_
    obtain ⟨h9, hF⟩ := g_if hF
    obtain ⟨q10, hq11, hF⟩ := g_bind hF
    refine g_get hx hb hts hiX6 hown hK hP 6 rfl (by decide) h9 1 (by decide) (hts (.fieldLink RX6 21 "CourierBees" "now" "LCourierBees$Flight;") (by decide +kernel)) (fun _ h9 => h9) ((gFv_r (by decide)).trans (congrArg va_rf hq11)) dX6_tellCount_49 ?_
    obtain ⟨h12, hF⟩ := g_if hF
    refine g_get hx hb hts hiX1 hown hK hP 1 rfl (by decide) h12 5 (by decide) (hts (.fieldLink RX6 247 "CourierBees$Flight" "quarter" "I") (by decide +kernel)) (fun _ h9 => h9) (gFv_i (Or.inl rfl)) dX6_tellCount_52 ?_
    exact g_retI hx hb hr hlocks hF hP hS (Nat.le_of_ble_eq_true rfl) (Nat.le_of_ble_eq_true rfl) dX6_tellCount_55
  · have hF := g_f c1 hF
    by_cases c2 : x1 = (1 : Int32)
    · have hF := g_t c2 hF
      refine lv_tableIn (off := 55) (tgt := 56) hx hb dX6_tellCount_1 (by rw [c2]; decide) (by rw [c2]; decide) (by rw [c2]; rfl) (by decide) ?_
      refine lv_aload_n hx hb dX6_tellCount_56 rfl (lv_at hl 0 rfl) ?_
      obtain ⟨h13, hF⟩ := g_if hF
      obtain ⟨q14, hq15, hF⟩ := g_bind hF
      refine g_get hx hb hts hiX6 hown hK hP 6 rfl (by decide) h13 0 (by decide) (hts (.fieldLink RX6 10 "CourierBees" "town" "LCourierBees$Town;") (by decide +kernel)) (fun _ h9 => h9) ((gFv_r (by decide)).trans (congrArg va_rf hq15)) dX6_tellCount_57 ?_
      obtain ⟨h16, hF⟩ := g_if hF
      refine g_get hx hb hts hiX5 hown hK hP 5 rfl (by decide) h16 0 (by decide) (hts (.fieldLink RX6 35 "CourierBees$Town" "houseCount" "I") (by decide +kernel)) (fun _ h9 => h9) (gFv_i (Or.inl rfl)) dX6_tellCount_60 ?_
      exact g_retI hx hb hr hlocks hF hP hS (Nat.le_of_ble_eq_true rfl) (Nat.le_of_ble_eq_true rfl) dX6_tellCount_63
    · have hF := g_f c2 hF
      by_cases c3 : x1 = (2 : Int32)
      · have hF := g_t c3 hF
        refine lv_tableIn (off := 63) (tgt := 64) hx hb dX6_tellCount_1 (by rw [c3]; decide) (by rw [c3]; decide) (by rw [c3]; rfl) (by decide) ?_
        refine lv_aload_n hx hb dX6_tellCount_64 rfl (lv_at hl 0 rfl) ?_
        obtain ⟨h17, hF⟩ := g_if hF
        obtain ⟨q18, hq19, hF⟩ := g_bind hF
        refine g_get hx hb hts hiX6 hown hK hP 6 rfl (by decide) h17 0 (by decide) (hts (.fieldLink RX6 10 "CourierBees" "town" "LCourierBees$Town;") (by decide +kernel)) (fun _ h9 => h9) ((gFv_r (by decide)).trans (congrArg va_rf hq19)) dX6_tellCount_65 ?_
        obtain ⟨h20, hF⟩ := g_if hF
        refine g_get hx hb hts hiX5 hown hK hP 5 rfl (by decide) h20 1 (by decide) (hts (.fieldLink RX6 63 "CourierBees$Town" "laneCount" "I") (by decide +kernel)) (fun _ h9 => h9) (gFv_i (Or.inl rfl)) dX6_tellCount_68 ?_
        exact g_retI hx hb hr hlocks hF hP hS (Nat.le_of_ble_eq_true rfl) (Nat.le_of_ble_eq_true rfl) dX6_tellCount_71
      · have hF := g_f c3 hF
        by_cases c4 : x1 = (3 : Int32)
        · have hF := g_t c4 hF
          refine lv_tableIn (off := 71) (tgt := 72) hx hb dX6_tellCount_1 (by rw [c4]; decide) (by rw [c4]; decide) (by rw [c4]; rfl) (by decide) ?_
          refine lv_aload_n hx hb dX6_tellCount_72 rfl (lv_at hl 0 rfl) ?_
          obtain ⟨h21, hF⟩ := g_if hF
          obtain ⟨q22, hq23, hF⟩ := g_bind hF
          refine g_get hx hb hts hiX6 hown hK hP 6 rfl (by decide) h21 1 (by decide) (hts (.fieldLink RX6 21 "CourierBees" "now" "LCourierBees$Flight;") (by decide +kernel)) (fun _ h9 => h9) ((gFv_r (by decide)).trans (congrArg va_rf hq23)) dX6_tellCount_73 ?_
          obtain ⟨h24, hF⟩ := g_if hF
          refine g_get hx hb hts hiX1 hown hK hP 1 rfl (by decide) h24 3 (by decide) (hts (.fieldLink RX6 66 "CourierBees$Flight" "beeCount" "I") (by decide +kernel)) (fun _ h9 => h9) (gFv_i (Or.inl rfl)) dX6_tellCount_76 ?_
          exact g_retI hx hb hr hlocks hF hP hS (Nat.le_of_ble_eq_true rfl) (Nat.le_of_ble_eq_true rfl) dX6_tellCount_79
        · have hF := g_f c4 hF
          by_cases c5 : x1 = (4 : Int32)
          · have hF := g_t c5 hF
            refine lv_tableIn (off := 79) (tgt := 80) hx hb dX6_tellCount_1 (by rw [c5]; decide) (by rw [c5]; decide) (by rw [c5]; rfl) (by decide) ?_
            refine lv_aload_n hx hb dX6_tellCount_80 rfl (lv_at hl 0 rfl) ?_
            obtain ⟨h25, hF⟩ := g_if hF
            obtain ⟨q26, hq27, hF⟩ := g_bind hF
            refine g_get hx hb hts hiX6 hown hK hP 6 rfl (by decide) h25 1 (by decide) (hts (.fieldLink RX6 21 "CourierBees" "now" "LCourierBees$Flight;") (by decide +kernel)) (fun _ h9 => h9) ((gFv_r (by decide)).trans (congrArg va_rf hq27)) dX6_tellCount_81 ?_
            obtain ⟨h28, hF⟩ := g_if hF
            refine g_get hx hb hts hiX1 hown hK hP 1 rfl (by decide) h28 4 (by decide) (hts (.fieldLink RX6 144 "CourierBees$Flight" "letterCount" "I") (by decide +kernel)) (fun _ h9 => h9) (gFv_i (Or.inl rfl)) dX6_tellCount_84 ?_
            exact g_retI hx hb hr hlocks hF hP hS (Nat.le_of_ble_eq_true rfl) (Nat.le_of_ble_eq_true rfl) dX6_tellCount_87
          · have hF := g_f c5 hF
            by_cases c6 : x1 = (5 : Int32)
            · have hF := g_t c6 hF
              refine lv_tableIn (off := 87) (tgt := 88) hx hb dX6_tellCount_1 (by rw [c6]; decide) (by rw [c6]; decide) (by rw [c6]; rfl) (by decide) ?_
              refine lv_aload_n hx hb dX6_tellCount_88 rfl (lv_at hl 0 rfl) ?_
              obtain ⟨h29, hF⟩ := g_if hF
              obtain ⟨q30, hq31, hF⟩ := g_bind hF
              refine g_get hx hb hts hiX6 hown hK hP 6 rfl (by decide) h29 1 (by decide) (hts (.fieldLink RX6 21 "CourierBees" "now" "LCourierBees$Flight;") (by decide +kernel)) (fun _ h9 => h9) ((gFv_r (by decide)).trans (congrArg va_rf hq31)) dX6_tellCount_89 ?_
              obtain ⟨h32, hF⟩ := g_if hF
              refine g_get hx hb hts hiX1 hown hK hP 1 rfl (by decide) h32 6 (by decide) (hts (.fieldLink RX6 214 "CourierBees$Flight" "arrivals" "I") (by decide +kernel)) (fun _ h9 => h9) (gFv_i (Or.inl rfl)) dX6_tellCount_92 ?_
              exact g_retI hx hb hr hlocks hF hP hS (Nat.le_of_ble_eq_true rfl) (Nat.le_of_ble_eq_true rfl) dX6_tellCount_95
            · have hF := g_f c6 hF
              by_cases c7 : x1 = (6 : Int32)
              · have hF := g_t c7 hF
                refine lv_tableIn (off := 95) (tgt := 96) hx hb dX6_tellCount_1 (by rw [c7]; decide) (by rw [c7]; decide) (by rw [c7]; rfl) (by decide) ?_
                refine lv_aload_n hx hb dX6_tellCount_96 rfl (lv_at hl 0 rfl) ?_
                obtain ⟨h33, hF⟩ := g_if hF
                obtain ⟨q34, hq35, hF⟩ := g_bind hF
                refine g_get hx hb hts hiX6 hown hK hP 6 rfl (by decide) h33 1 (by decide) (hts (.fieldLink RX6 21 "CourierBees" "now" "LCourierBees$Flight;") (by decide +kernel)) (fun _ h9 => h9) ((gFv_r (by decide)).trans (congrArg va_rf hq35)) dX6_tellCount_97 ?_
                obtain ⟨h37, hF⟩ := g_if hF
                obtain ⟨v39, g38, h36, hF⟩ := g_bind2 hF
                refine g_calli (va_runV (As := []) (rest := []) ⟨hx, hb, hml, hown, hts⟩ (k1_carriedLetters l D base g q34 v39 g38 h36) (cwV 0 hts gX6_tellCount_X1_carriedLetters rfl rfl rfl (by decide +kernel) ⟨Nat.le_of_ble_eq_true rfl, Nat.le_of_ble_eq_true rfl⟩) (gC.preV hE hP hS 1 rfl (by decide) h37 []) rfl rfl hl.1 rfl (lv_room (Nat.le_of_ble_eq_true rfl)) dX6_tellCount_100 ⟨(Nat.le_of_ble_eq_true rfl), (Nat.le_of_ble_eq_true rfl)⟩) hS (fun H locs hP hS => ?_)
                exact g_retI hx hb hr hlocks hF hP hS (Nat.le_of_ble_eq_true rfl) (Nat.le_of_ble_eq_true rfl) dX6_tellCount_103
              · have hF := g_f c7 hF
                by_cases c8 : x1 = (7 : Int32)
                · have hF := g_t c8 hF
                  refine lv_tableIn (off := 103) (tgt := 104) hx hb dX6_tellCount_1 (by rw [c8]; decide) (by rw [c8]; decide) (by rw [c8]; rfl) (by decide) ?_
                  refine lv_aload_n hx hb dX6_tellCount_104 rfl (lv_at hl 0 rfl) ?_
                  obtain ⟨h40, hF⟩ := g_if hF
                  obtain ⟨q41, hq42, hF⟩ := g_bind hF
                  refine g_get hx hb hts hiX6 hown hK hP 6 rfl (by decide) h40 1 (by decide) (hts (.fieldLink RX6 21 "CourierBees" "now" "LCourierBees$Flight;") (by decide +kernel)) (fun _ h9 => h9) ((gFv_r (by decide)).trans (congrArg va_rf hq42)) dX6_tellCount_105 ?_
                  obtain ⟨h44, hF⟩ := g_if hF
                  obtain ⟨v46, g45, h43, hF⟩ := g_bind2 hF
                  refine g_calli (va_runV (As := []) (rest := []) ⟨hx, hb, hml, hown, hts⟩ (k1_restingBees l D base g q41 v46 g45 h43) (cwV 0 hts gX6_tellCount_X1_restingBees rfl rfl rfl (by decide +kernel) ⟨Nat.le_of_ble_eq_true rfl, Nat.le_of_ble_eq_true rfl⟩) (gC.preV hE hP hS 1 rfl (by decide) h44 []) rfl rfl hl.1 rfl (lv_room (Nat.le_of_ble_eq_true rfl)) dX6_tellCount_108 ⟨(Nat.le_of_ble_eq_true rfl), (Nat.le_of_ble_eq_true rfl)⟩) hS (fun H locs hP hS => ?_)
                  exact g_retI hx hb hr hlocks hF hP hS (Nat.le_of_ble_eq_true rfl) (Nat.le_of_ble_eq_true rfl) dX6_tellCount_111
                · have hF := g_f c8 hF
                  refine lv_tableOut (tgt := 112) hx hb dX6_tellCount_1 (by have h9 := g_out x1 7 (by decide) (fun k hk => by rcases (show k = 0 ∨ k = 1 ∨ k = 2 ∨ k = 3 ∨ k = 4 ∨ k = 5 ∨ k = 6 ∨ k = 7 by omega) with rfl | rfl | rfl | rfl | rfl | rfl | rfl | rfl <;> assumption); omega) (by decide) ?_
                  refine lv_aload_n hx hb dX6_tellCount_112 rfl (lv_at hl 0 rfl) ?_
                  obtain ⟨h47, hF⟩ := g_if hF
                  obtain ⟨q48, hq49, hF⟩ := g_bind hF
                  refine g_get hx hb hts hiX6 hown hK hP 6 rfl (by decide) h47 0 (by decide) (hts (.fieldLink RX6 10 "CourierBees" "town" "LCourierBees$Town;") (by decide +kernel)) (fun _ h9 => h9) ((gFv_r (by decide)).trans (congrArg va_rf hq49)) dX6_tellCount_113 ?_
                  refine lv_aload_n hx hb dX6_tellCount_116 rfl (lv_at hl 0 rfl) ?_
                  obtain ⟨q50, hq51, hF⟩ := g_bind hF
                  refine g_get hx hb hts hiX6 hown hK hP 6 rfl (by decide) h47 1 (by decide) (hts (.fieldLink RX6 21 "CourierBees" "now" "LCourierBees$Flight;") (by decide +kernel)) (fun _ h9 => h9) ((gFv_r (by decide)).trans (congrArg va_rf hq51)) dX6_tellCount_117 ?_
                  obtain ⟨h52, hF⟩ := g_if hF
                  refine g_get hx hb hts hiX1 hown hK hP 1 rfl (by decide) h52 5 (by decide) (hts (.fieldLink RX6 247 "CourierBees$Flight" "quarter" "I") (by decide +kernel)) (fun _ h9 => h9) (gFv_i (Or.inl rfl)) dX6_tellCount_120 ?_
                  obtain ⟨h54, hF⟩ := g_if hF
                  obtain ⟨v56, g55, h53, hF⟩ := g_bind2 hF
                  refine g_calli (va_runV (As := [.int (gI g q50 5)]) (rest := []) ⟨hx, hb, hml, hown, hts⟩ (k5_openGates l D base g q48 (gI g q50 5) v56 g55 h53) (cwV 1 hts gX6_tellCount_X5_openGates rfl rfl rfl (by decide +kernel) ⟨Nat.le_of_ble_eq_true rfl, Nat.le_of_ble_eq_true rfl⟩) (gC.preV hE hP hS 5 rfl (by decide) h54 [.int (gI g q50 5)]) rfl rfl hl.1 rfl (lv_room (Nat.le_of_ble_eq_true rfl)) dX6_tellCount_123 ⟨(Nat.le_of_ble_eq_true rfl), (Nat.le_of_ble_eq_true rfl)⟩) hS (fun H locs hP hS => ?_)
                  exact g_retI hx hb hr hlocks hF hP hS (Nat.le_of_ble_eq_true rfl) (Nat.le_of_ble_eq_true rfl) dX6_tellCount_126
set_option maxHeartbeats 4000000 in
set_option maxRecDepth 100000 in
theorem k6_count (l : Launch) (hst : l.stackTraces = false) (D : va_G) (base : Nat) (g : g_H) (a0 : Nat) (x1 : Int32) (rr : Nat × Int32) (gz : g_H) (hF : f6_count g a0 x1 = some (rr, gz)) : vx_Met l yX6_count wsX6_count ({ frames := 7, cells := 1, slots := 6, locals := 111 } : Room) (va_Pc [.ref a0, .int x1] (gC base D g)) (gXi base D rr gz) (gX base D rr gz) 1 6 (gA base) := by
  refine g_xmet (cc := cX6_count) (maxL := 2) (ret := (some .int)) (lst := [(0, .ref a0), (1, .int x1)]) (by decide) rfl (Nat.le_of_ble_eq_true rfl) rfl ?_
  intro p e s m args below meth c ls hx hb hr hml hown hlocks hname hts hE hP hl ht
  have hown : s.vm.findClass RX6 = some m.cls := hown
  have hK := hE.1
  have hov := hE.2.2.2.2.2.2.2.1
  have hbz := hE.2.2.2.2.2.2.2.2.2.2.2.2
  have hS : va_S (gA base) s.heap s.heap [] := va_S.rf
  unfold f6_count at hF
  refine lv_iload_n hx hb dX6_count_0 rfl (lv_at hl 1 rfl) ?_
  refine lv_bipush (v := 9) hx hb dX6_count_1 (by decide) ?_
  obtain ⟨o4, g2, h1, hF⟩ := g_bind2 hF
  refine g_xcallv (vx_runS (As := [.int x1, .int ((9 : Int32))]) (rest := []) ⟨hx, hb, hml, hown, hts⟩ (k6_checkWhat l hst D base g x1 ((9 : Int32)) o4 g2 h1) (va_cwS 2 hts gX6_count_X6_checkWhat rfl rfl rfl (by decide +kernel) ⟨Nat.le_of_ble_eq_true rfl, Nat.le_of_ble_eq_true rfl⟩) (gC.preS hE hP hS [.int x1, .int ((9 : Int32))]) rfl rfl hl.1 rfl (lv_room (Nat.le_of_ble_eq_true rfl)) dX6_count_3 ⟨(Nat.le_of_ble_eq_true rfl), (Nat.le_of_ble_eq_true rfl)⟩) hS ht hlocks (fun h0 => g_thr h0 hF) (Nat.le_of_ble_eq_true rfl) (Nat.le_of_ble_eq_true rfl) (fun H locs h5 hP hS => ?_)
  have hF := g_t h5 hF
  refine lv_aload_n hx hb dX6_count_6 rfl (lv_at hl 0 rfl) ?_
  refine lv_iload_n hx hb dX6_count_7 rfl (lv_at hl 1 rfl) ?_
  obtain ⟨h7, hF⟩ := g_if hF
  obtain ⟨v9, g8, h6, hF⟩ := g_bind2 hF
  refine g_calli (va_runV (As := [.int x1]) (rest := []) ⟨hx, hb, hml, hown, hts⟩ (k6_tellCount l D base g2 a0 x1 v9 g8 h6) (cwV 1 hts gX6_count_X6_tellCount rfl rfl rfl (by decide +kernel) ⟨Nat.le_of_ble_eq_true rfl, Nat.le_of_ble_eq_true rfl⟩) (gC.preV hE hP hS 6 rfl (by decide) h7 [.int x1]) rfl rfl hl.1 rfl (lv_room (Nat.le_of_ble_eq_true rfl)) dX6_count_8 ⟨(Nat.le_of_ble_eq_true rfl), (Nat.le_of_ble_eq_true rfl)⟩) hS (fun H locs hP hS => ?_)
  exact g_xretI hx hb hr hlocks hF hP hS (Nat.le_of_ble_eq_true rfl) (Nat.le_of_ble_eq_true rfl) dX6_count_11
set_option maxHeartbeats 4000000 in
set_option maxRecDepth 100000 in
theorem k6_comes (l : Launch) (hst : l.stackTraces = false) (D : va_G) (base : Nat) (g : g_H) (a0 : Nat) (x1 : Int32) (rr : Nat × Int32) (gz : g_H) (hF : f6_comes g a0 x1 = some (rr, gz)) : vx_Met l yX6_comes wsX6_comes ({ frames := 7, cells := 1, slots := 6, locals := 114 } : Room) (va_Pc [.ref a0, .int x1] (gC base D g)) (gXi base D rr gz) (gX base D rr gz) 1 6 (gA base) := by
  refine g_xmet (cc := cX6_comes) (maxL := 4) (ret := (some .int)) (lst := [(0, .ref a0), (1, .int x1)]) (by decide) rfl (Nat.le_of_ble_eq_true rfl) rfl ?_
  intro p e s m args below meth c ls hx hb hr hml hown hlocks hname hts hE hP hl ht
  have hown : s.vm.findClass RX6 = some m.cls := hown
  have hK := hE.1
  have hov := hE.2.2.2.2.2.2.2.1
  have hbz := hE.2.2.2.2.2.2.2.2.2.2.2.2
  have hS : va_S (gA base) s.heap s.heap [] := va_S.rf
  have hiX1 : ∀ w ∈ wsX10, w ∈ wsX6_comes := by decide +kernel
  have hiX6 : ∀ w ∈ wsX60, w ∈ wsX6_comes := by decide +kernel
  have HL28 : ∀ (n28 : Nat), ∀ (g : g_H) (a0 : Nat) (a2 : Nat) (x3 : Int32) (H : Heap) (locs : List Loc) (ls : Array Slot), f6_comes_28 n28 g a0 a2 x3 = some (rr, gz) → gP base D s g H → va_S (gA base) s.heap H locs → lv_has ls 4 [(0, .ref a0), (2, .ref a2), (3, .int x3)] → W p l e ({ frames := 7, cells := 1, slots := 6, locals := 114 } : Room) s m args below meth c H locs 1 6 (vx_MQ below (gXi base D rr gz) (gX base D rr gz) args s 1 6 (gA base)) (F0 m 28 ls []) := by
    intro n28
    induction n28 with
    | zero => intro g a0 a2 x3 H locs ls hF hP hS hl; exact g_no hF
    | succ n28 ih28 =>
      intro g a0 a2 x3 H locs ls hF hP hS hl
      have hF : f6_comes_28b (f6_comes_28 n28) g a0 a2 x3 = some (rr, gz) := hF
      unfold f6_comes_28b at hF
      refine lv_iload_n hx hb dX6_comes_28 rfl (lv_at hl 2 rfl) ?_
      refine lv_sipush (v := 240) hx hb dX6_comes_29 (by decide) ?_
      refine lv_icmp_gt (tgt := 57) hx hb dX6_comes_32 (by decide) (fun c26 => ?_) (fun c26 => ?_)
      · have hF := g_t c26 hF
        refine lv_iconst (v := (-1)) hx hb dX6_comes_57 (by decide) ?_
        exact g_xretI hx hb hr hlocks hF hP hS (Nat.le_of_ble_eq_true rfl) (Nat.le_of_ble_eq_true rfl) dX6_comes_58
      · have hF := g_f c26 hF
        refine lv_aload_n hx hb dX6_comes_35 rfl (lv_at hl 1 rfl) ?_
        obtain ⟨h28, hF⟩ := g_if hF
        obtain ⟨v30, g29, h27, hF⟩ := g_bind2 hF
        refine g_calli (va_runV (As := []) (rest := []) ⟨hx, hb, hml, hown, hts⟩ (k3_hasArrived l D base g a2 v30 g29 h27) (cwV 0 hts gX6_comes_X3_hasArrived rfl rfl rfl (by decide +kernel) ⟨Nat.le_of_ble_eq_true rfl, Nat.le_of_ble_eq_true rfl⟩) (gC.preV hE hP hS 3 rfl (by decide) h28 []) rfl rfl hl.1 rfl (lv_room (Nat.le_of_ble_eq_true rfl)) dX6_comes_36 ⟨(Nat.le_of_ble_eq_true rfl), (Nat.le_of_ble_eq_true rfl)⟩) hS (fun H locs hP hS => ?_)
        refine lv_if_eq (tgt := 44) hx hb dX6_comes_39 (by decide) (fun c31 => ?_) (fun c31 => ?_)
        · have hF := g_t c31 hF
          refine lv_aload_n hx hb dX6_comes_44 rfl (lv_at hl 0 rfl) ?_
          obtain ⟨h32, hF⟩ := g_if hF
          obtain ⟨q33, hq34, hF⟩ := g_bind hF
          refine g_get hx hb hts hiX6 hown hK hP 6 rfl (by decide) h32 2 (by decide) (hts (.fieldLink RX6 25 "CourierBees" "ahead" "LCourierBees$Flight;") (by decide +kernel)) (fun _ h9 => h9) ((gFv_r (by decide)).trans (congrArg va_rf hq34)) dX6_comes_45 ?_
          obtain ⟨h36, hF⟩ := g_if hF
          obtain ⟨g37, h35, hF⟩ := g_bind hF
          refine g_callv (va_runV (As := []) (rest := []) ⟨hx, hb, hml, hown, hts⟩ (k1_passQuarter l D base g29 q33 g37 h35) (cwV 0 hts gX6_comes_X1_passQuarter rfl rfl rfl (by decide +kernel) ⟨Nat.le_of_ble_eq_true rfl, Nat.le_of_ble_eq_true rfl⟩) (gC.preV hE hP hS 1 rfl (by decide) h36 []) rfl rfl hl.1 rfl (lv_room (Nat.le_of_ble_eq_true rfl)) dX6_comes_48 ⟨(Nat.le_of_ble_eq_true rfl), (Nat.le_of_ble_eq_true rfl)⟩) hS (fun H locs hP hS => ?_)
          refine lv_iinc (v := x3 + (1 : Int32)) (lv' := [(3, .int (x3 + (1 : Int32))), (0, .ref a0), (2, .ref a2)]) hx hb dX6_comes_51 hl (k := 2) rfl rfl (by decide) rfl (fun ls hl => ?_)
          refine lv_goto (tgt := 28) hx hb dX6_comes_54 (by decide) ?_
          exact ih28 _ _ _ _ _ _ _ hF hP hS (lv_sub hl [1, 2, 0] rfl)
        · have hF := g_f c31 hF
          refine lv_iload_n hx hb dX6_comes_42 rfl (lv_at hl 2 rfl) ?_
          exact g_xretI hx hb hr hlocks hF hP hS (Nat.le_of_ble_eq_true rfl) (Nat.le_of_ble_eq_true rfl) dX6_comes_43
  unfold f6_comes at hF
  refine lv_aload_n hx hb dX6_comes_0 rfl (lv_at hl 0 rfl) ?_
  refine lv_iload_n hx hb dX6_comes_1 rfl (lv_at hl 1 rfl) ?_
  obtain ⟨h2, hF⟩ := g_if hF
  obtain ⟨o5, g3, h1, hF⟩ := g_bind2 hF
  refine g_xcallv (vx_runV (As := [.int x1]) (rest := []) ⟨hx, hb, hml, hown, hts⟩ (k6_checkLetter l hst D base g a0 x1 o5 g3 h1) (cwV 1 hts gX6_comes_X6_checkLetter rfl rfl rfl (by decide +kernel) ⟨Nat.le_of_ble_eq_true rfl, Nat.le_of_ble_eq_true rfl⟩) (gC.preV hE hP hS 6 rfl (by decide) h2 [.int x1]) rfl rfl hl.1 rfl (lv_room (Nat.le_of_ble_eq_true rfl)) dX6_comes_2 ⟨(Nat.le_of_ble_eq_true rfl), (Nat.le_of_ble_eq_true rfl)⟩) hS ht hlocks (fun h0 => g_thr h0 hF) (Nat.le_of_ble_eq_true rfl) (Nat.le_of_ble_eq_true rfl) (fun H locs h6 hP hS => ?_)
  have hF := g_t h6 hF
  refine lv_aload_n hx hb dX6_comes_5 rfl (lv_at hl 0 rfl) ?_
  obtain ⟨h7, hF⟩ := g_if hF
  obtain ⟨q8, hq9, hF⟩ := g_bind hF
  refine g_get hx hb hts hiX6 hown hK hP 6 rfl (by decide) h7 2 (by decide) (hts (.fieldLink RX6 25 "CourierBees" "ahead" "LCourierBees$Flight;") (by decide +kernel)) (fun _ h9 => h9) ((gFv_r (by decide)).trans (congrArg va_rf hq9)) dX6_comes_6 ?_
  refine lv_aload_n hx hb dX6_comes_9 rfl (lv_at hl 0 rfl) ?_
  obtain ⟨q10, hq11, hF⟩ := g_bind hF
  refine g_get hx hb hts hiX6 hown hK hP 6 rfl (by decide) h7 1 (by decide) (hts (.fieldLink RX6 21 "CourierBees" "now" "LCourierBees$Flight;") (by decide +kernel)) (fun _ h9 => h9) ((gFv_r (by decide)).trans (congrArg va_rf hq11)) dX6_comes_10 ?_
  obtain ⟨h13, hF⟩ := g_if hF
  obtain ⟨g14, h12, hF⟩ := g_bind hF
  refine g_callv (va_runV (As := [.ref q10]) (rest := []) ⟨hx, hb, hml, hown, hts⟩ (k1_copyFrom l D base g3 q8 q10 g14 h12) (cwV 1 hts gX6_comes_X1_copyFrom rfl rfl rfl (by decide +kernel) ⟨Nat.le_of_ble_eq_true rfl, Nat.le_of_ble_eq_true rfl⟩) (gC.preV hE hP hS 1 rfl (by decide) h13 [.ref q10]) rfl rfl hl.1 rfl (lv_room (Nat.le_of_ble_eq_true rfl)) dX6_comes_13 ⟨(Nat.le_of_ble_eq_true rfl), (Nat.le_of_ble_eq_true rfl)⟩) hS (fun H locs hP hS => ?_)
  refine lv_aload_n hx hb dX6_comes_16 rfl (lv_at hl 0 rfl) ?_
  obtain ⟨h16, hF⟩ := g_if hF
  obtain ⟨q17, hq18, hF⟩ := g_bind hF
  refine g_get hx hb hts hiX6 hown hK hP 6 rfl (by decide) h16 2 (by decide) (hts (.fieldLink RX6 25 "CourierBees" "ahead" "LCourierBees$Flight;") (by decide +kernel)) (fun _ h9 => h9) ((gFv_r (by decide)).trans (congrArg va_rf hq18)) dX6_comes_17 ?_
  obtain ⟨h19, hF⟩ := g_if hF
  obtain ⟨q20, hq21, hF⟩ := g_bind hF
  refine g_get hx hb hts hiX1 hown hK hP 1 rfl (by decide) h19 2 (by decide) (hts (.fieldLink RX6 149 "CourierBees$Flight" "letters" "[LCourierBees$Letter;") (by decide +kernel)) (fun _ h9 => h9) ((gFv_r (by decide)).trans (congrArg va_rf hq21)) dX6_comes_20 ?_
  refine lv_iload_n hx hb dX6_comes_23 rfl (lv_at hl 1 rfl) ?_
  obtain ⟨h22, hF⟩ := g_if hF
  obtain ⟨h23, hF⟩ := g_if hF
  obtain ⟨q24, hq25, hF⟩ := g_bind hF
  refine g_aald hx hb hP (g_pr h22) (by decide) h23 hq25 dX6_comes_24 ?_
  refine lv_astore_n (lv' := [(2, .ref q24), (0, .ref a0), (1, .int x1)]) hx hb dX6_comes_25 rfl hl (by decide) rfl (fun ls hl => ?_)
  refine lv_iconst (v := 0) hx hb dX6_comes_26 (by decide) ?_
  refine lv_istore_n (lv' := [(3, .int ((0 : Int32))), (2, .ref q24), (0, .ref a0), (1, .int x1)]) hx hb dX6_comes_27 rfl hl (by decide) rfl (fun ls hl => ?_)
  exact HL28 300 _ _ _ _ _ _ _ hF hP hS (lv_sub hl [2, 1, 0] rfl)
set_option maxHeartbeats 4000000 in
set_option maxRecDepth 100000 in
theorem k6_arrivalsAhead (l : Launch) (D : va_G) (base : Nat) (g : g_H) (a0 : Nat) (x1 : Int32) (x2 : Int32) (rr : Int32) (gz : g_H) (hF : f6_arrivalsAhead g a0 x1 x2 = some (rr, gz)) : Met l yX6_arrivalsAhead wsX6_arrivalsAhead ({ frames := 6, cells := 0, slots := 0, locals := 137 } : Room) (va_Pc [.ref a0, .int x1, .int x2] (gC base D g)) (gQi base D rr gz) 0 0 (gA base) := by
  refine g_met (cc := cX6_arrivalsAhead) (maxL := 3) (ret := (some .int)) (lst := [(0, .ref a0), (1, .int x1), (2, .int x2)]) (by decide) rfl (Nat.le_of_ble_eq_true rfl) rfl ?_
  intro p e s m args below meth c ls hx hb hr hml hown hlocks hname hts hE hP hl
  have hown : s.vm.findClass RX6 = some m.cls := hown
  have hK := hE.1
  have hov := hE.2.2.2.2.2.2.2.1
  have hbz := hE.2.2.2.2.2.2.2.2.2.2.2.2
  have hS : va_S (gA base) s.heap s.heap [] := va_S.rf
  have hiX1 : ∀ w ∈ wsX10, w ∈ wsX6_arrivalsAhead := by decide +kernel
  have hiX6 : ∀ w ∈ wsX60, w ∈ wsX6_arrivalsAhead := by decide +kernel
  unfold f6_arrivalsAhead at hF
  refine lv_aload_n hx hb dX6_arrivalsAhead_0 rfl (lv_at hl 0 rfl) ?_
  obtain ⟨h1, hF⟩ := g_if hF
  obtain ⟨q2, hq3, hF⟩ := g_bind hF
  refine g_get hx hb hts hiX6 hown hK hP 6 rfl (by decide) h1 2 (by decide) (hts (.fieldLink RX6 25 "CourierBees" "ahead" "LCourierBees$Flight;") (by decide +kernel)) (fun _ h9 => h9) ((gFv_r (by decide)).trans (congrArg va_rf hq3)) dX6_arrivalsAhead_1 ?_
  refine lv_aload_n hx hb dX6_arrivalsAhead_4 rfl (lv_at hl 0 rfl) ?_
  obtain ⟨q4, hq5, hF⟩ := g_bind hF
  refine g_get hx hb hts hiX6 hown hK hP 6 rfl (by decide) h1 1 (by decide) (hts (.fieldLink RX6 21 "CourierBees" "now" "LCourierBees$Flight;") (by decide +kernel)) (fun _ h9 => h9) ((gFv_r (by decide)).trans (congrArg va_rf hq5)) dX6_arrivalsAhead_5 ?_
  obtain ⟨h7, hF⟩ := g_if hF
  obtain ⟨g8, h6, hF⟩ := g_bind hF
  refine g_callv (va_runV (As := [.ref q4]) (rest := []) ⟨hx, hb, hml, hown, hts⟩ (k1_copyFrom l D base g q2 q4 g8 h6) (cwV 1 hts gX6_arrivalsAhead_X1_copyFrom rfl rfl rfl (by decide +kernel) ⟨Nat.le_of_ble_eq_true rfl, Nat.le_of_ble_eq_true rfl⟩) (gC.preV hE hP hS 1 rfl (by decide) h7 [.ref q4]) rfl rfl hl.1 rfl (lv_room (Nat.le_of_ble_eq_true rfl)) dX6_arrivalsAhead_8 ⟨(Nat.le_of_ble_eq_true rfl), (Nat.le_of_ble_eq_true rfl)⟩) hS (fun H locs hP hS => ?_)
  refine lv_aload_n hx hb dX6_arrivalsAhead_11 rfl (lv_at hl 0 rfl) ?_
  obtain ⟨h10, hF⟩ := g_if hF
  obtain ⟨q11, hq12, hF⟩ := g_bind hF
  refine g_get hx hb hts hiX6 hown hK hP 6 rfl (by decide) h10 2 (by decide) (hts (.fieldLink RX6 25 "CourierBees" "ahead" "LCourierBees$Flight;") (by decide +kernel)) (fun _ h9 => h9) ((gFv_r (by decide)).trans (congrArg va_rf hq12)) dX6_arrivalsAhead_12 ?_
  refine lv_iload_n hx hb dX6_arrivalsAhead_15 rfl (lv_at hl 2 rfl) ?_
  obtain ⟨h13, hF⟩ := g_if hF
  refine g_puti hx hb hts hiX1 tyX1 tyX1_ok nmX1 hown hK hP hS 1 rfl (by decide) h13 7 (by decide) (hts (.fieldLink RX6 259 "CourierBees$Flight" "openLane" "I") (by decide +kernel)) (fun _ h9 => h9) (Or.inl rfl) (Or.inl rfl) rfl rfl dX6_arrivalsAhead_16 (fun H locs hP hS => ?_)
  refine lv_aload_n hx hb dX6_arrivalsAhead_19 rfl (lv_at hl 0 rfl) ?_
  obtain ⟨q14, hq15, hF⟩ := g_bind hF
  refine g_get hx hb hts hiX6 hown hK hP 6 rfl (by decide) h10 2 (by decide) (hts (.fieldLink RX6 25 "CourierBees" "ahead" "LCourierBees$Flight;") (by decide +kernel)) (fun _ h9 => h9) ((gFv_r (by decide)).trans (congrArg va_rf hq15)) dX6_arrivalsAhead_20 ?_
  refine lv_iload_n hx hb dX6_arrivalsAhead_23 rfl (lv_at hl 1 rfl) ?_
  obtain ⟨h17, hF⟩ := g_if hF
  obtain ⟨v19, g18, h16, hF⟩ := g_bind2 hF
  refine g_calli (va_runV (As := [.int x1]) (rest := []) ⟨hx, hb, hml, hown, hts⟩ (k1_passQuarters l D base (gPI g8 q11 7 x2) q14 x1 v19 g18 h16) (cwV 1 hts gX6_arrivalsAhead_X1_passQuarters rfl rfl rfl (by decide +kernel) ⟨Nat.le_of_ble_eq_true rfl, Nat.le_of_ble_eq_true rfl⟩) (gC.preV hE hP hS 1 rfl (by decide) h17 [.int x1]) rfl rfl hl.1 rfl (lv_room (Nat.le_of_ble_eq_true rfl)) dX6_arrivalsAhead_24 ⟨(Nat.le_of_ble_eq_true rfl), (Nat.le_of_ble_eq_true rfl)⟩) hS (fun H locs hP hS => ?_)
  exact g_retI hx hb hr hlocks hF hP hS (Nat.le_of_ble_eq_true rfl) (Nat.le_of_ble_eq_true rfl) dX6_arrivalsAhead_27
set_option maxHeartbeats 4000000 in
set_option maxRecDepth 100000 in
theorem k6_advise (l : Launch) (hst : l.stackTraces = false) (D : va_G) (base : Nat) (g : g_H) (a0 : Nat) (x1 : Int32) (rr : Nat × Int32) (gz : g_H) (hF : f6_advise g a0 x1 = some (rr, gz)) : vx_Met l yX6_advise wsX6_advise ({ frames := 7, cells := 1, slots := 6, locals := 159 } : Room) (va_Pc [.ref a0, .int x1] (gC base D g)) (gXi base D rr gz) (gX base D rr gz) 1 6 (gA base) := by
  refine g_xmet (cc := cX6_advise) (maxL := 6) (ret := (some .int)) (lst := [(0, .ref a0), (1, .int x1)]) (by decide) rfl (Nat.le_of_ble_eq_true rfl) rfl ?_
  intro p e s m args below meth c ls hx hb hr hml hown hlocks hname hts hE hP hl ht
  have hown : s.vm.findClass RX6 = some m.cls := hown
  have hK := hE.1
  have hov := hE.2.2.2.2.2.2.2.1
  have hbz := hE.2.2.2.2.2.2.2.2.2.2.2.2
  have hS : va_S (gA base) s.heap s.heap [] := va_S.rf
  have hiX5 : ∀ w ∈ wsX50, w ∈ wsX6_advise := by decide +kernel
  have hiX6 : ∀ w ∈ wsX60, w ∈ wsX6_advise := by decide +kernel
  have HB11 : ∀ (g : g_H)  (H : Heap) (locs : List Loc) (ls : Array Slot), f6_advise_11 g  = some (rr, gz) → gP base D s g H → va_S (gA base) s.heap H locs → lv_has ls 6 [] → W p l e ({ frames := 7, cells := 1, slots := 6, locals := 159 } : Room) s m args below meth c H locs 0 0 (vx_MQ below (gXi base D rr gz) (gX base D rr gz) args s 1 6 (gA base)) (F0 m 11 ls []) := by
    intro g  H locs ls hF hP hS hl
    unfold f6_advise_11 at hF
    exact g_throwF hx hb hst hF (text := "quarters are 1 to 120") hown hts (by decide +kernel) (hts (.classLink RX6 58 gEA) (by decide +kernel)) (hts (.initialized gEA) (by decide +kernel)) (by decide +kernel) g_bad2_62 (by decide) g_good2_58_62 (by decide) hE hP hS (hl.1.trans hml.symm) dX6_advise_11 dX6_advise_14 dX6_advise_15 dX6_advise_17 dX6_advise_20 ht (Nat.le_of_ble_eq_true rfl) (Nat.le_of_ble_eq_true rfl) (Nat.le_of_ble_eq_true rfl) (Nat.le_of_ble_eq_true rfl) hlocks (by decide) rfl (Nat.le_of_ble_eq_true rfl) (Nat.le_of_ble_eq_true rfl)
  have HL33 : ∀ (n33 : Nat), ∀ (g : g_H) (a0 : Nat) (x1 : Int32) (x2 : Int32) (x3 : Int32) (x4 : Int32) (H : Heap) (locs : List Loc) (ls : Array Slot), f6_advise_33 n33 g a0 x1 x2 x3 x4 = some (rr, gz) → gP base D s g H → va_S (gA base) s.heap H locs → lv_has ls 6 [(0, .ref a0), (1, .int x1), (2, .int x2), (3, .int x3), (4, .int x4)] → W p l e ({ frames := 7, cells := 1, slots := 6, locals := 159 } : Room) s m args below meth c H locs 0 0 (vx_MQ below (gXi base D rr gz) (gX base D rr gz) args s 1 6 (gA base)) (F0 m 33 ls []) := by
    intro n33
    induction n33 with
    | zero => intro g a0 x1 x2 x3 x4 H locs ls hF hP hS hl; exact g_no hF
    | succ n33 ih33 =>
      have HB82 : ∀ (g : g_H) (a0 : Nat) (x1 : Int32) (x2 : Int32) (x3 : Int32) (x4 : Int32) (H : Heap) (locs : List Loc) (ls : Array Slot), f6_advise_82 (f6_advise_33 n33) g a0 x1 x2 x3 x4 = some (rr, gz) → gP base D s g H → va_S (gA base) s.heap H locs → lv_has ls 6 [(0, .ref a0), (1, .int x1), (2, .int x2), (3, .int x3), (4, .int x4)] → W p l e ({ frames := 7, cells := 1, slots := 6, locals := 159 } : Room) s m args below meth c H locs 0 0 (vx_MQ below (gXi base D rr gz) (gX base D rr gz) args s 1 6 (gA base)) (F0 m 82 ls []) := by
        intro g a0 x1 x2 x3 x4 H locs ls hF hP hS hl
        unfold f6_advise_82 at hF
        refine lv_iinc (v := x4 + (1 : Int32)) (lv' := [(4, .int (x4 + (1 : Int32))), (0, .ref a0), (1, .int x1), (2, .int x2), (3, .int x3)]) hx hb dX6_advise_82 hl (k := 4) rfl rfl (by decide) rfl (fun ls hl => ?_)
        refine lv_goto (tgt := 33) hx hb dX6_advise_85 (by decide) ?_
        exact ih33 _ _ _ _ _ _ _ _ _ hF hP hS (lv_sub hl [1, 2, 3, 4, 0] rfl)
      intro g a0 x1 x2 x3 x4 H locs ls hF hP hS hl
      have hF : f6_advise_33b (f6_advise_33 n33) g a0 x1 x2 x3 x4 = some (rr, gz) := hF
      unfold f6_advise_33b at hF
      refine lv_iload hx hb dX6_advise_33 (lv_at hl 4 rfl) ?_
      refine lv_aload_n hx hb dX6_advise_35 rfl (lv_at hl 0 rfl) ?_
      obtain ⟨h7, hF⟩ := g_if hF
      obtain ⟨q8, hq9, hF⟩ := g_bind hF
      refine g_get hx hb hts hiX6 hown hK hP 6 rfl (by decide) h7 0 (by decide) (hts (.fieldLink RX6 10 "CourierBees" "town" "LCourierBees$Town;") (by decide +kernel)) (fun _ h9 => h9) ((gFv_r (by decide)).trans (congrArg va_rf hq9)) dX6_advise_36 ?_
      obtain ⟨h10, hF⟩ := g_if hF
      refine g_get hx hb hts hiX5 hown hK hP 5 rfl (by decide) h10 1 (by decide) (hts (.fieldLink RX6 63 "CourierBees$Town" "laneCount" "I") (by decide +kernel)) (fun _ h9 => h9) (gFv_i (Or.inl rfl)) dX6_advise_39 ?_
      refine lv_icmp_ge (tgt := 88) hx hb dX6_advise_42 (by decide) (fun c11 => ?_) (fun c11 => ?_)
      · have hF := g_t c11 hF
        refine lv_iload_n hx hb dX6_advise_88 rfl (lv_at hl 2 rfl) ?_
        exact g_xretI hx hb hr hlocks hF hP hS (Nat.le_of_ble_eq_true rfl) (Nat.le_of_ble_eq_true rfl) dX6_advise_89
      · have hF := g_f c11 hF
        refine lv_aload_n hx hb dX6_advise_45 rfl (lv_at hl 0 rfl) ?_
        obtain ⟨q12, hq13, hF⟩ := g_bind hF
        refine g_get hx hb hts hiX6 hown hK hP 6 rfl (by decide) h7 0 (by decide) (hts (.fieldLink RX6 10 "CourierBees" "town" "LCourierBees$Town;") (by decide +kernel)) (fun _ h9 => h9) ((gFv_r (by decide)).trans (congrArg va_rf hq13)) dX6_advise_46 ?_
        obtain ⟨h14, hF⟩ := g_if hF
        obtain ⟨q15, hq16, hF⟩ := g_bind hF
        refine g_get hx hb hts hiX5 hown hK hP 5 rfl (by decide) h14 3 (by decide) (hts (.fieldLink RX6 85 "CourierBees$Town" "lanes" "[LCourierBees$Lane;") (by decide +kernel)) (fun _ h9 => h9) ((gFv_r (by decide)).trans (congrArg va_rf hq16)) dX6_advise_49 ?_
        refine lv_iload hx hb dX6_advise_52 (lv_at hl 4 rfl) ?_
        obtain ⟨h17, hF⟩ := g_if hF
        obtain ⟨h18, hF⟩ := g_if hF
        obtain ⟨q19, hq20, hF⟩ := g_bind hF
        refine g_aald hx hb hP (g_pr h17) (by decide) h18 hq20 dX6_advise_54 ?_
        obtain ⟨h22, hF⟩ := g_if hF
        obtain ⟨v24, g23, h21, hF⟩ := g_bind2 hF
        refine g_calli (va_runV (As := []) (rest := []) ⟨hx, hb, hml, hown, hts⟩ (k2_isOpenAlways l D base g q19 v24 g23 h21) (cwV 0 hts gX6_advise_X2_isOpenAlways rfl rfl rfl (by decide +kernel) ⟨Nat.le_of_ble_eq_true rfl, Nat.le_of_ble_eq_true rfl⟩) (gC.preV hE hP hS 2 rfl (by decide) h22 []) rfl rfl hl.1 rfl (lv_room (Nat.le_of_ble_eq_true rfl)) dX6_advise_55 ⟨(Nat.le_of_ble_eq_true rfl), (Nat.le_of_ble_eq_true rfl)⟩) hS (fun H locs hP hS => ?_)
        refine lv_if_ne (tgt := 82) hx hb dX6_advise_58 (by decide) (fun c25 => ?_) (fun c25 => ?_)
        · have hF := g_f c25 hF
          exact HB82 _ _ _ _ _ _ _ _ _ hF hP hS (lv_sub hl [0, 1, 2, 3, 4] rfl)
        · have hF := g_t c25 hF
          refine lv_aload_n hx hb dX6_advise_61 rfl (lv_at hl 0 rfl) ?_
          refine lv_iload_n hx hb dX6_advise_62 rfl (lv_at hl 1 rfl) ?_
          refine lv_iload hx hb dX6_advise_63 (lv_at hl 4 rfl) ?_
          obtain ⟨h27, hF⟩ := g_if hF
          obtain ⟨v29, g28, h26, hF⟩ := g_bind2 hF
          refine g_calli (va_runV (As := [.int x1, .int x4]) (rest := []) ⟨hx, hb, hml, hown, hts⟩ (k6_arrivalsAhead l D base g23 a0 x1 x4 v29 g28 h26) (cwV 2 hts gX6_advise_X6_arrivalsAhead rfl rfl rfl (by decide +kernel) ⟨Nat.le_of_ble_eq_true rfl, Nat.le_of_ble_eq_true rfl⟩) (gC.preV hE hP hS 6 rfl (by decide) h27 [.int x1, .int x4]) rfl rfl hl.1 rfl (lv_room (Nat.le_of_ble_eq_true rfl)) dX6_advise_65 ⟨(Nat.le_of_ble_eq_true rfl), (Nat.le_of_ble_eq_true rfl)⟩) hS (fun H locs hP hS => ?_)
          refine lv_istore (lv' := [(5, .int v29), (0, .ref a0), (1, .int x1), (2, .int x2), (3, .int x3), (4, .int x4)]) hx hb dX6_advise_68 hl (by decide) rfl (fun ls hl => ?_)
          refine lv_iload hx hb dX6_advise_70 (lv_at hl 0 rfl) ?_
          refine lv_iload_n hx hb dX6_advise_72 rfl (lv_at hl 4 rfl) ?_
          refine lv_icmp_le (tgt := 82) hx hb dX6_advise_73 (by decide) (fun c30 => ?_) (fun c30 => ?_)
          · have hF := g_t c30 hF
            exact HB82 _ _ _ _ _ _ _ _ _ hF hP hS (lv_sub hl [1, 2, 3, 4, 5] rfl)
          · have hF := g_f c30 hF
            refine lv_iload hx hb dX6_advise_76 (lv_at hl 0 rfl) ?_
            refine lv_istore_n (lv' := [(3, .int v29), (5, .int v29), (0, .ref a0), (1, .int x1), (2, .int x2), (4, .int x4)]) hx hb dX6_advise_78 rfl hl (by decide) rfl (fun ls hl => ?_)
            refine lv_iload hx hb dX6_advise_79 (lv_at hl 5 rfl) ?_
            refine lv_istore_n (lv' := [(2, .int x4), (3, .int v29), (5, .int v29), (0, .ref a0), (1, .int x1), (4, .int x4)]) hx hb dX6_advise_81 rfl hl (by decide) rfl (fun ls hl => ?_)
            exact HB82 _ _ _ _ _ _ _ _ _ hF hP hS (lv_sub hl [3, 4, 0, 1, 5] rfl)
  unfold f6_advise at hF
  refine lv_iload_n hx hb dX6_advise_0 rfl (lv_at hl 1 rfl) ?_
  refine lv_iconst (v := 1) hx hb dX6_advise_1 (by decide) ?_
  refine lv_icmp_lt (tgt := 11) hx hb dX6_advise_2 (by decide) (fun c1 => ?_) (fun c1 => ?_)
  · have hF := g_t c1 hF
    exact HB11 _ _ _ _ hF hP hS (lv_sub hl [] rfl)
  · have hF := g_f c1 hF
    refine lv_iload_n hx hb dX6_advise_5 rfl (lv_at hl 1 rfl) ?_
    refine lv_bipush (v := 120) hx hb dX6_advise_6 (by decide) ?_
    refine lv_icmp_le (tgt := 21) hx hb dX6_advise_8 (by decide) (fun c2 => ?_) (fun c2 => ?_)
    · have hF := g_t c2 hF
      refine lv_iconst (v := (-1)) hx hb dX6_advise_21 (by decide) ?_
      refine lv_istore_n (lv' := [(2, .int ((-1 : Int32))), (0, .ref a0), (1, .int x1)]) hx hb dX6_advise_22 rfl hl (by decide) rfl (fun ls hl => ?_)
      refine lv_aload_n hx hb dX6_advise_23 rfl (lv_at hl 1 rfl) ?_
      refine lv_iload_n hx hb dX6_advise_24 rfl (lv_at hl 2 rfl) ?_
      refine lv_iconst (v := (-1)) hx hb dX6_advise_25 (by decide) ?_
      obtain ⟨h4, hF⟩ := g_if hF
      obtain ⟨v6, g5, h3, hF⟩ := g_bind2 hF
      refine g_calli (va_runV (As := [.int x1, .int ((-1 : Int32))]) (rest := []) ⟨hx, hb, hml, hown, hts⟩ (k6_arrivalsAhead l D base g a0 x1 ((-1 : Int32)) v6 g5 h3) (cwV 2 hts gX6_advise_X6_arrivalsAhead rfl rfl rfl (by decide +kernel) ⟨Nat.le_of_ble_eq_true rfl, Nat.le_of_ble_eq_true rfl⟩) (gC.preV hE hP hS 6 rfl (by decide) h4 [.int x1, .int ((-1 : Int32))]) rfl rfl hl.1 rfl (lv_room (Nat.le_of_ble_eq_true rfl)) dX6_advise_26 ⟨(Nat.le_of_ble_eq_true rfl), (Nat.le_of_ble_eq_true rfl)⟩) hS (fun H locs hP hS => ?_)
      refine lv_istore_n (lv' := [(3, .int v6), (2, .int ((-1 : Int32))), (0, .ref a0), (1, .int x1)]) hx hb dX6_advise_29 rfl hl (by decide) rfl (fun ls hl => ?_)
      refine lv_iconst (v := 0) hx hb dX6_advise_30 (by decide) ?_
      refine lv_istore (lv' := [(4, .int ((0 : Int32))), (3, .int v6), (2, .int ((-1 : Int32))), (0, .ref a0), (1, .int x1)]) hx hb dX6_advise_31 hl (by decide) rfl (fun ls hl => ?_)
      exact HL33 300 _ _ _ _ _ _ _ _ _ hF hP hS (lv_sub hl [3, 4, 2, 1, 0] rfl)
    · have hF := g_f c2 hF
      exact HB11 _ _ _ _ hF hP hS (lv_sub hl [] rfl)
set_option maxHeartbeats 4000000 in
set_option maxRecDepth 100000 in
theorem k6_trusted (l : Launch) (hst : l.stackTraces = false) (D : va_G) (base : Nat) (g : g_H) (a0 : Nat) (x1 : Int32) (rr : Nat × Int32) (gz : g_H) (hF : f6_trusted g a0 x1 = some (rr, gz)) : vx_Met l yX6_trusted wsX6_trusted ({ frames := 7, cells := 1, slots := 6, locals := 111 } : Room) (va_Pc [.ref a0, .int x1] (gC base D g)) (gXi base D rr gz) (gX base D rr gz) 1 6 (gA base) := by
  refine g_xmet (cc := cX6_trusted) (maxL := 8) (ret := (some .int)) (lst := [(0, .ref a0), (1, .int x1)]) (by decide) rfl (Nat.le_of_ble_eq_true rfl) rfl ?_
  intro p e s m args below meth c ls hx hb hr hml hown hlocks hname hts hE hP hl ht
  have hown : s.vm.findClass RX6 = some m.cls := hown
  have hK := hE.1
  have hov := hE.2.2.2.2.2.2.2.1
  have hbz := hE.2.2.2.2.2.2.2.2.2.2.2.2
  have hS : va_S (gA base) s.heap s.heap [] := va_S.rf
  have hiX0 : ∀ w ∈ wsX00, w ∈ wsX6_trusted := by decide +kernel
  have hiX1 : ∀ w ∈ wsX10, w ∈ wsX6_trusted := by decide +kernel
  have hiX6 : ∀ w ∈ wsX60, w ∈ wsX6_trusted := by decide +kernel
  have HL17 : ∀ (n17 : Nat), ∀ (g : g_H) (a0 : Nat) (x1 : Int32) (x2 : Int32) (x3 : Int32) (x4 : Int32) (x5 : Int32) (H : Heap) (locs : List Loc) (ls : Array Slot), f6_trusted_17 n17 g a0 x1 x2 x3 x4 x5 = some (rr, gz) → gP base D s g H → va_S (gA base) s.heap H locs → lv_has ls 8 [(0, .ref a0), (1, .int x1), (2, .int x2), (3, .int x3), (4, .int x4), (5, .int x5)] → W p l e ({ frames := 7, cells := 1, slots := 6, locals := 111 } : Room) s m args below meth c H locs 1 6 (vx_MQ below (gXi base D rr gz) (gX base D rr gz) args s 1 6 (gA base)) (F0 m 17 ls []) := by
    intro n17
    induction n17 with
    | zero => intro g a0 x1 x2 x3 x4 x5 H locs ls hF hP hS hl; exact g_no hF
    | succ n17 ih17 =>
      have HB100 : ∀ (g : g_H) (a0 : Nat) (x1 : Int32) (x2 : Int32) (x3 : Int32) (x4 : Int32) (x5 : Int32) (H : Heap) (locs : List Loc) (ls : Array Slot), f6_trusted_100 (f6_trusted_17 n17) g a0 x1 x2 x3 x4 x5 = some (rr, gz) → gP base D s g H → va_S (gA base) s.heap H locs → lv_has ls 8 [(0, .ref a0), (1, .int x1), (2, .int x2), (3, .int x3), (4, .int x4), (5, .int x5)] → W p l e ({ frames := 7, cells := 1, slots := 6, locals := 111 } : Room) s m args below meth c H locs 1 6 (vx_MQ below (gXi base D rr gz) (gX base D rr gz) args s 1 6 (gA base)) (F0 m 100 ls []) := by
        intro g a0 x1 x2 x3 x4 x5 H locs ls hF hP hS hl
        unfold f6_trusted_100 at hF
        refine lv_iinc (v := x5 + (1 : Int32)) (lv' := [(5, .int (x5 + (1 : Int32))), (0, .ref a0), (1, .int x1), (2, .int x2), (3, .int x3), (4, .int x4)]) hx hb dX6_trusted_100 hl (k := 5) rfl rfl (by decide) rfl (fun ls hl => ?_)
        refine lv_goto (tgt := 17) hx hb dX6_trusted_103 (by decide) ?_
        exact ih17 _ _ _ _ _ _ _ _ _ _ hF hP hS (lv_sub hl [1, 2, 3, 4, 5, 0] rfl)
      have HB87 : ∀ (g : g_H) (a0 : Nat) (x1 : Int32) (x5 : Int32) (a6 : Nat) (x7 : Int32) (H : Heap) (locs : List Loc) (ls : Array Slot), f6_trusted_87 (f6_trusted_17 n17) g a0 x1 x5 a6 x7 = some (rr, gz) → gP base D s g H → va_S (gA base) s.heap H locs → lv_has ls 8 [(0, .ref a0), (1, .int x1), (5, .int x5), (6, .ref a6), (7, .int x7)] → W p l e ({ frames := 7, cells := 1, slots := 6, locals := 111 } : Room) s m args below meth c H locs 1 6 (vx_MQ below (gXi base D rr gz) (gX base D rr gz) args s 1 6 (gA base)) (F0 m 87 ls []) := by
        intro g a0 x1 x5 a6 x7 H locs ls hF hP hS hl
        unfold f6_trusted_87 at hF
        refine lv_iload hx hb dX6_trusted_87 (lv_at hl 2 rfl) ?_
        refine lv_istore_n (lv' := [(2, .int x5), (0, .ref a0), (1, .int x1), (5, .int x5), (6, .ref a6), (7, .int x7)]) hx hb dX6_trusted_89 rfl hl (by decide) rfl (fun ls hl => ?_)
        refine lv_iload hx hb dX6_trusted_90 (lv_at hl 5 rfl) ?_
        refine lv_istore_n (lv' := [(3, .int x7), (2, .int x5), (0, .ref a0), (1, .int x1), (5, .int x5), (6, .ref a6), (7, .int x7)]) hx hb dX6_trusted_92 rfl hl (by decide) rfl (fun ls hl => ?_)
        refine lv_aload hx hb dX6_trusted_93 (lv_at hl 5 rfl) ?_
        obtain ⟨h35, hF⟩ := g_if hF
        refine g_get hx hb hts hiX0 hown hK hP 0 rfl (by decide) h35 5 (by decide) (hts (.fieldLink RX6 139 "CourierBees$Bee" "honour" "I") (by decide +kernel)) (fun _ h9 => h9) (gFv_i (Or.inl rfl)) dX6_trusted_95 ?_
        refine lv_istore (lv' := [(4, .int (gI g a6 5)), (3, .int x7), (2, .int x5), (0, .ref a0), (1, .int x1), (5, .int x5), (6, .ref a6), (7, .int x7)]) hx hb dX6_trusted_98 hl (by decide) rfl (fun ls hl => ?_)
        exact HB100 _ _ _ _ _ _ _ _ _ _ hF hP hS (lv_sub hl [3, 4, 2, 1, 0, 5] rfl)
      intro g a0 x1 x2 x3 x4 x5 H locs ls hF hP hS hl
      have hF : f6_trusted_17b (f6_trusted_17 n17) g a0 x1 x2 x3 x4 x5 = some (rr, gz) := hF
      unfold f6_trusted_17b at hF
      refine lv_iload hx hb dX6_trusted_17 (lv_at hl 5 rfl) ?_
      refine lv_aload_n hx hb dX6_trusted_19 rfl (lv_at hl 0 rfl) ?_
      obtain ⟨h7, hF⟩ := g_if hF
      obtain ⟨q8, hq9, hF⟩ := g_bind hF
      refine g_get hx hb hts hiX6 hown hK hP 6 rfl (by decide) h7 1 (by decide) (hts (.fieldLink RX6 21 "CourierBees" "now" "LCourierBees$Flight;") (by decide +kernel)) (fun _ h9 => h9) ((gFv_r (by decide)).trans (congrArg va_rf hq9)) dX6_trusted_20 ?_
      obtain ⟨h10, hF⟩ := g_if hF
      refine g_get hx hb hts hiX1 hown hK hP 1 rfl (by decide) h10 3 (by decide) (hts (.fieldLink RX6 66 "CourierBees$Flight" "beeCount" "I") (by decide +kernel)) (fun _ h9 => h9) (gFv_i (Or.inl rfl)) dX6_trusted_23 ?_
      refine lv_icmp_ge (tgt := 106) hx hb dX6_trusted_26 (by decide) (fun c11 => ?_) (fun c11 => ?_)
      · have hF := g_t c11 hF
        refine lv_iload_n hx hb dX6_trusted_106 rfl (lv_at hl 2 rfl) ?_
        exact g_xretI hx hb hr hlocks hF hP hS (Nat.le_of_ble_eq_true rfl) (Nat.le_of_ble_eq_true rfl) dX6_trusted_107
      · have hF := g_f c11 hF
        refine lv_aload_n hx hb dX6_trusted_29 rfl (lv_at hl 0 rfl) ?_
        obtain ⟨q12, hq13, hF⟩ := g_bind hF
        refine g_get hx hb hts hiX6 hown hK hP 6 rfl (by decide) h7 1 (by decide) (hts (.fieldLink RX6 21 "CourierBees" "now" "LCourierBees$Flight;") (by decide +kernel)) (fun _ h9 => h9) ((gFv_r (by decide)).trans (congrArg va_rf hq13)) dX6_trusted_30 ?_
        obtain ⟨h14, hF⟩ := g_if hF
        obtain ⟨q15, hq16, hF⟩ := g_bind hF
        refine g_get hx hb hts hiX1 hown hK hP 1 rfl (by decide) h14 1 (by decide) (hts (.fieldLink RX6 106 "CourierBees$Flight" "bees" "[LCourierBees$Bee;") (by decide +kernel)) (fun _ h9 => h9) ((gFv_r (by decide)).trans (congrArg va_rf hq16)) dX6_trusted_33 ?_
        refine lv_iload hx hb dX6_trusted_36 (lv_at hl 5 rfl) ?_
        obtain ⟨h17, hF⟩ := g_if hF
        obtain ⟨h18, hF⟩ := g_if hF
        obtain ⟨q19, hq20, hF⟩ := g_bind hF
        refine g_aald hx hb hP (g_pr h17) (by decide) h18 hq20 dX6_trusted_38 ?_
        refine lv_astore (lv' := [(6, .ref q19), (0, .ref a0), (1, .int x1), (2, .int x2), (3, .int x3), (4, .int x4), (5, .int x5)]) hx hb dX6_trusted_39 hl (by decide) rfl (fun ls hl => ?_)
        refine lv_aload_n hx hb dX6_trusted_41 rfl (lv_at hl 1 rfl) ?_
        obtain ⟨q21, hq22, hF⟩ := g_bind hF
        refine g_get hx hb hts hiX6 hown hK hP 6 rfl (by decide) h7 0 (by decide) (hts (.fieldLink RX6 10 "CourierBees" "town" "LCourierBees$Town;") (by decide +kernel)) (fun _ h9 => h9) ((gFv_r (by decide)).trans (congrArg va_rf hq22)) dX6_trusted_42 ?_
        refine lv_aload hx hb dX6_trusted_45 (lv_at hl 0 rfl) ?_
        obtain ⟨h23, hF⟩ := g_if hF
        obtain ⟨q24, hq25, hF⟩ := g_bind hF
        refine g_get hx hb hts hiX0 hown hK hP 0 rfl (by decide) h23 1 (by decide) (hts (.fieldLink RX6 181 "CourierBees$Bee" "route" "LCourierBees$Route;") (by decide +kernel)) (fun _ h9 => h9) ((gFv_r (by decide)).trans (congrArg va_rf hq25)) dX6_trusted_47 ?_
        refine lv_iload_n hx hb dX6_trusted_50 rfl (lv_at hl 2 rfl) ?_
        obtain ⟨h27, hF⟩ := g_if hF
        obtain ⟨v29, g28, h26, hF⟩ := g_bind2 hF
        refine g_calli (va_runV (As := [.int x1]) (rest := [.ref q21]) ⟨hx, hb, hml, hown, hts⟩ (k4_targetFor l D base g q24 x1 v29 g28 h26) (cwV 1 hts gX6_trusted_X4_targetFor rfl rfl rfl (by decide +kernel) ⟨Nat.le_of_ble_eq_true rfl, Nat.le_of_ble_eq_true rfl⟩) (gC.preV hE hP hS 4 rfl (by decide) h27 [.int x1]) rfl rfl hl.1 rfl (lv_room (Nat.le_of_ble_eq_true rfl)) dX6_trusted_51 ⟨(Nat.le_of_ble_eq_true rfl), (Nat.le_of_ble_eq_true rfl)⟩) hS (fun H locs hP hS => ?_)
        refine lv_iload_n hx hb dX6_trusted_54 rfl (lv_at hl 2 rfl) ?_
        obtain ⟨h31, hF⟩ := g_if hF
        obtain ⟨v33, g32, h30, hF⟩ := g_bind2 hF
        refine g_calli (va_runV (As := [.int v29, .int x1]) (rest := []) ⟨hx, hb, hml, hown, hts⟩ (k5_wayBetween l D base g28 q21 v29 x1 v33 g32 h30) (cwV 2 hts gX6_trusted_X5_wayBetween rfl rfl rfl (by decide +kernel) ⟨Nat.le_of_ble_eq_true rfl, Nat.le_of_ble_eq_true rfl⟩) (gC.preV hE hP hS 5 rfl (by decide) h31 [.int v29, .int x1]) rfl rfl hl.1 rfl (lv_room (Nat.le_of_ble_eq_true rfl)) dX6_trusted_55 ⟨(Nat.le_of_ble_eq_true rfl), (Nat.le_of_ble_eq_true rfl)⟩) hS (fun H locs hP hS => ?_)
        refine lv_istore (lv' := [(7, .int v33), (6, .ref q19), (0, .ref a0), (1, .int x1), (2, .int x2), (3, .int x3), (4, .int x4), (5, .int x5)]) hx hb dX6_trusted_58 hl (by decide) rfl (fun ls hl => ?_)
        refine lv_iload hx hb dX6_trusted_60 (lv_at hl 0 rfl) ?_
        refine lv_iload_n hx hb dX6_trusted_62 rfl (lv_at hl 5 rfl) ?_
        refine lv_icmp_lt (tgt := 87) hx hb dX6_trusted_63 (by decide) (fun c34 => ?_) (fun c34 => ?_)
        · have hF := g_t c34 hF
          exact HB87 _ _ _ _ _ _ _ _ _ hF hP hS (lv_sub hl [2, 3, 7, 1, 0] rfl)
        · have hF := g_f c34 hF
          refine lv_iload_n hx hb dX6_trusted_66 rfl (lv_at hl 4 rfl) ?_
          refine lv_iconst (v := (-1)) hx hb dX6_trusted_67 (by decide) ?_
          refine lv_icmp_eq (tgt := 100) hx hb dX6_trusted_68 (by decide) (fun c36 => ?_) (fun c36 => ?_)
          · have hF := g_t c36 hF
            exact HB100 _ _ _ _ _ _ _ _ _ _ hF hP hS (lv_sub hl [2, 3, 4, 5, 6, 7] rfl)
          · have hF := g_f c36 hF
            refine lv_iload hx hb dX6_trusted_71 (lv_at hl 0 rfl) ?_
            refine lv_iload_n hx hb dX6_trusted_73 rfl (lv_at hl 5 rfl) ?_
            refine lv_icmp_ne (tgt := 100) hx hb dX6_trusted_74 (by decide) (fun c37 => ?_) (fun c37 => ?_)
            · have hF := g_f c37 hF
              exact HB100 _ _ _ _ _ _ _ _ _ _ hF hP hS (lv_sub hl [2, 3, 4, 5, 6, 7] rfl)
            · have hF := g_t c37 hF
              refine lv_aload hx hb dX6_trusted_77 (lv_at hl 1 rfl) ?_
              obtain ⟨h38, hF⟩ := g_if hF
              refine g_get hx hb hts hiX0 hown hK hP 0 rfl (by decide) h38 5 (by decide) (hts (.fieldLink RX6 139 "CourierBees$Bee" "honour" "I") (by decide +kernel)) (fun _ h9 => h9) (gFv_i (Or.inl rfl)) dX6_trusted_79 ?_
              refine lv_iload hx hb dX6_trusted_82 (lv_at hl 6 rfl) ?_
              refine lv_icmp_le (tgt := 100) hx hb dX6_trusted_84 (by decide) (fun c39 => ?_) (fun c39 => ?_)
              · have hF := g_t c39 hF
                exact HB100 _ _ _ _ _ _ _ _ _ _ hF hP hS (lv_sub hl [2, 3, 4, 5, 6, 7] rfl)
              · have hF := g_f c39 hF
                exact HB87 _ _ _ _ _ _ _ _ _ hF hP hS (lv_sub hl [2, 3, 7, 1, 0] rfl)
  unfold f6_trusted at hF
  refine lv_aload_n hx hb dX6_trusted_0 rfl (lv_at hl 0 rfl) ?_
  refine lv_iload_n hx hb dX6_trusted_1 rfl (lv_at hl 1 rfl) ?_
  obtain ⟨h2, hF⟩ := g_if hF
  obtain ⟨o5, g3, h1, hF⟩ := g_bind2 hF
  refine g_xcallv (vx_runV (As := [.int x1]) (rest := []) ⟨hx, hb, hml, hown, hts⟩ (k6_checkHouse l hst D base g a0 x1 o5 g3 h1) (cwV 1 hts gX6_trusted_X6_checkHouse rfl rfl rfl (by decide +kernel) ⟨Nat.le_of_ble_eq_true rfl, Nat.le_of_ble_eq_true rfl⟩) (gC.preV hE hP hS 6 rfl (by decide) h2 [.int x1]) rfl rfl hl.1 rfl (lv_room (Nat.le_of_ble_eq_true rfl)) dX6_trusted_2 ⟨(Nat.le_of_ble_eq_true rfl), (Nat.le_of_ble_eq_true rfl)⟩) hS ht hlocks (fun h0 => g_thr h0 hF) (Nat.le_of_ble_eq_true rfl) (Nat.le_of_ble_eq_true rfl) (fun H locs h6 hP hS => ?_)
  have hF := g_t h6 hF
  refine lv_iconst (v := (-1)) hx hb dX6_trusted_5 (by decide) ?_
  refine lv_istore_n (lv' := [(2, .int ((-1 : Int32))), (0, .ref a0), (1, .int x1)]) hx hb dX6_trusted_6 rfl hl (by decide) rfl (fun ls hl => ?_)
  refine lv_sipush (v := 1000) hx hb dX6_trusted_7 (by decide) ?_
  refine lv_istore_n (lv' := [(3, .int ((1000 : Int32))), (2, .int ((-1 : Int32))), (0, .ref a0), (1, .int x1)]) hx hb dX6_trusted_10 rfl hl (by decide) rfl (fun ls hl => ?_)
  refine lv_iconst (v := 0) hx hb dX6_trusted_11 (by decide) ?_
  refine lv_istore (lv' := [(4, .int ((0 : Int32))), (3, .int ((1000 : Int32))), (2, .int ((-1 : Int32))), (0, .ref a0), (1, .int x1)]) hx hb dX6_trusted_12 hl (by decide) rfl (fun ls hl => ?_)
  refine lv_iconst (v := 0) hx hb dX6_trusted_14 (by decide) ?_
  refine lv_istore (lv' := [(5, .int ((0 : Int32))), (4, .int ((0 : Int32))), (3, .int ((1000 : Int32))), (2, .int ((-1 : Int32))), (0, .ref a0), (1, .int x1)]) hx hb dX6_trusted_15 hl (by decide) rfl (fun ls hl => ?_)
  exact HL17 300 _ _ _ _ _ _ _ _ _ _ hF hP hS (lv_sub hl [4, 5, 3, 2, 1, 0] rfl)
set_option maxHeartbeats 4000000 in
set_option maxRecDepth 100000 in
theorem k6_mean (l : Launch) (D : va_G) (base : Nat) (g : g_H) (a0 : Nat) (rr : UInt64) (gz : g_H) (hF : f6_mean g a0 = some (rr, gz)) : Met l yX6_mean wsX6_mean ({ frames := 1, cells := 0, slots := 0, locals := 20 } : Room) (va_Pc [.ref a0] (gC base D g)) (gQd base D rr gz) 0 0 (gA base) := by
  refine g_met (cc := cX6_mean) (maxL := 4) (ret := (some .double)) (lst := [(0, .ref a0)]) (by decide) rfl (Nat.le_of_ble_eq_true rfl) rfl ?_
  intro p e s m args below meth c ls hx hb hr hml hown hlocks hname hts hE hP hl
  have hown : s.vm.findClass RX6 = some m.cls := hown
  have hK := hE.1
  have hov := hE.2.2.2.2.2.2.2.1
  have hbz := hE.2.2.2.2.2.2.2.2.2.2.2.2
  have hS : va_S (gA base) s.heap s.heap [] := va_S.rf
  have hiX1 : ∀ w ∈ wsX10, w ∈ wsX6_mean := by decide +kernel
  have hiX3 : ∀ w ∈ wsX30, w ∈ wsX6_mean := by decide +kernel
  have hiX6 : ∀ w ∈ wsX60, w ∈ wsX6_mean := by decide +kernel
  have HL16 : ∀ (n16 : Nat), ∀ (g : g_H) (a0 : Nat) (j1 : Int64) (x3 : Int32) (H : Heap) (locs : List Loc) (ls : Array Slot), f6_mean_16 n16 g a0 j1 x3 = some (rr, gz) → gP base D s g H → va_S (gA base) s.heap H locs → lv_has ls 4 [(0, .ref a0), (1, .long j1), (3, .int x3)] → W p l e ({ frames := 1, cells := 0, slots := 0, locals := 20 } : Room) s m args below meth c H locs 0 0 (MQ below (gQd base D rr gz) args s 0 0 (gA base)) (F0 m 16 ls []) := by
    intro n16
    induction n16 with
    | zero => intro g a0 j1 x3 H locs ls hF hP hS hl; exact g_no hF
    | succ n16 ih16 =>
      have HB58 : ∀ (g : g_H) (a0 : Nat) (j1 : Int64) (x3 : Int32) (H : Heap) (locs : List Loc) (ls : Array Slot), f6_mean_58 (f6_mean_16 n16) g a0 j1 x3 = some (rr, gz) → gP base D s g H → va_S (gA base) s.heap H locs → lv_has ls 4 [(0, .ref a0), (1, .long j1), (3, .int x3)] → W p l e ({ frames := 1, cells := 0, slots := 0, locals := 20 } : Room) s m args below meth c H locs 0 0 (MQ below (gQd base D rr gz) args s 0 0 (gA base)) (F0 m 58 ls []) := by
        intro g a0 j1 x3 H locs ls hF hP hS hl
        unfold f6_mean_58 at hF
        refine lv_iinc (v := x3 + (1 : Int32)) (lv' := [(3, .int (x3 + (1 : Int32))), (0, .ref a0), (1, .long j1)]) hx hb dX6_mean_58 hl (k := 2) rfl rfl (by decide) rfl (fun ls hl => ?_)
        refine lv_goto (tgt := 16) hx hb dX6_mean_61 (by decide) ?_
        exact ih16 _ _ _ _ _ _ _ hF hP hS (lv_sub hl [1, 2, 0] rfl)
      intro g a0 j1 x3 H locs ls hF hP hS hl
      have hF : f6_mean_16b (f6_mean_16 n16) g a0 j1 x3 = some (rr, gz) := hF
      unfold f6_mean_16b at hF
      refine lv_iload_n hx hb dX6_mean_16 rfl (lv_at hl 2 rfl) ?_
      refine lv_aload_n hx hb dX6_mean_17 rfl (lv_at hl 0 rfl) ?_
      obtain ⟨h6, hF⟩ := g_if hF
      obtain ⟨q7, hq8, hF⟩ := g_bind hF
      refine g_get hx hb hts hiX6 hown hK hP 6 rfl (by decide) h6 1 (by decide) (hts (.fieldLink RX6 21 "CourierBees" "now" "LCourierBees$Flight;") (by decide +kernel)) (fun _ h9 => h9) ((gFv_r (by decide)).trans (congrArg va_rf hq8)) dX6_mean_18 ?_
      obtain ⟨h9, hF⟩ := g_if hF
      refine g_get hx hb hts hiX1 hown hK hP 1 rfl (by decide) h9 4 (by decide) (hts (.fieldLink RX6 144 "CourierBees$Flight" "letterCount" "I") (by decide +kernel)) (fun _ h9 => h9) (gFv_i (Or.inl rfl)) dX6_mean_21 ?_
      refine lv_icmp_ge (tgt := 64) hx hb dX6_mean_24 (by decide) (fun c10 => ?_) (fun c10 => ?_)
      · have hF := g_t c10 hF
        refine lv_lload_n hx hb dX6_mean_64 rfl (lv_at hl 1 rfl) ?_
        refine lv_l2d hx hb dX6_mean_65 ?_
        refine lv_aload_n hx hb dX6_mean_66 rfl (lv_at hl 0 rfl) ?_
        obtain ⟨q11, hq12, hF⟩ := g_bind hF
        refine g_get hx hb hts hiX6 hown hK hP 6 rfl (by decide) h6 1 (by decide) (hts (.fieldLink RX6 21 "CourierBees" "now" "LCourierBees$Flight;") (by decide +kernel)) (fun _ h9 => h9) ((gFv_r (by decide)).trans (congrArg va_rf hq12)) dX6_mean_67 ?_
        obtain ⟨h13, hF⟩ := g_if hF
        refine g_get hx hb hts hiX1 hown hK hP 1 rfl (by decide) h13 6 (by decide) (hts (.fieldLink RX6 214 "CourierBees$Flight" "arrivals" "I") (by decide +kernel)) (fun _ h9 => h9) (gFv_i (Or.inl rfl)) dX6_mean_70 ?_
        refine lv_i2d hx hb dX6_mean_73 ?_
        obtain ⟨h14, hF⟩ := g_if hF
        refine lv_ddiv hx hb dX6_mean_74 h14 ?_
        exact g_retD hx hb hr hlocks hF hP hS (Nat.le_of_ble_eq_true rfl) (Nat.le_of_ble_eq_true rfl) dX6_mean_75
      · have hF := g_f c10 hF
        refine lv_aload_n hx hb dX6_mean_27 rfl (lv_at hl 0 rfl) ?_
        obtain ⟨q15, hq16, hF⟩ := g_bind hF
        refine g_get hx hb hts hiX6 hown hK hP 6 rfl (by decide) h6 1 (by decide) (hts (.fieldLink RX6 21 "CourierBees" "now" "LCourierBees$Flight;") (by decide +kernel)) (fun _ h9 => h9) ((gFv_r (by decide)).trans (congrArg va_rf hq16)) dX6_mean_28 ?_
        obtain ⟨h17, hF⟩ := g_if hF
        obtain ⟨q18, hq19, hF⟩ := g_bind hF
        refine g_get hx hb hts hiX1 hown hK hP 1 rfl (by decide) h17 2 (by decide) (hts (.fieldLink RX6 149 "CourierBees$Flight" "letters" "[LCourierBees$Letter;") (by decide +kernel)) (fun _ h9 => h9) ((gFv_r (by decide)).trans (congrArg va_rf hq19)) dX6_mean_31 ?_
        refine lv_iload_n hx hb dX6_mean_34 rfl (lv_at hl 2 rfl) ?_
        obtain ⟨h20, hF⟩ := g_if hF
        obtain ⟨h21, hF⟩ := g_if hF
        obtain ⟨q22, hq23, hF⟩ := g_bind hF
        refine g_aald hx hb hP (g_pr h20) (by decide) h21 hq23 dX6_mean_35 ?_
        obtain ⟨h25, hF⟩ := g_if hF
        obtain ⟨v27, g26, h24, hF⟩ := g_bind2 hF
        refine g_calli (va_runV (As := []) (rest := []) ⟨hx, hb, hml, hown, hts⟩ (k3_hasArrived l D base g q22 v27 g26 h24) (cwV 0 hts gX6_mean_X3_hasArrived rfl rfl rfl (by decide +kernel) ⟨Nat.le_of_ble_eq_true rfl, Nat.le_of_ble_eq_true rfl⟩) (gC.preV hE hP hS 3 rfl (by decide) h25 []) rfl rfl hl.1 rfl (lv_room (Nat.le_of_ble_eq_true rfl)) dX6_mean_36 ⟨(Nat.le_of_ble_eq_true rfl), (Nat.le_of_ble_eq_true rfl)⟩) hS (fun H locs hP hS => ?_)
        refine lv_if_eq (tgt := 58) hx hb dX6_mean_39 (by decide) (fun c28 => ?_) (fun c28 => ?_)
        · have hF := g_t c28 hF
          exact HB58 _ _ _ _ _ _ _ hF hP hS (lv_sub hl [0, 1, 2] rfl)
        · have hF := g_f c28 hF
          refine lv_lload_n hx hb dX6_mean_42 rfl (lv_at hl 1 rfl) ?_
          refine lv_aload_n hx hb dX6_mean_43 rfl (lv_at hl 0 rfl) ?_
          obtain ⟨h29, hF⟩ := g_if hF
          obtain ⟨q30, hq31, hF⟩ := g_bind hF
          refine g_get hx hb hts hiX6 hown hK hP 6 rfl (by decide) h29 1 (by decide) (hts (.fieldLink RX6 21 "CourierBees" "now" "LCourierBees$Flight;") (by decide +kernel)) (fun _ h9 => h9) ((gFv_r (by decide)).trans (congrArg va_rf hq31)) dX6_mean_44 ?_
          obtain ⟨h32, hF⟩ := g_if hF
          obtain ⟨q33, hq34, hF⟩ := g_bind hF
          refine g_get hx hb hts hiX1 hown hK hP 1 rfl (by decide) h32 2 (by decide) (hts (.fieldLink RX6 149 "CourierBees$Flight" "letters" "[LCourierBees$Letter;") (by decide +kernel)) (fun _ h9 => h9) ((gFv_r (by decide)).trans (congrArg va_rf hq34)) dX6_mean_47 ?_
          refine lv_iload_n hx hb dX6_mean_50 rfl (lv_at hl 2 rfl) ?_
          obtain ⟨h35, hF⟩ := g_if hF
          obtain ⟨h36, hF⟩ := g_if hF
          obtain ⟨q37, hq38, hF⟩ := g_bind hF
          refine g_aald hx hb hP (g_pr h35) (by decide) h36 hq38 dX6_mean_51 ?_
          obtain ⟨h39, hF⟩ := g_if hF
          refine g_get hx hb hts hiX3 hown hK hP 3 rfl (by decide) h39 3 (by decide) (hts (.fieldLink RX6 217 "CourierBees$Letter" "arrivedIn" "I") (by decide +kernel)) (fun _ h9 => h9) (gFv_i (Or.inl rfl)) dX6_mean_52 ?_
          refine lv_i2l hx hb dX6_mean_55 rfl ?_
          refine lv_ladd hx hb dX6_mean_56 ?_
          refine lv_lstore_n (lv' := [(1, .long (j1 + (Int32.toInt64 (gI g26 q37 3)))), (0, .ref a0), (3, .int x3)]) hx hb dX6_mean_57 rfl hl (by decide) rfl (fun ls hl => ?_)
          exact HB58 _ _ _ _ _ _ _ hF hP hS (lv_sub hl [1, 0, 2] rfl)
  unfold f6_mean at hF
  refine lv_aload_n hx hb dX6_mean_0 rfl (lv_at hl 0 rfl) ?_
  obtain ⟨h1, hF⟩ := g_if hF
  obtain ⟨q2, hq3, hF⟩ := g_bind hF
  refine g_get hx hb hts hiX6 hown hK hP 6 rfl (by decide) h1 1 (by decide) (hts (.fieldLink RX6 21 "CourierBees" "now" "LCourierBees$Flight;") (by decide +kernel)) (fun _ h9 => h9) ((gFv_r (by decide)).trans (congrArg va_rf hq3)) dX6_mean_1 ?_
  obtain ⟨h4, hF⟩ := g_if hF
  refine g_get hx hb hts hiX1 hown hK hP 1 rfl (by decide) h4 6 (by decide) (hts (.fieldLink RX6 214 "CourierBees$Flight" "arrivals" "I") (by decide +kernel)) (fun _ h9 => h9) (gFv_i (Or.inl rfl)) dX6_mean_4 ?_
  refine lv_if_ne (tgt := 12) hx hb dX6_mean_7 (by decide) (fun c5 => ?_) (fun c5 => ?_)
  · have hF := g_f c5 hF
    refine lv_lconst (v := 0) hx hb dX6_mean_12 (by decide) ?_
    refine lv_lstore_n (lv' := [(1, .long ((0 : Int64))), (0, .ref a0)]) hx hb dX6_mean_13 rfl hl (by decide) rfl (fun ls hl => ?_)
    refine lv_iconst (v := 0) hx hb dX6_mean_14 (by decide) ?_
    refine lv_istore_n (lv' := [(3, .int ((0 : Int32))), (1, .long ((0 : Int64))), (0, .ref a0)]) hx hb dX6_mean_15 rfl hl (by decide) rfl (fun ls hl => ?_)
    exact HL16 300 _ _ _ _ _ _ _ hF hP hS (lv_sub hl [2, 1, 0] rfl)
  · have hF := g_t c5 hF
    refine lv_dconst0 hx hb dX6_mean_10 ?_
    exact g_retD hx hb hr hlocks hF hP hS (Nat.le_of_ble_eq_true rfl) (Nat.le_of_ble_eq_true rfl) dX6_mean_11
set_option maxHeartbeats 4000000 in
set_option maxRecDepth 100000 in
theorem k6_digest (l : Launch) (D : va_G) (base : Nat) (g : g_H) (a0 : Nat) (rr : Int64) (gz : g_H) (hF : f6_digest g a0 = some (rr, gz)) : Met l yX6_digest wsX6_digest ({ frames := 4, cells := 0, slots := 0, locals := 87 } : Room) (va_Pc [.ref a0] (gC base D g)) (gQl base D rr gz) 0 0 (gA base) := by
  refine g_met (cc := cX6_digest) (maxL := 4) (ret := (some .long)) (lst := [(0, .ref a0)]) (by decide) rfl (Nat.le_of_ble_eq_true rfl) rfl ?_
  intro p e s m args below meth c ls hx hb hr hml hown hlocks hname hts hE hP hl
  have hown : s.vm.findClass RX6 = some m.cls := hown
  have hK := hE.1
  have hov := hE.2.2.2.2.2.2.2.1
  have hbz := hE.2.2.2.2.2.2.2.2.2.2.2.2
  have hS : va_S (gA base) s.heap s.heap [] := va_S.rf
  have hiX1 : ∀ w ∈ wsX10, w ∈ wsX6_digest := by decide +kernel
  have hiX6 : ∀ w ∈ wsX60, w ∈ wsX6_digest := by decide +kernel
  have HL75 : ∀ (n75 : Nat), ∀ (g : g_H) (a0 : Nat) (j1 : Int64) (x3 : Int32) (H : Heap) (locs : List Loc) (ls : Array Slot), f6_digest_75 n75 g a0 j1 x3 = some (rr, gz) → gP base D s g H → va_S (gA base) s.heap H locs → lv_has ls 4 [(0, .ref a0), (1, .long j1), (3, .int x3)] → W p l e ({ frames := 4, cells := 0, slots := 0, locals := 87 } : Room) s m args below meth c H locs 0 0 (MQ below (gQl base D rr gz) args s 0 0 (gA base)) (F0 m 75 ls []) := by
    intro n75
    induction n75 with
    | zero => intro g a0 j1 x3 H locs ls hF hP hS hl; exact g_no hF
    | succ n75 ih75 =>
      intro g a0 j1 x3 H locs ls hF hP hS hl
      have hF : f6_digest_75b (f6_digest_75 n75) g a0 j1 x3 = some (rr, gz) := hF
      unfold f6_digest_75b at hF
      refine lv_iload_n hx hb dX6_digest_75 rfl (lv_at hl 2 rfl) ?_
      refine lv_aload_n hx hb dX6_digest_76 rfl (lv_at hl 0 rfl) ?_
      obtain ⟨h14, hF⟩ := g_if hF
      obtain ⟨q15, hq16, hF⟩ := g_bind hF
      refine g_get hx hb hts hiX6 hown hK hP 6 rfl (by decide) h14 1 (by decide) (hts (.fieldLink RX6 21 "CourierBees" "now" "LCourierBees$Flight;") (by decide +kernel)) (fun _ h9 => h9) ((gFv_r (by decide)).trans (congrArg va_rf hq16)) dX6_digest_77 ?_
      obtain ⟨h17, hF⟩ := g_if hF
      refine g_get hx hb hts hiX1 hown hK hP 1 rfl (by decide) h17 4 (by decide) (hts (.fieldLink RX6 144 "CourierBees$Flight" "letterCount" "I") (by decide +kernel)) (fun _ h9 => h9) (gFv_i (Or.inl rfl)) dX6_digest_80 ?_
      refine lv_icmp_ge (tgt := 106) hx hb dX6_digest_83 (by decide) (fun c18 => ?_) (fun c18 => ?_)
      · have hF := g_t c18 hF
        refine lv_lload_n hx hb dX6_digest_106 rfl (lv_at hl 1 rfl) ?_
        exact g_retJ hx hb hr hlocks hF hP hS (Nat.le_of_ble_eq_true rfl) (Nat.le_of_ble_eq_true rfl) dX6_digest_107
      · have hF := g_f c18 hF
        refine lv_aload_n hx hb dX6_digest_86 rfl (lv_at hl 0 rfl) ?_
        obtain ⟨q19, hq20, hF⟩ := g_bind hF
        refine g_get hx hb hts hiX6 hown hK hP 6 rfl (by decide) h14 1 (by decide) (hts (.fieldLink RX6 21 "CourierBees" "now" "LCourierBees$Flight;") (by decide +kernel)) (fun _ h9 => h9) ((gFv_r (by decide)).trans (congrArg va_rf hq20)) dX6_digest_87 ?_
        obtain ⟨h21, hF⟩ := g_if hF
        obtain ⟨q22, hq23, hF⟩ := g_bind hF
        refine g_get hx hb hts hiX1 hown hK hP 1 rfl (by decide) h21 2 (by decide) (hts (.fieldLink RX6 149 "CourierBees$Flight" "letters" "[LCourierBees$Letter;") (by decide +kernel)) (fun _ h9 => h9) ((gFv_r (by decide)).trans (congrArg va_rf hq23)) dX6_digest_90 ?_
        refine lv_iload_n hx hb dX6_digest_93 rfl (lv_at hl 2 rfl) ?_
        obtain ⟨h24, hF⟩ := g_if hF
        obtain ⟨h25, hF⟩ := g_if hF
        obtain ⟨q26, hq27, hF⟩ := g_bind hF
        refine g_aald hx hb hP (g_pr h24) (by decide) h25 hq27 dX6_digest_94 ?_
        refine lv_lload_n hx hb dX6_digest_95 rfl (lv_at hl 1 rfl) ?_
        obtain ⟨h29, hF⟩ := g_if hF
        obtain ⟨v31, g30, h28, hF⟩ := g_bind2 hF
        refine g_calll (va_runV (As := [.long j1]) (rest := []) ⟨hx, hb, hml, hown, hts⟩ (k3_digestFrom l D base g q26 j1 v31 g30 h28) (cwV 1 hts gX6_digest_X3_digestFrom rfl rfl rfl (by decide +kernel) ⟨Nat.le_of_ble_eq_true rfl, Nat.le_of_ble_eq_true rfl⟩) (gC.preV hE hP hS 3 rfl (by decide) h29 [.long j1]) rfl rfl hl.1 rfl (lv_room (Nat.le_of_ble_eq_true rfl)) dX6_digest_96 ⟨(Nat.le_of_ble_eq_true rfl), (Nat.le_of_ble_eq_true rfl)⟩) hS (fun H locs hP hS => ?_)
        refine lv_lstore_n (lv' := [(1, .long v31), (0, .ref a0), (3, .int x3)]) hx hb dX6_digest_99 rfl hl (by decide) rfl (fun ls hl => ?_)
        refine lv_iinc (v := x3 + (1 : Int32)) (lv' := [(3, .int (x3 + (1 : Int32))), (1, .long v31), (0, .ref a0)]) hx hb dX6_digest_100 hl (k := 2) rfl rfl (by decide) rfl (fun ls hl => ?_)
        refine lv_goto (tgt := 75) hx hb dX6_digest_103 (by decide) ?_
        exact ih75 _ _ _ _ _ _ _ hF hP hS (lv_sub hl [2, 1, 0] rfl)
  have HL42 : ∀ (n42 : Nat), ∀ (g : g_H) (a0 : Nat) (j1 : Int64) (x3 : Int32) (H : Heap) (locs : List Loc) (ls : Array Slot), f6_digest_42 n42 g a0 j1 x3 = some (rr, gz) → gP base D s g H → va_S (gA base) s.heap H locs → lv_has ls 4 [(0, .ref a0), (1, .long j1), (3, .int x3)] → W p l e ({ frames := 4, cells := 0, slots := 0, locals := 87 } : Room) s m args below meth c H locs 0 0 (MQ below (gQl base D rr gz) args s 0 0 (gA base)) (F0 m 42 ls []) := by
    intro n42
    induction n42 with
    | zero => intro g a0 j1 x3 H locs ls hF hP hS hl; exact g_no hF
    | succ n42 ih42 =>
      intro g a0 j1 x3 H locs ls hF hP hS hl
      have hF : f6_digest_42b (f6_digest_42 n42) g a0 j1 x3 = some (rr, gz) := hF
      unfold f6_digest_42b at hF
      refine lv_iload_n hx hb dX6_digest_42 rfl (lv_at hl 2 rfl) ?_
      refine lv_aload_n hx hb dX6_digest_43 rfl (lv_at hl 0 rfl) ?_
      obtain ⟨h9, hF⟩ := g_if hF
      obtain ⟨q10, hq11, hF⟩ := g_bind hF
      refine g_get hx hb hts hiX6 hown hK hP 6 rfl (by decide) h9 1 (by decide) (hts (.fieldLink RX6 21 "CourierBees" "now" "LCourierBees$Flight;") (by decide +kernel)) (fun _ h9 => h9) ((gFv_r (by decide)).trans (congrArg va_rf hq11)) dX6_digest_44 ?_
      obtain ⟨h12, hF⟩ := g_if hF
      refine g_get hx hb hts hiX1 hown hK hP 1 rfl (by decide) h12 3 (by decide) (hts (.fieldLink RX6 66 "CourierBees$Flight" "beeCount" "I") (by decide +kernel)) (fun _ h9 => h9) (gFv_i (Or.inl rfl)) dX6_digest_47 ?_
      refine lv_icmp_ge (tgt := 73) hx hb dX6_digest_50 (by decide) (fun c13 => ?_) (fun c13 => ?_)
      · have hF := g_t c13 hF
        refine lv_iconst (v := 0) hx hb dX6_digest_73 (by decide) ?_
        refine lv_istore_n (lv' := [(3, .int ((0 : Int32))), (0, .ref a0), (1, .long j1)]) hx hb dX6_digest_74 rfl hl (by decide) rfl (fun ls hl => ?_)
        exact HL75 300 _ _ _ _ _ _ _ hF hP hS (lv_sub hl [1, 2, 0] rfl)
      · have hF := g_f c13 hF
        refine lv_aload_n hx hb dX6_digest_53 rfl (lv_at hl 0 rfl) ?_
        obtain ⟨q32, hq33, hF⟩ := g_bind hF
        refine g_get hx hb hts hiX6 hown hK hP 6 rfl (by decide) h9 1 (by decide) (hts (.fieldLink RX6 21 "CourierBees" "now" "LCourierBees$Flight;") (by decide +kernel)) (fun _ h9 => h9) ((gFv_r (by decide)).trans (congrArg va_rf hq33)) dX6_digest_54 ?_
        obtain ⟨h34, hF⟩ := g_if hF
        obtain ⟨q35, hq36, hF⟩ := g_bind hF
        refine g_get hx hb hts hiX1 hown hK hP 1 rfl (by decide) h34 1 (by decide) (hts (.fieldLink RX6 106 "CourierBees$Flight" "bees" "[LCourierBees$Bee;") (by decide +kernel)) (fun _ h9 => h9) ((gFv_r (by decide)).trans (congrArg va_rf hq36)) dX6_digest_57 ?_
        refine lv_iload_n hx hb dX6_digest_60 rfl (lv_at hl 2 rfl) ?_
        obtain ⟨h37, hF⟩ := g_if hF
        obtain ⟨h38, hF⟩ := g_if hF
        obtain ⟨q39, hq40, hF⟩ := g_bind hF
        refine g_aald hx hb hP (g_pr h37) (by decide) h38 hq40 dX6_digest_61 ?_
        refine lv_lload_n hx hb dX6_digest_62 rfl (lv_at hl 1 rfl) ?_
        obtain ⟨h42, hF⟩ := g_if hF
        obtain ⟨v44, g43, h41, hF⟩ := g_bind2 hF
        refine g_calll (va_runV (As := [.long j1]) (rest := []) ⟨hx, hb, hml, hown, hts⟩ (k0_digestFrom l D base g q39 j1 v44 g43 h41) (cwV 1 hts gX6_digest_X0_digestFrom rfl rfl rfl (by decide +kernel) ⟨Nat.le_of_ble_eq_true rfl, Nat.le_of_ble_eq_true rfl⟩) (gC.preV hE hP hS 0 rfl (by decide) h42 [.long j1]) rfl rfl hl.1 rfl (lv_room (Nat.le_of_ble_eq_true rfl)) dX6_digest_63 ⟨(Nat.le_of_ble_eq_true rfl), (Nat.le_of_ble_eq_true rfl)⟩) hS (fun H locs hP hS => ?_)
        refine lv_lstore_n (lv' := [(1, .long v44), (0, .ref a0), (3, .int x3)]) hx hb dX6_digest_66 rfl hl (by decide) rfl (fun ls hl => ?_)
        refine lv_iinc (v := x3 + (1 : Int32)) (lv' := [(3, .int (x3 + (1 : Int32))), (1, .long v44), (0, .ref a0)]) hx hb dX6_digest_67 hl (k := 2) rfl rfl (by decide) rfl (fun ls hl => ?_)
        refine lv_goto (tgt := 42) hx hb dX6_digest_70 (by decide) ?_
        exact ih42 _ _ _ _ _ _ _ hF hP hS (lv_sub hl [2, 1, 0] rfl)
  have HL6 : ∀ (n6 : Nat), ∀ (g : g_H) (a0 : Nat) (j1 : Int64) (x3 : Int32) (H : Heap) (locs : List Loc) (ls : Array Slot), f6_digest_6 n6 g a0 j1 x3 = some (rr, gz) → gP base D s g H → va_S (gA base) s.heap H locs → lv_has ls 4 [(0, .ref a0), (1, .long j1), (3, .int x3)] → W p l e ({ frames := 4, cells := 0, slots := 0, locals := 87 } : Room) s m args below meth c H locs 0 0 (MQ below (gQl base D rr gz) args s 0 0 (gA base)) (F0 m 6 ls []) := by
    intro n6
    induction n6 with
    | zero => intro g a0 j1 x3 H locs ls hF hP hS hl; exact g_no hF
    | succ n6 ih6 =>
      intro g a0 j1 x3 H locs ls hF hP hS hl
      have hF : f6_digest_6b (f6_digest_6 n6) g a0 j1 x3 = some (rr, gz) := hF
      unfold f6_digest_6b at hF
      refine lv_iload_n hx hb dX6_digest_6 rfl (lv_at hl 2 rfl) ?_
      refine lv_bipush (v := 9) hx hb dX6_digest_7 (by decide) ?_
      refine lv_icmp_ge (tgt := 31) hx hb dX6_digest_9 (by decide) (fun c1 => ?_) (fun c1 => ?_)
      · have hF := g_t c1 hF
        refine lv_aload_n hx hb dX6_digest_31 rfl (lv_at hl 0 rfl) ?_
        obtain ⟨h2, hF⟩ := g_if hF
        obtain ⟨q3, hq4, hF⟩ := g_bind hF
        refine g_get hx hb hts hiX6 hown hK hP 6 rfl (by decide) h2 0 (by decide) (hts (.fieldLink RX6 10 "CourierBees" "town" "LCourierBees$Town;") (by decide +kernel)) (fun _ h9 => h9) ((gFv_r (by decide)).trans (congrArg va_rf hq4)) dX6_digest_32 ?_
        refine lv_lload_n hx hb dX6_digest_35 rfl (lv_at hl 1 rfl) ?_
        obtain ⟨h6, hF⟩ := g_if hF
        obtain ⟨v8, g7, h5, hF⟩ := g_bind2 hF
        refine g_calll (va_runV (As := [.long j1]) (rest := []) ⟨hx, hb, hml, hown, hts⟩ (k5_digestFrom l D base g q3 j1 v8 g7 h5) (cwV 1 hts gX6_digest_X5_digestFrom rfl rfl rfl (by decide +kernel) ⟨Nat.le_of_ble_eq_true rfl, Nat.le_of_ble_eq_true rfl⟩) (gC.preV hE hP hS 5 rfl (by decide) h6 [.long j1]) rfl rfl hl.1 rfl (lv_room (Nat.le_of_ble_eq_true rfl)) dX6_digest_36 ⟨(Nat.le_of_ble_eq_true rfl), (Nat.le_of_ble_eq_true rfl)⟩) hS (fun H locs hP hS => ?_)
        refine lv_lstore_n (lv' := [(1, .long v8), (0, .ref a0), (3, .int x3)]) hx hb dX6_digest_39 rfl hl (by decide) rfl (fun ls hl => ?_)
        refine lv_iconst (v := 0) hx hb dX6_digest_40 (by decide) ?_
        refine lv_istore_n (lv' := [(3, .int ((0 : Int32))), (1, .long v8), (0, .ref a0)]) hx hb dX6_digest_41 rfl hl (by decide) rfl (fun ls hl => ?_)
        exact HL42 300 _ _ _ _ _ _ _ hF hP hS (lv_sub hl [2, 1, 0] rfl)
      · have hF := g_f c1 hF
        refine lv_lload_n hx hb dX6_digest_12 rfl (lv_at hl 1 rfl) ?_
        refine lv_ldc2 (v := 31) hx hb hown (hts (.constantLong RX6 222 (31)) (by decide +kernel)) dX6_digest_13 ?_
        refine lv_lmul hx hb dX6_digest_16 ?_
        refine lv_aload_n hx hb dX6_digest_17 rfl (lv_at hl 0 rfl) ?_
        refine lv_iload_n hx hb dX6_digest_18 rfl (lv_at hl 2 rfl) ?_
        obtain ⟨h46, hF⟩ := g_if hF
        obtain ⟨v48, g47, h45, hF⟩ := g_bind2 hF
        refine g_calli (va_runV (As := [.int x3]) (rest := [.long (j1 * ((31 : Int64)))]) ⟨hx, hb, hml, hown, hts⟩ (k6_tellCount l D base g a0 x3 v48 g47 h45) (cwV 1 hts gX6_digest_X6_tellCount rfl rfl rfl (by decide +kernel) ⟨Nat.le_of_ble_eq_true rfl, Nat.le_of_ble_eq_true rfl⟩) (gC.preV hE hP hS 6 rfl (by decide) h46 [.int x3]) rfl rfl hl.1 rfl (lv_room (Nat.le_of_ble_eq_true rfl)) dX6_digest_19 ⟨(Nat.le_of_ble_eq_true rfl), (Nat.le_of_ble_eq_true rfl)⟩) hS (fun H locs hP hS => ?_)
        refine lv_i2l hx hb dX6_digest_22 rfl ?_
        refine lv_ladd hx hb dX6_digest_23 ?_
        refine lv_lstore_n (lv' := [(1, .long ((j1 * ((31 : Int64))) + (Int32.toInt64 v48))), (0, .ref a0), (3, .int x3)]) hx hb dX6_digest_24 rfl hl (by decide) rfl (fun ls hl => ?_)
        refine lv_iinc (v := x3 + (1 : Int32)) (lv' := [(3, .int (x3 + (1 : Int32))), (1, .long ((j1 * ((31 : Int64))) + (Int32.toInt64 v48))), (0, .ref a0)]) hx hb dX6_digest_25 hl (k := 2) rfl rfl (by decide) rfl (fun ls hl => ?_)
        refine lv_goto (tgt := 6) hx hb dX6_digest_28 (by decide) ?_
        exact ih6 _ _ _ _ _ _ _ hF hP hS (lv_sub hl [2, 1, 0] rfl)
  unfold f6_digest at hF
  refine lv_ldc2 (v := 811) hx hb hown (hts (.constantLong RX6 220 (811)) (by decide +kernel)) dX6_digest_0 ?_
  refine lv_lstore_n (lv' := [(1, .long ((811 : Int64))), (0, .ref a0)]) hx hb dX6_digest_3 rfl hl (by decide) rfl (fun ls hl => ?_)
  refine lv_iconst (v := 0) hx hb dX6_digest_4 (by decide) ?_
  refine lv_istore_n (lv' := [(3, .int ((0 : Int32))), (1, .long ((811 : Int64))), (0, .ref a0)]) hx hb dX6_digest_5 rfl hl (by decide) rfl (fun ls hl => ?_)
  exact HL6 300 _ _ _ _ _ _ _ hF hP hS (lv_sub hl [2, 1, 0] rfl)
end
