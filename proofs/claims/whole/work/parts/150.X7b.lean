set_option maxHeartbeats 4000000 in
set_option maxRecDepth 100000 in
theorem k7_setGate (l : Launch) (D : va_G) (base : Nat) (g : g_H) (a0 : Nat) (x1 : Int32) (x2 : Int32) (x3 : Int32) (rr : Int32) (gz : g_H) (hF : f7_setGate g a0 x1 x2 x3 = some (rr, gz)) : Met l yX7_setGate wsX7_setGate ({ frames := 2, cells := 0, slots := 0, locals := 43 } : Room) (va_Pc [.ref a0, .int x1, .int x2, .int x3] (gC base D g)) (gQi base D rr gz) 0 0 (gA base) := by
  refine g_met (cc := cX7_setGate) (maxL := 5) (ret := (some .int)) (lst := [(0, .ref a0), (1, .int x1), (2, .int x2), (3, .int x3)]) (by decide) rfl (Nat.le_of_ble_eq_true rfl) rfl ?_
  intro p e s m args below meth c ls hx hb hr hml hown hlocks hname hts hE hP hl
  have hown : s.vm.findClass RX7 = some m.cls := hown
  have hK := hE.1
  have hov := hE.2.2.2.2.2.2.2.1
  have hbz := hE.2.2.2.2.2.2.2.2.2.2.2.2
  have hS : va_S (gA base) s.heap s.heap [] := va_S.rf
  have hiX7 : ∀ w ∈ wsX70, w ∈ wsX7_setGate := by decide +kernel
  have HB39 : ∀ (g : g_H) (a0 : Nat) (H : Heap) (locs : List Loc) (ls : Array Slot), f7_setGate_39 g a0 = some (rr, gz) → gP base D s g H → va_S (gA base) s.heap H locs → lv_has ls 5 [(0, .ref a0)] → W p l e ({ frames := 2, cells := 0, slots := 0, locals := 43 } : Room) s m args below meth c H locs 0 0 (MQ below (gQi base D rr gz) args s 0 0 (gA base)) (F0 m 39 ls []) := by
    intro g a0 H locs ls hF hP hS hl
    unfold f7_setGate_39 at hF
    refine lv_aload_n hx hb dX7_setGate_39 rfl (lv_at hl 0 rfl) ?_
    refine lv_iconst (v := 2) hx hb dX7_setGate_40 (by decide) ?_
    obtain ⟨h11, hF⟩ := g_if hF
    obtain ⟨v13, g12, h10, hF⟩ := g_bind2 hF
    refine g_calli (va_runV (As := [.int ((2 : Int32))]) (rest := []) ⟨hx, hb, hml, hown, hts⟩ (k7_fail l D base g a0 ((2 : Int32)) v13 g12 h10) (cwV 1 hts gX7_setGate_X7_fail rfl rfl rfl (by decide +kernel) ⟨Nat.le_of_ble_eq_true rfl, Nat.le_of_ble_eq_true rfl⟩) (gC.preV hE hP hS 7 rfl (by decide) h11 [.int ((2 : Int32))]) rfl rfl hl.1 rfl (lv_room (Nat.le_of_ble_eq_true rfl)) dX7_setGate_41 ⟨(Nat.le_of_ble_eq_true rfl), (Nat.le_of_ble_eq_true rfl)⟩) hS (fun H locs hP hS => ?_)
    exact g_retI hx hb hr hlocks hF hP hS (Nat.le_of_ble_eq_true rfl) (Nat.le_of_ble_eq_true rfl) dX7_setGate_44
  unfold f7_setGate at hF
  refine lv_aload_n hx hb dX7_setGate_0 rfl (lv_at hl 0 rfl) ?_
  refine lv_iconst (v := 0) hx hb dX7_setGate_1 (by decide) ?_
  obtain ⟨h1, hF⟩ := g_if hF
  refine g_puti hx hb hts hiX7 tyX7 tyX7_ok nmX7 hown hK hP hS 7 rfl (by decide) h1 0 (by decide) (hts (.fieldLink RX7 35 "CourierBeesModel" "thrown" "I") (by decide +kernel)) (fun _ h9 => h9) (Or.inl rfl) (Or.inl rfl) rfl rfl dX7_setGate_2 (fun H locs hP hS => ?_)
  refine lv_aload_n hx hb dX7_setGate_5 rfl (lv_at hl 0 rfl) ?_
  refine lv_iload_n hx hb dX7_setGate_6 rfl (lv_at hl 1 rfl) ?_
  obtain ⟨v4, g3, h2, hF⟩ := g_bind2 hF
  refine g_calli (va_runV (As := [.int x1]) (rest := []) ⟨hx, hb, hml, hown, hts⟩ (k7_isLane l D base (gPI g a0 0 ((0 : Int32))) a0 x1 v4 g3 h2) (cwV 1 hts gX7_setGate_X7_isLane rfl rfl rfl (by decide +kernel) ⟨Nat.le_of_ble_eq_true rfl, Nat.le_of_ble_eq_true rfl⟩) (gC.preV hE hP hS 7 rfl (by decide) h1 [.int x1]) rfl rfl hl.1 rfl (lv_room (Nat.le_of_ble_eq_true rfl)) dX7_setGate_7 ⟨(Nat.le_of_ble_eq_true rfl), (Nat.le_of_ble_eq_true rfl)⟩) hS (fun H locs hP hS => ?_)
  refine lv_if_ne (tgt := 19) hx hb dX7_setGate_10 (by decide) (fun c5 => ?_) (fun c5 => ?_)
  · have hF := g_f c5 hF
    refine lv_iload_n hx hb dX7_setGate_19 rfl (lv_at hl 2 rfl) ?_
    refine lv_iconst (v := 0) hx hb dX7_setGate_20 (by decide) ?_
    refine lv_bipush (v := 23) hx hb dX7_setGate_21 (by decide) ?_
    obtain ⟨v8, g7, h6, hF⟩ := g_bind2 hF
    refine g_calli (va_runS (As := [.int x2, .int ((0 : Int32)), .int ((23 : Int32))]) (rest := []) ⟨hx, hb, hml, hown, hts⟩ (k7_isIn l D base g3 x2 ((0 : Int32)) ((23 : Int32)) v8 g7 h6) (va_cwS 3 hts gX7_setGate_X7_isIn rfl rfl rfl (by decide +kernel) ⟨Nat.le_of_ble_eq_true rfl, Nat.le_of_ble_eq_true rfl⟩) (gC.preS hE hP hS [.int x2, .int ((0 : Int32)), .int ((23 : Int32))]) rfl rfl hl.1 rfl (lv_room (Nat.le_of_ble_eq_true rfl)) dX7_setGate_23 ⟨(Nat.le_of_ble_eq_true rfl), (Nat.le_of_ble_eq_true rfl)⟩) hS (fun H locs hP hS => ?_)
    refine lv_if_eq (tgt := 39) hx hb dX7_setGate_26 (by decide) (fun c9 => ?_) (fun c9 => ?_)
    · have hF := g_t c9 hF
      exact HB39 _ _ _ _ _ hF hP hS (lv_sub hl [0] rfl)
    · have hF := g_f c9 hF
      refine lv_iload_n hx hb dX7_setGate_29 rfl (lv_at hl 3 rfl) ?_
      refine lv_iload_n hx hb dX7_setGate_30 rfl (lv_at hl 2 rfl) ?_
      refine lv_bipush (v := 24) hx hb dX7_setGate_31 (by decide) ?_
      obtain ⟨v16, g15, h14, hF⟩ := g_bind2 hF
      refine g_calli (va_runS (As := [.int x3, .int x2, .int ((24 : Int32))]) (rest := []) ⟨hx, hb, hml, hown, hts⟩ (k7_isIn l D base g7 x3 x2 ((24 : Int32)) v16 g15 h14) (va_cwS 3 hts gX7_setGate_X7_isIn rfl rfl rfl (by decide +kernel) ⟨Nat.le_of_ble_eq_true rfl, Nat.le_of_ble_eq_true rfl⟩) (gC.preS hE hP hS [.int x3, .int x2, .int ((24 : Int32))]) rfl rfl hl.1 rfl (lv_room (Nat.le_of_ble_eq_true rfl)) dX7_setGate_33 ⟨(Nat.le_of_ble_eq_true rfl), (Nat.le_of_ble_eq_true rfl)⟩) hS (fun H locs hP hS => ?_)
      refine lv_if_ne (tgt := 45) hx hb dX7_setGate_36 (by decide) (fun c17 => ?_) (fun c17 => ?_)
      · have hF := g_f c17 hF
        refine lv_bipush (v := 100) hx hb dX7_setGate_45 (by decide) ?_
        refine lv_aload_n hx hb dX7_setGate_47 rfl (lv_at hl 0 rfl) ?_
        refine lv_iload_n hx hb dX7_setGate_48 rfl (lv_at hl 1 rfl) ?_
        refine lv_iconst (v := 3) hx hb dX7_setGate_49 (by decide) ?_
        obtain ⟨h19, hF⟩ := g_if hF
        obtain ⟨v21, g20, h18, hF⟩ := g_bind2 hF
        refine g_calli (va_runV (As := [.int x1, .int ((3 : Int32))]) (rest := [.int ((100 : Int32))]) ⟨hx, hb, hml, hown, hts⟩ (k7_ro l D base g15 a0 x1 ((3 : Int32)) v21 g20 h18) (cwV 2 hts gX7_setGate_X7_ro rfl rfl rfl (by decide +kernel) ⟨Nat.le_of_ble_eq_true rfl, Nat.le_of_ble_eq_true rfl⟩) (gC.preV hE hP hS 7 rfl (by decide) h19 [.int x1, .int ((3 : Int32))]) rfl rfl hl.1 rfl (lv_room (Nat.le_of_ble_eq_true rfl)) dX7_setGate_50 ⟨(Nat.le_of_ble_eq_true rfl), (Nat.le_of_ble_eq_true rfl)⟩) hS (fun H locs hP hS => ?_)
        refine lv_imul hx hb dX7_setGate_53 ?_
        refine lv_aload_n hx hb dX7_setGate_54 rfl (lv_at hl 0 rfl) ?_
        refine lv_iload_n hx hb dX7_setGate_55 rfl (lv_at hl 1 rfl) ?_
        refine lv_iconst (v := 4) hx hb dX7_setGate_56 (by decide) ?_
        obtain ⟨h23, hF⟩ := g_if hF
        obtain ⟨v25, g24, h22, hF⟩ := g_bind2 hF
        refine g_calli (va_runV (As := [.int x1, .int ((4 : Int32))]) (rest := [.int (((100 : Int32)) * v21)]) ⟨hx, hb, hml, hown, hts⟩ (k7_ro l D base g20 a0 x1 ((4 : Int32)) v25 g24 h22) (cwV 2 hts gX7_setGate_X7_ro rfl rfl rfl (by decide +kernel) ⟨Nat.le_of_ble_eq_true rfl, Nat.le_of_ble_eq_true rfl⟩) (gC.preV hE hP hS 7 rfl (by decide) h23 [.int x1, .int ((4 : Int32))]) rfl rfl hl.1 rfl (lv_room (Nat.le_of_ble_eq_true rfl)) dX7_setGate_57 ⟨(Nat.le_of_ble_eq_true rfl), (Nat.le_of_ble_eq_true rfl)⟩) hS (fun H locs hP hS => ?_)
        refine lv_iadd hx hb dX7_setGate_60 ?_
        refine lv_istore (lv' := [(4, .int ((((100 : Int32)) * v21) + v25)), (0, .ref a0), (1, .int x1), (2, .int x2), (3, .int x3)]) hx hb dX7_setGate_61 hl (by decide) rfl (fun ls hl => ?_)
        refine lv_aload_n hx hb dX7_setGate_63 rfl (lv_at hl 1 rfl) ?_
        obtain ⟨h26, hF⟩ := g_if hF
        obtain ⟨q27, hq28, hF⟩ := g_bind hF
        refine g_get hx hb hts hiX7 hown hK hP 7 rfl (by decide) h26 4 (by decide) (hts (.fieldLink RX7 13 "CourierBeesModel" "roads" "[I") (by decide +kernel)) (fun _ h9 => h9) ((gFv_r (by decide)).trans (congrArg va_rf hq28)) dX7_setGate_64 ?_
        refine lv_iconst (v := 5) hx hb dX7_setGate_67 (by decide) ?_
        refine lv_iload_n hx hb dX7_setGate_68 rfl (lv_at hl 2 rfl) ?_
        refine lv_imul hx hb dX7_setGate_69 ?_
        refine lv_iconst (v := 3) hx hb dX7_setGate_70 (by decide) ?_
        refine lv_iadd hx hb dX7_setGate_71 ?_
        refine lv_iload_n hx hb dX7_setGate_72 rfl (lv_at hl 3 rfl) ?_
        obtain ⟨h29, hF⟩ := g_if hF
        obtain ⟨h30, hF⟩ := g_if hF
        refine g_iast hx hb hP hS (g_pr h29) h30 dX7_setGate_73 (fun H locs hP hS => ?_)
        refine lv_aload_n hx hb dX7_setGate_74 rfl (lv_at hl 1 rfl) ?_
        obtain ⟨q31, hq32, hF⟩ := g_bind hF
        refine g_get hx hb hts hiX7 hown hK hP 7 rfl (by decide) h26 4 (by decide) (hts (.fieldLink RX7 13 "CourierBeesModel" "roads" "[I") (by decide +kernel)) (fun _ h9 => h9) ((gFv_r (by decide)).trans (congrArg va_rf hq32)) dX7_setGate_75 ?_
        refine lv_iconst (v := 5) hx hb dX7_setGate_78 (by decide) ?_
        refine lv_iload_n hx hb dX7_setGate_79 rfl (lv_at hl 2 rfl) ?_
        refine lv_imul hx hb dX7_setGate_80 ?_
        refine lv_iconst (v := 4) hx hb dX7_setGate_81 (by decide) ?_
        refine lv_iadd hx hb dX7_setGate_82 ?_
        refine lv_iload_n hx hb dX7_setGate_83 rfl (lv_at hl 4 rfl) ?_
        obtain ⟨h33, hF⟩ := g_if hF
        obtain ⟨h34, hF⟩ := g_if hF
        refine g_iast hx hb hP hS (g_pr h33) h34 dX7_setGate_84 (fun H locs hP hS => ?_)
        refine lv_iload hx hb dX7_setGate_85 (lv_at hl 0 rfl) ?_
        exact g_retI hx hb hr hlocks hF hP hS (Nat.le_of_ble_eq_true rfl) (Nat.le_of_ble_eq_true rfl) dX7_setGate_87
      · have hF := g_t c17 hF
        exact HB39 _ _ _ _ _ hF hP hS (lv_sub hl [0] rfl)
  · have hF := g_t c5 hF
    refine lv_aload_n hx hb dX7_setGate_13 rfl (lv_at hl 0 rfl) ?_
    refine lv_iconst (v := 1) hx hb dX7_setGate_14 (by decide) ?_
    obtain ⟨h36, hF⟩ := g_if hF
    obtain ⟨v38, g37, h35, hF⟩ := g_bind2 hF
    refine g_calli (va_runV (As := [.int ((1 : Int32))]) (rest := []) ⟨hx, hb, hml, hown, hts⟩ (k7_fail l D base g3 a0 ((1 : Int32)) v38 g37 h35) (cwV 1 hts gX7_setGate_X7_fail rfl rfl rfl (by decide +kernel) ⟨Nat.le_of_ble_eq_true rfl, Nat.le_of_ble_eq_true rfl⟩) (gC.preV hE hP hS 7 rfl (by decide) h36 [.int ((1 : Int32))]) rfl rfl hl.1 rfl (lv_room (Nat.le_of_ble_eq_true rfl)) dX7_setGate_15 ⟨(Nat.le_of_ble_eq_true rfl), (Nat.le_of_ble_eq_true rfl)⟩) hS (fun H locs hP hS => ?_)
    exact g_retI hx hb hr hlocks hF hP hS (Nat.le_of_ble_eq_true rfl) (Nat.le_of_ble_eq_true rfl) dX7_setGate_18
set_option maxHeartbeats 4000000 in
set_option maxRecDepth 100000 in
theorem k7_away (l : Launch) (D : va_G) (base : Nat) (g : g_H) (a0 : Nat) (x1 : Int32) (x2 : Int32) (rr : Int32) (gz : g_H) (hF : f7_away g a0 x1 x2 = some (rr, gz)) : Met l yX7_away wsX7_away ({ frames := 1, cells := 0, slots := 0, locals := 24 } : Room) (va_Pc [.ref a0, .int x1, .int x2] (gC base D g)) (gQi base D rr gz) 0 0 (gA base) := by
  refine g_met (cc := cX7_away) (maxL := 3) (ret := (some .int)) (lst := [(0, .ref a0), (1, .int x1), (2, .int x2)]) (by decide) rfl (Nat.le_of_ble_eq_true rfl) rfl ?_
  intro p e s m args below meth c ls hx hb hr hml hown hlocks hname hts hE hP hl
  have hown : s.vm.findClass RX7 = some m.cls := hown
  have hK := hE.1
  have hov := hE.2.2.2.2.2.2.2.1
  have hbz := hE.2.2.2.2.2.2.2.2.2.2.2.2
  have hS : va_S (gA base) s.heap s.heap [] := va_S.rf
  have hiX7 : ∀ w ∈ wsX70, w ∈ wsX7_away := by decide +kernel
  unfold f7_away at hF
  refine lv_sipush (v := 9999) hx hb dX7_away_0 (by decide) ?_
  refine lv_aload_n hx hb dX7_away_3 rfl (lv_at hl 0 rfl) ?_
  obtain ⟨h1, hF⟩ := g_if hF
  obtain ⟨q2, hq3, hF⟩ := g_bind hF
  refine g_get hx hb hts hiX7 hown hK hP 7 rfl (by decide) h1 5 (by decide) (hts (.fieldLink RX7 17 "CourierBeesModel" "ways" "[I") (by decide +kernel)) (fun _ h9 => h9) ((gFv_r (by decide)).trans (congrArg va_rf hq3)) dX7_away_4 ?_
  refine lv_bipush (v := 14) hx hb dX7_away_7 (by decide) ?_
  refine lv_iload_n hx hb dX7_away_9 rfl (lv_at hl 1 rfl) ?_
  refine lv_imul hx hb dX7_away_10 ?_
  refine lv_iload_n hx hb dX7_away_11 rfl (lv_at hl 2 rfl) ?_
  refine lv_iadd hx hb dX7_away_12 ?_
  obtain ⟨h4, hF⟩ := g_if hF
  obtain ⟨h5, hF⟩ := g_if hF
  refine g_iald hx hb hP (g_pr h4) h5 dX7_away_13 ?_
  refine va_mmin hx hb (hml.trans hl.1.symm) hown (hts (.methodLink RX7 70 Lib.Math.min.name) (by decide +kernel)) (hts (.static Lib.Math.min.name) (by decide +kernel)) (hts (.initialized "java/lang/Math") (by decide +kernel)) (hts (.code Lib.Math.min.name Lib.Math.min.code 2 (some .int)) (by decide +kernel)) (Nat.le_of_ble_eq_true rfl) (Nat.le_of_ble_eq_true rfl) (Nat.le_of_ble_eq_true rfl) (Nat.le_of_ble_eq_true rfl) dX7_away_14 ?_
  exact g_retI hx hb hr hlocks hF hP hS (Nat.le_of_ble_eq_true rfl) (Nat.le_of_ble_eq_true rfl) dX7_away_17
set_option maxHeartbeats 4000000 in
set_option maxRecDepth 100000 in
theorem k7_way (l : Launch) (D : va_G) (base : Nat) (g : g_H) (a0 : Nat) (x1 : Int32) (x2 : Int32) (rr : Int32) (gz : g_H) (hF : f7_way g a0 x1 x2 = some (rr, gz)) : Met l yX7_way wsX7_way ({ frames := 2, cells := 0, slots := 0, locals := 46 } : Room) (va_Pc [.ref a0, .int x1, .int x2] (gC base D g)) (gQi base D rr gz) 0 0 (gA base) := by
  refine g_met (cc := cX7_way) (maxL := 3) (ret := (some .int)) (lst := [(0, .ref a0), (1, .int x1), (2, .int x2)]) (by decide) rfl (Nat.le_of_ble_eq_true rfl) rfl ?_
  intro p e s m args below meth c ls hx hb hr hml hown hlocks hname hts hE hP hl
  have hown : s.vm.findClass RX7 = some m.cls := hown
  have hK := hE.1
  have hov := hE.2.2.2.2.2.2.2.1
  have hbz := hE.2.2.2.2.2.2.2.2.2.2.2.2
  have hS : va_S (gA base) s.heap s.heap [] := va_S.rf
  have hiX7 : ∀ w ∈ wsX70, w ∈ wsX7_way := by decide +kernel
  have HB21 : ∀ (g : g_H) (a0 : Nat) (H : Heap) (locs : List Loc) (ls : Array Slot), f7_way_21 g a0 = some (rr, gz) → gP base D s g H → va_S (gA base) s.heap H locs → lv_has ls 3 [(0, .ref a0)] → W p l e ({ frames := 2, cells := 0, slots := 0, locals := 46 } : Room) s m args below meth c H locs 0 0 (MQ below (gQi base D rr gz) args s 0 0 (gA base)) (F0 m 21 ls []) := by
    intro g a0 H locs ls hF hP hS hl
    unfold f7_way_21 at hF
    refine lv_aload_n hx hb dX7_way_21 rfl (lv_at hl 0 rfl) ?_
    refine lv_iconst (v := 1) hx hb dX7_way_22 (by decide) ?_
    obtain ⟨h7, hF⟩ := g_if hF
    obtain ⟨v9, g8, h6, hF⟩ := g_bind2 hF
    refine g_calli (va_runV (As := [.int ((1 : Int32))]) (rest := []) ⟨hx, hb, hml, hown, hts⟩ (k7_fail l D base g a0 ((1 : Int32)) v9 g8 h6) (cwV 1 hts gX7_way_X7_fail rfl rfl rfl (by decide +kernel) ⟨Nat.le_of_ble_eq_true rfl, Nat.le_of_ble_eq_true rfl⟩) (gC.preV hE hP hS 7 rfl (by decide) h7 [.int ((1 : Int32))]) rfl rfl hl.1 rfl (lv_room (Nat.le_of_ble_eq_true rfl)) dX7_way_23 ⟨(Nat.le_of_ble_eq_true rfl), (Nat.le_of_ble_eq_true rfl)⟩) hS (fun H locs hP hS => ?_)
    exact g_retI hx hb hr hlocks hF hP hS (Nat.le_of_ble_eq_true rfl) (Nat.le_of_ble_eq_true rfl) dX7_way_26
  unfold f7_way at hF
  refine lv_aload_n hx hb dX7_way_0 rfl (lv_at hl 0 rfl) ?_
  refine lv_iconst (v := 0) hx hb dX7_way_1 (by decide) ?_
  obtain ⟨h1, hF⟩ := g_if hF
  refine g_puti hx hb hts hiX7 tyX7 tyX7_ok nmX7 hown hK hP hS 7 rfl (by decide) h1 0 (by decide) (hts (.fieldLink RX7 35 "CourierBeesModel" "thrown" "I") (by decide +kernel)) (fun _ h9 => h9) (Or.inl rfl) (Or.inl rfl) rfl rfl dX7_way_2 (fun H locs hP hS => ?_)
  refine lv_aload_n hx hb dX7_way_5 rfl (lv_at hl 0 rfl) ?_
  refine lv_iload_n hx hb dX7_way_6 rfl (lv_at hl 1 rfl) ?_
  obtain ⟨v4, g3, h2, hF⟩ := g_bind2 hF
  refine g_calli (va_runV (As := [.int x1]) (rest := []) ⟨hx, hb, hml, hown, hts⟩ (k7_isHouse l D base (gPI g a0 0 ((0 : Int32))) a0 x1 v4 g3 h2) (cwV 1 hts gX7_way_X7_isHouse rfl rfl rfl (by decide +kernel) ⟨Nat.le_of_ble_eq_true rfl, Nat.le_of_ble_eq_true rfl⟩) (gC.preV hE hP hS 7 rfl (by decide) h1 [.int x1]) rfl rfl hl.1 rfl (lv_room (Nat.le_of_ble_eq_true rfl)) dX7_way_7 ⟨(Nat.le_of_ble_eq_true rfl), (Nat.le_of_ble_eq_true rfl)⟩) hS (fun H locs hP hS => ?_)
  refine lv_if_eq (tgt := 21) hx hb dX7_way_10 (by decide) (fun c5 => ?_) (fun c5 => ?_)
  · have hF := g_t c5 hF
    exact HB21 _ _ _ _ _ hF hP hS (lv_sub hl [0] rfl)
  · have hF := g_f c5 hF
    refine lv_aload_n hx hb dX7_way_13 rfl (lv_at hl 0 rfl) ?_
    refine lv_iload_n hx hb dX7_way_14 rfl (lv_at hl 2 rfl) ?_
    obtain ⟨h11, hF⟩ := g_if hF
    obtain ⟨v13, g12, h10, hF⟩ := g_bind2 hF
    refine g_calli (va_runV (As := [.int x2]) (rest := []) ⟨hx, hb, hml, hown, hts⟩ (k7_isHouse l D base g3 a0 x2 v13 g12 h10) (cwV 1 hts gX7_way_X7_isHouse rfl rfl rfl (by decide +kernel) ⟨Nat.le_of_ble_eq_true rfl, Nat.le_of_ble_eq_true rfl⟩) (gC.preV hE hP hS 7 rfl (by decide) h11 [.int x2]) rfl rfl hl.1 rfl (lv_room (Nat.le_of_ble_eq_true rfl)) dX7_way_15 ⟨(Nat.le_of_ble_eq_true rfl), (Nat.le_of_ble_eq_true rfl)⟩) hS (fun H locs hP hS => ?_)
    refine lv_if_ne (tgt := 27) hx hb dX7_way_18 (by decide) (fun c14 => ?_) (fun c14 => ?_)
    · have hF := g_f c14 hF
      refine lv_aload_n hx hb dX7_way_27 rfl (lv_at hl 0 rfl) ?_
      refine lv_iload_n hx hb dX7_way_28 rfl (lv_at hl 1 rfl) ?_
      refine lv_iload_n hx hb dX7_way_29 rfl (lv_at hl 2 rfl) ?_
      obtain ⟨h16, hF⟩ := g_if hF
      obtain ⟨v18, g17, h15, hF⟩ := g_bind2 hF
      refine g_calli (va_runV (As := [.int x1, .int x2]) (rest := []) ⟨hx, hb, hml, hown, hts⟩ (k7_away l D base g12 a0 x1 x2 v18 g17 h15) (cwV 2 hts gX7_way_X7_away rfl rfl rfl (by decide +kernel) ⟨Nat.le_of_ble_eq_true rfl, Nat.le_of_ble_eq_true rfl⟩) (gC.preV hE hP hS 7 rfl (by decide) h16 [.int x1, .int x2]) rfl rfl hl.1 rfl (lv_room (Nat.le_of_ble_eq_true rfl)) dX7_way_30 ⟨(Nat.le_of_ble_eq_true rfl), (Nat.le_of_ble_eq_true rfl)⟩) hS (fun H locs hP hS => ?_)
      refine lv_sipush (v := 9999) hx hb dX7_way_33 (by decide) ?_
      refine lv_icmp_ne (tgt := 43) hx hb dX7_way_36 (by decide) (fun c19 => ?_) (fun c19 => ?_)
      · have hF := g_f c19 hF
        refine lv_aload_n hx hb dX7_way_43 rfl (lv_at hl 0 rfl) ?_
        refine lv_iload_n hx hb dX7_way_44 rfl (lv_at hl 1 rfl) ?_
        refine lv_iload_n hx hb dX7_way_45 rfl (lv_at hl 2 rfl) ?_
        obtain ⟨h21, hF⟩ := g_if hF
        obtain ⟨v23, g22, h20, hF⟩ := g_bind2 hF
        refine g_calli (va_runV (As := [.int x1, .int x2]) (rest := []) ⟨hx, hb, hml, hown, hts⟩ (k7_away l D base g17 a0 x1 x2 v23 g22 h20) (cwV 2 hts gX7_way_X7_away rfl rfl rfl (by decide +kernel) ⟨Nat.le_of_ble_eq_true rfl, Nat.le_of_ble_eq_true rfl⟩) (gC.preV hE hP hS 7 rfl (by decide) h21 [.int x1, .int x2]) rfl rfl hl.1 rfl (lv_room (Nat.le_of_ble_eq_true rfl)) dX7_way_46 ⟨(Nat.le_of_ble_eq_true rfl), (Nat.le_of_ble_eq_true rfl)⟩) hS (fun H locs hP hS => ?_)
        exact g_retI hx hb hr hlocks hF hP hS (Nat.le_of_ble_eq_true rfl) (Nat.le_of_ble_eq_true rfl) dX7_way_49
      · have hF := g_t c19 hF
        refine lv_iconst (v := (-1)) hx hb dX7_way_39 (by decide) ?_
        refine lv_goto (tgt := 49) hx hb dX7_way_40 (by decide) ?_
        exact g_retI hx hb hr hlocks hF hP hS (Nat.le_of_ble_eq_true rfl) (Nat.le_of_ble_eq_true rfl) dX7_way_49
    · have hF := g_t c14 hF
      exact HB21 _ _ _ _ _ hF hP hS (lv_sub hl [0] rfl)
set_option maxHeartbeats 4000000 in
set_option maxRecDepth 100000 in
theorem k7_lane (l : Launch) (D : va_G) (base : Nat) (g : g_H) (a0 : Nat) (x1 : Int32) (x2 : Int32) (rr : Int32) (gz : g_H) (hF : f7_lane g a0 x1 x2 = some (rr, gz)) : Met l yX7_lane wsX7_lane ({ frames := 1, cells := 0, slots := 0, locals := 22 } : Room) (va_Pc [.ref a0, .int x1, .int x2] (gC base D g)) (gQi base D rr gz) 0 0 (gA base) := by
  refine g_met (cc := cX7_lane) (maxL := 6) (ret := (some .int)) (lst := [(0, .ref a0), (1, .int x1), (2, .int x2)]) (by decide) rfl (Nat.le_of_ble_eq_true rfl) rfl ?_
  intro p e s m args below meth c ls hx hb hr hml hown hlocks hname hts hE hP hl
  have hown : s.vm.findClass RX7 = some m.cls := hown
  have hK := hE.1
  have hov := hE.2.2.2.2.2.2.2.1
  have hbz := hE.2.2.2.2.2.2.2.2.2.2.2.2
  have hS : va_S (gA base) s.heap s.heap [] := va_S.rf
  have hiX7 : ∀ w ∈ wsX70, w ∈ wsX7_lane := by decide +kernel
  have HL5 : ∀ (n5 : Nat), ∀ (g : g_H) (a0 : Nat) (x1 : Int32) (x2 : Int32) (x3 : Int32) (x4 : Int32) (H : Heap) (locs : List Loc) (ls : Array Slot), f7_lane_5 n5 g a0 x1 x2 x3 x4 = some (rr, gz) → gP base D s g H → va_S (gA base) s.heap H locs → lv_has ls 6 [(0, .ref a0), (1, .int x1), (2, .int x2), (3, .int x3), (4, .int x4)] → W p l e ({ frames := 1, cells := 0, slots := 0, locals := 22 } : Room) s m args below meth c H locs 0 0 (MQ below (gQi base D rr gz) args s 0 0 (gA base)) (F0 m 5 ls []) := by
    intro n5
    induction n5 with
    | zero => intro g a0 x1 x2 x3 x4 H locs ls hF hP hS hl; exact g_no hF
    | succ n5 ih5 =>
      have HB94 : ∀ (g : g_H) (a0 : Nat) (x1 : Int32) (x2 : Int32) (x3 : Int32) (x4 : Int32) (H : Heap) (locs : List Loc) (ls : Array Slot), f7_lane_94 (f7_lane_5 n5) g a0 x1 x2 x3 x4 = some (rr, gz) → gP base D s g H → va_S (gA base) s.heap H locs → lv_has ls 6 [(0, .ref a0), (1, .int x1), (2, .int x2), (3, .int x3), (4, .int x4)] → W p l e ({ frames := 1, cells := 0, slots := 0, locals := 22 } : Room) s m args below meth c H locs 0 0 (MQ below (gQi base D rr gz) args s 0 0 (gA base)) (F0 m 94 ls []) := by
        intro g a0 x1 x2 x3 x4 H locs ls hF hP hS hl
        unfold f7_lane_94 at hF
        refine lv_iinc (v := x4 + (1 : Int32)) (lv' := [(4, .int (x4 + (1 : Int32))), (0, .ref a0), (1, .int x1), (2, .int x2), (3, .int x3)]) hx hb dX7_lane_94 hl (k := 4) rfl rfl (by decide) rfl (fun ls hl => ?_)
        refine lv_goto (tgt := 5) hx hb dX7_lane_97 (by decide) ?_
        exact ih5 _ _ _ _ _ _ _ _ _ hF hP hS (lv_sub hl [1, 2, 3, 4, 0] rfl)
      have HB91 : ∀ (g : g_H) (a0 : Nat) (x1 : Int32) (x2 : Int32) (x4 : Int32) (H : Heap) (locs : List Loc) (ls : Array Slot), f7_lane_91 (f7_lane_5 n5) g a0 x1 x2 x4 = some (rr, gz) → gP base D s g H → va_S (gA base) s.heap H locs → lv_has ls 6 [(0, .ref a0), (1, .int x1), (2, .int x2), (4, .int x4)] → W p l e ({ frames := 1, cells := 0, slots := 0, locals := 22 } : Room) s m args below meth c H locs 0 0 (MQ below (gQi base D rr gz) args s 0 0 (gA base)) (F0 m 91 ls []) := by
        intro g a0 x1 x2 x4 H locs ls hF hP hS hl
        unfold f7_lane_91 at hF
        refine lv_iload hx hb dX7_lane_91 (lv_at hl 3 rfl) ?_
        refine lv_istore_n (lv' := [(3, .int x4), (0, .ref a0), (1, .int x1), (2, .int x2), (4, .int x4)]) hx hb dX7_lane_93 rfl hl (by decide) rfl (fun ls hl => ?_)
        exact HB94 _ _ _ _ _ _ _ _ _ hF hP hS (lv_sub hl [1, 2, 3, 0, 4] rfl)
      have HB63 : ∀ (g : g_H) (a0 : Nat) (x1 : Int32) (x2 : Int32) (x3 : Int32) (x4 : Int32) (s0 : Int32) (H : Heap) (locs : List Loc) (ls : Array Slot), f7_lane_63 (f7_lane_5 n5) g a0 x1 x2 x3 x4 s0 = some (rr, gz) → gP base D s g H → va_S (gA base) s.heap H locs → lv_has ls 6 [(0, .ref a0), (1, .int x1), (2, .int x2), (3, .int x3), (4, .int x4)] → W p l e ({ frames := 1, cells := 0, slots := 0, locals := 22 } : Room) s m args below meth c H locs 0 0 (MQ below (gQi base D rr gz) args s 0 0 (gA base)) (F0 m 63 ls [.int s0]) := by
        intro g a0 x1 x2 x3 x4 s0 H locs ls hF hP hS hl
        unfold f7_lane_63 at hF
        refine lv_istore (lv' := [(5, .int s0), (0, .ref a0), (1, .int x1), (2, .int x2), (3, .int x3), (4, .int x4)]) hx hb dX7_lane_63 hl (by decide) rfl (fun ls hl => ?_)
        refine lv_iload hx hb dX7_lane_65 (lv_at hl 0 rfl) ?_
        refine lv_if_eq (tgt := 94) hx hb dX7_lane_67 (by decide) (fun c12 => ?_) (fun c12 => ?_)
        · have hF := g_t c12 hF
          exact HB94 _ _ _ _ _ _ _ _ _ hF hP hS (lv_sub hl [1, 2, 3, 4, 5] rfl)
        · have hF := g_f c12 hF
          refine lv_iload_n hx hb dX7_lane_70 rfl (lv_at hl 4 rfl) ?_
          refine lv_iconst (v := (-1)) hx hb dX7_lane_71 (by decide) ?_
          refine lv_icmp_eq (tgt := 91) hx hb dX7_lane_72 (by decide) (fun c13 => ?_) (fun c13 => ?_)
          · have hF := g_t c13 hF
            exact HB91 _ _ _ _ _ _ _ _ hF hP hS (lv_sub hl [1, 2, 3, 5] rfl)
          · have hF := g_f c13 hF
            refine lv_aload_n hx hb dX7_lane_75 rfl (lv_at hl 1 rfl) ?_
            refine lv_iload hx hb dX7_lane_76 (lv_at hl 5 rfl) ?_
            refine lv_iconst (v := 2) hx hb dX7_lane_78 (by decide) ?_
            obtain ⟨h15, hF⟩ := g_if hF
            obtain ⟨v17, g16, h14, hF⟩ := g_bind2 hF
            refine g_calli (va_runV (As := [.int x4, .int ((2 : Int32))]) (rest := []) ⟨hx, hb, hml, hown, hts⟩ (k7_ro l D base g a0 x4 ((2 : Int32)) v17 g16 h14) (cwV 2 hts gX7_lane_X7_ro rfl rfl rfl (by decide +kernel) ⟨Nat.le_of_ble_eq_true rfl, Nat.le_of_ble_eq_true rfl⟩) (gC.preV hE hP hS 7 rfl (by decide) h15 [.int x4, .int ((2 : Int32))]) rfl rfl hl.1 rfl (lv_room (Nat.le_of_ble_eq_true rfl)) dX7_lane_79 ⟨(Nat.le_of_ble_eq_true rfl), (Nat.le_of_ble_eq_true rfl)⟩) hS (fun H locs hP hS => ?_)
            refine lv_aload_n hx hb dX7_lane_82 rfl (lv_at hl 1 rfl) ?_
            refine lv_iload_n hx hb dX7_lane_83 rfl (lv_at hl 4 rfl) ?_
            refine lv_iconst (v := 2) hx hb dX7_lane_84 (by decide) ?_
            obtain ⟨h19, hF⟩ := g_if hF
            obtain ⟨v21, g20, h18, hF⟩ := g_bind2 hF
            refine g_calli (va_runV (As := [.int x3, .int ((2 : Int32))]) (rest := [.int v17]) ⟨hx, hb, hml, hown, hts⟩ (k7_ro l D base g16 a0 x3 ((2 : Int32)) v21 g20 h18) (cwV 2 hts gX7_lane_X7_ro rfl rfl rfl (by decide +kernel) ⟨Nat.le_of_ble_eq_true rfl, Nat.le_of_ble_eq_true rfl⟩) (gC.preV hE hP hS 7 rfl (by decide) h19 [.int x3, .int ((2 : Int32))]) rfl rfl hl.1 rfl (lv_room (Nat.le_of_ble_eq_true rfl)) dX7_lane_85 ⟨(Nat.le_of_ble_eq_true rfl), (Nat.le_of_ble_eq_true rfl)⟩) hS (fun H locs hP hS => ?_)
            refine lv_icmp_ge (tgt := 94) hx hb dX7_lane_88 (by decide) (fun c22 => ?_) (fun c22 => ?_)
            · have hF := g_t c22 hF
              exact HB94 _ _ _ _ _ _ _ _ _ hF hP hS (lv_sub hl [1, 2, 3, 4, 5] rfl)
            · have hF := g_f c22 hF
              exact HB91 _ _ _ _ _ _ _ _ hF hP hS (lv_sub hl [1, 2, 3, 5] rfl)
      have HB62 : ∀ (g : g_H) (a0 : Nat) (x1 : Int32) (x2 : Int32) (x3 : Int32) (x4 : Int32) (H : Heap) (locs : List Loc) (ls : Array Slot), f7_lane_62 (f7_lane_5 n5) g a0 x1 x2 x3 x4 = some (rr, gz) → gP base D s g H → va_S (gA base) s.heap H locs → lv_has ls 6 [(0, .ref a0), (1, .int x1), (2, .int x2), (3, .int x3), (4, .int x4)] → W p l e ({ frames := 1, cells := 0, slots := 0, locals := 22 } : Room) s m args below meth c H locs 0 0 (MQ below (gQi base D rr gz) args s 0 0 (gA base)) (F0 m 62 ls []) := by
        intro g a0 x1 x2 x3 x4 H locs ls hF hP hS hl
        unfold f7_lane_62 at hF
        refine lv_iconst (v := 0) hx hb dX7_lane_62 (by decide) ?_
        exact HB63 _ _ _ _ _ _ _ _ _ _ hF hP hS (lv_sub hl [0, 1, 2, 3, 4] rfl)
      have HB58 : ∀ (g : g_H) (a0 : Nat) (x1 : Int32) (x2 : Int32) (x3 : Int32) (x4 : Int32) (H : Heap) (locs : List Loc) (ls : Array Slot), f7_lane_58 (f7_lane_5 n5) g a0 x1 x2 x3 x4 = some (rr, gz) → gP base D s g H → va_S (gA base) s.heap H locs → lv_has ls 6 [(0, .ref a0), (1, .int x1), (2, .int x2), (3, .int x3), (4, .int x4)] → W p l e ({ frames := 1, cells := 0, slots := 0, locals := 22 } : Room) s m args below meth c H locs 0 0 (MQ below (gQi base D rr gz) args s 0 0 (gA base)) (F0 m 58 ls []) := by
        intro g a0 x1 x2 x3 x4 H locs ls hF hP hS hl
        unfold f7_lane_58 at hF
        refine lv_iconst (v := 1) hx hb dX7_lane_58 (by decide) ?_
        refine lv_goto (tgt := 63) hx hb dX7_lane_59 (by decide) ?_
        exact HB63 _ _ _ _ _ _ _ _ _ _ hF hP hS (lv_sub hl [0, 1, 2, 3, 4] rfl)
      have HB36 : ∀ (g : g_H) (a0 : Nat) (x1 : Int32) (x2 : Int32) (x3 : Int32) (x4 : Int32) (H : Heap) (locs : List Loc) (ls : Array Slot), f7_lane_36 (f7_lane_5 n5) g a0 x1 x2 x3 x4 = some (rr, gz) → gP base D s g H → va_S (gA base) s.heap H locs → lv_has ls 6 [(0, .ref a0), (1, .int x1), (2, .int x2), (3, .int x3), (4, .int x4)] → W p l e ({ frames := 1, cells := 0, slots := 0, locals := 22 } : Room) s m args below meth c H locs 0 0 (MQ below (gQi base D rr gz) args s 0 0 (gA base)) (F0 m 36 ls []) := by
        intro g a0 x1 x2 x3 x4 H locs ls hF hP hS hl
        unfold f7_lane_36 at hF
        refine lv_aload_n hx hb dX7_lane_36 rfl (lv_at hl 0 rfl) ?_
        refine lv_iload hx hb dX7_lane_37 (lv_at hl 4 rfl) ?_
        refine lv_iconst (v := 0) hx hb dX7_lane_39 (by decide) ?_
        obtain ⟨h8, hF⟩ := g_if hF
        obtain ⟨v10, g9, h7, hF⟩ := g_bind2 hF
        refine g_calli (va_runV (As := [.int x4, .int ((0 : Int32))]) (rest := []) ⟨hx, hb, hml, hown, hts⟩ (k7_ro l D base g a0 x4 ((0 : Int32)) v10 g9 h7) (cwV 2 hts gX7_lane_X7_ro rfl rfl rfl (by decide +kernel) ⟨Nat.le_of_ble_eq_true rfl, Nat.le_of_ble_eq_true rfl⟩) (gC.preV hE hP hS 7 rfl (by decide) h8 [.int x4, .int ((0 : Int32))]) rfl rfl hl.1 rfl (lv_room (Nat.le_of_ble_eq_true rfl)) dX7_lane_40 ⟨(Nat.le_of_ble_eq_true rfl), (Nat.le_of_ble_eq_true rfl)⟩) hS (fun H locs hP hS => ?_)
        refine lv_iload_n hx hb dX7_lane_43 rfl (lv_at hl 2 rfl) ?_
        refine lv_icmp_ne (tgt := 62) hx hb dX7_lane_44 (by decide) (fun c11 => ?_) (fun c11 => ?_)
        · have hF := g_f c11 hF
          exact HB62 _ _ _ _ _ _ _ _ _ hF hP hS (lv_sub hl [0, 1, 2, 3, 4] rfl)
        · have hF := g_t c11 hF
          refine lv_aload_n hx hb dX7_lane_47 rfl (lv_at hl 0 rfl) ?_
          refine lv_iload hx hb dX7_lane_48 (lv_at hl 4 rfl) ?_
          refine lv_iconst (v := 1) hx hb dX7_lane_50 (by decide) ?_
          obtain ⟨h24, hF⟩ := g_if hF
          obtain ⟨v26, g25, h23, hF⟩ := g_bind2 hF
          refine g_calli (va_runV (As := [.int x4, .int ((1 : Int32))]) (rest := []) ⟨hx, hb, hml, hown, hts⟩ (k7_ro l D base g9 a0 x4 ((1 : Int32)) v26 g25 h23) (cwV 2 hts gX7_lane_X7_ro rfl rfl rfl (by decide +kernel) ⟨Nat.le_of_ble_eq_true rfl, Nat.le_of_ble_eq_true rfl⟩) (gC.preV hE hP hS 7 rfl (by decide) h24 [.int x4, .int ((1 : Int32))]) rfl rfl hl.1 rfl (lv_room (Nat.le_of_ble_eq_true rfl)) dX7_lane_51 ⟨(Nat.le_of_ble_eq_true rfl), (Nat.le_of_ble_eq_true rfl)⟩) hS (fun H locs hP hS => ?_)
          refine lv_iload_n hx hb dX7_lane_54 rfl (lv_at hl 1 rfl) ?_
          refine lv_icmp_ne (tgt := 62) hx hb dX7_lane_55 (by decide) (fun c27 => ?_) (fun c27 => ?_)
          · have hF := g_f c27 hF
            exact HB62 _ _ _ _ _ _ _ _ _ hF hP hS (lv_sub hl [0, 1, 2, 3, 4] rfl)
          · have hF := g_t c27 hF
            exact HB58 _ _ _ _ _ _ _ _ _ hF hP hS (lv_sub hl [0, 1, 2, 3, 4] rfl)
      intro g a0 x1 x2 x3 x4 H locs ls hF hP hS hl
      have hF : f7_lane_5b (f7_lane_5 n5) g a0 x1 x2 x3 x4 = some (rr, gz) := hF
      unfold f7_lane_5b at hF
      refine lv_iload hx hb dX7_lane_5 (lv_at hl 4 rfl) ?_
      refine lv_aload_n hx hb dX7_lane_7 rfl (lv_at hl 0 rfl) ?_
      obtain ⟨h1, hF⟩ := g_if hF
      refine g_get hx hb hts hiX7 hown hK hP 7 rfl (by decide) h1 3 (by decide) (hts (.fieldLink RX7 46 "CourierBeesModel" "lanes" "I") (by decide +kernel)) (fun _ h9 => h9) (gFv_i (Or.inl rfl)) dX7_lane_8 ?_
      refine lv_icmp_ge (tgt := 100) hx hb dX7_lane_11 (by decide) (fun c2 => ?_) (fun c2 => ?_)
      · have hF := g_t c2 hF
        refine lv_iload_n hx hb dX7_lane_100 rfl (lv_at hl 3 rfl) ?_
        exact g_retI hx hb hr hlocks hF hP hS (Nat.le_of_ble_eq_true rfl) (Nat.le_of_ble_eq_true rfl) dX7_lane_101
      · have hF := g_f c2 hF
        refine lv_aload_n hx hb dX7_lane_14 rfl (lv_at hl 0 rfl) ?_
        refine lv_iload hx hb dX7_lane_15 (lv_at hl 4 rfl) ?_
        refine lv_iconst (v := 0) hx hb dX7_lane_17 (by decide) ?_
        obtain ⟨v5, g4, h3, hF⟩ := g_bind2 hF
        refine g_calli (va_runV (As := [.int x4, .int ((0 : Int32))]) (rest := []) ⟨hx, hb, hml, hown, hts⟩ (k7_ro l D base g a0 x4 ((0 : Int32)) v5 g4 h3) (cwV 2 hts gX7_lane_X7_ro rfl rfl rfl (by decide +kernel) ⟨Nat.le_of_ble_eq_true rfl, Nat.le_of_ble_eq_true rfl⟩) (gC.preV hE hP hS 7 rfl (by decide) h1 [.int x4, .int ((0 : Int32))]) rfl rfl hl.1 rfl (lv_room (Nat.le_of_ble_eq_true rfl)) dX7_lane_18 ⟨(Nat.le_of_ble_eq_true rfl), (Nat.le_of_ble_eq_true rfl)⟩) hS (fun H locs hP hS => ?_)
        refine lv_iload_n hx hb dX7_lane_21 rfl (lv_at hl 1 rfl) ?_
        refine lv_icmp_ne (tgt := 36) hx hb dX7_lane_22 (by decide) (fun c6 => ?_) (fun c6 => ?_)
        · have hF := g_f c6 hF
          exact HB36 _ _ _ _ _ _ _ _ _ hF hP hS (lv_sub hl [0, 1, 2, 3, 4] rfl)
        · have hF := g_t c6 hF
          refine lv_aload_n hx hb dX7_lane_25 rfl (lv_at hl 0 rfl) ?_
          refine lv_iload hx hb dX7_lane_26 (lv_at hl 4 rfl) ?_
          refine lv_iconst (v := 1) hx hb dX7_lane_28 (by decide) ?_
          obtain ⟨h29, hF⟩ := g_if hF
          obtain ⟨v31, g30, h28, hF⟩ := g_bind2 hF
          refine g_calli (va_runV (As := [.int x4, .int ((1 : Int32))]) (rest := []) ⟨hx, hb, hml, hown, hts⟩ (k7_ro l D base g4 a0 x4 ((1 : Int32)) v31 g30 h28) (cwV 2 hts gX7_lane_X7_ro rfl rfl rfl (by decide +kernel) ⟨Nat.le_of_ble_eq_true rfl, Nat.le_of_ble_eq_true rfl⟩) (gC.preV hE hP hS 7 rfl (by decide) h29 [.int x4, .int ((1 : Int32))]) rfl rfl hl.1 rfl (lv_room (Nat.le_of_ble_eq_true rfl)) dX7_lane_29 ⟨(Nat.le_of_ble_eq_true rfl), (Nat.le_of_ble_eq_true rfl)⟩) hS (fun H locs hP hS => ?_)
          refine lv_iload_n hx hb dX7_lane_32 rfl (lv_at hl 2 rfl) ?_
          refine lv_icmp_eq (tgt := 58) hx hb dX7_lane_33 (by decide) (fun c32 => ?_) (fun c32 => ?_)
          · have hF := g_t c32 hF
            exact HB58 _ _ _ _ _ _ _ _ _ hF hP hS (lv_sub hl [0, 1, 2, 3, 4] rfl)
          · have hF := g_f c32 hF
            exact HB36 _ _ _ _ _ _ _ _ _ hF hP hS (lv_sub hl [0, 1, 2, 3, 4] rfl)
  unfold f7_lane at hF
  refine lv_iconst (v := (-1)) hx hb dX7_lane_0 (by decide) ?_
  refine lv_istore_n (lv' := [(3, .int ((-1 : Int32))), (0, .ref a0), (1, .int x1), (2, .int x2)]) hx hb dX7_lane_1 rfl hl (by decide) rfl (fun ls hl => ?_)
  refine lv_iconst (v := 0) hx hb dX7_lane_2 (by decide) ?_
  refine lv_istore (lv' := [(4, .int ((0 : Int32))), (3, .int ((-1 : Int32))), (0, .ref a0), (1, .int x1), (2, .int x2)]) hx hb dX7_lane_3 hl (by decide) rfl (fun ls hl => ?_)
  exact HL5 300 _ _ _ _ _ _ _ _ _ hF hP hS (lv_sub hl [2, 3, 4, 1, 0] rfl)
set_option maxHeartbeats 4000000 in
set_option maxRecDepth 100000 in
theorem k7_read (l : Launch) (D : va_G) (base : Nat) (g : g_H) (a0 : Nat) (x1 : Int32) (rr : Int32) (gz : g_H) (hF : f7_read g a0 x1 = some (rr, gz)) : Met l yX7_read wsX7_read ({ frames := 2, cells := 0, slots := 0, locals := 47 } : Room) (va_Pc [.ref a0, .int x1] (gC base D g)) (gQi base D rr gz) 0 0 (gA base) := by
  refine g_met (cc := cX7_read) (maxL := 6) (ret := (some .int)) (lst := [(0, .ref a0), (1, .int x1)]) (by decide) rfl (Nat.le_of_ble_eq_true rfl) rfl ?_
  intro p e s m args below meth c ls hx hb hr hml hown hlocks hname hts hE hP hl
  have hown : s.vm.findClass RX7 = some m.cls := hown
  have hK := hE.1
  have hov := hE.2.2.2.2.2.2.2.1
  have hbz := hE.2.2.2.2.2.2.2.2.2.2.2.2
  have hS : va_S (gA base) s.heap s.heap [] := va_S.rf
  have hiX7 : ∀ w ∈ wsX70, w ∈ wsX7_read := by decide +kernel
  have HL17 : ∀ (n17 : Nat), ∀ (g : g_H) (a0 : Nat) (x1 : Int32) (x2 : Int32) (x3 : Int32) (H : Heap) (locs : List Loc) (ls : Array Slot), f7_read_17 n17 g a0 x1 x2 x3 = some (rr, gz) → gP base D s g H → va_S (gA base) s.heap H locs → lv_has ls 6 [(0, .ref a0), (1, .int x1), (2, .int x2), (3, .int x3)] → W p l e ({ frames := 2, cells := 0, slots := 0, locals := 47 } : Room) s m args below meth c H locs 0 0 (MQ below (gQi base D rr gz) args s 0 0 (gA base)) (F0 m 17 ls []) := by
    intro n17
    induction n17 with
    | zero => intro g a0 x1 x2 x3 H locs ls hF hP hS hl; exact g_no hF
    | succ n17 ih17 =>
      have HB117 : ∀ (g : g_H) (a0 : Nat) (x1 : Int32) (x2 : Int32) (x3 : Int32) (H : Heap) (locs : List Loc) (ls : Array Slot), f7_read_117 (f7_read_17 n17) g a0 x1 x2 x3 = some (rr, gz) → gP base D s g H → va_S (gA base) s.heap H locs → lv_has ls 6 [(0, .ref a0), (1, .int x1), (2, .int x2), (3, .int x3)] → W p l e ({ frames := 2, cells := 0, slots := 0, locals := 47 } : Room) s m args below meth c H locs 0 0 (MQ below (gQi base D rr gz) args s 0 0 (gA base)) (F0 m 117 ls []) := by
        intro g a0 x1 x2 x3 H locs ls hF hP hS hl
        unfold f7_read_117 at hF
        refine lv_iinc (v := x3 + (-4 : Int32)) (lv' := [(3, .int (x3 + (-4 : Int32))), (0, .ref a0), (1, .int x1), (2, .int x2)]) hx hb dX7_read_117 hl (k := 3) rfl rfl (by decide) rfl (fun ls hl => ?_)
        refine lv_goto (tgt := 17) hx hb dX7_read_120 (by decide) ?_
        exact ih17 _ _ _ _ _ _ _ _ hF hP hS (lv_sub hl [1, 2, 3, 0] rfl)
      have HL80 : ∀ (n80 : Nat), ∀ (g : g_H) (a0 : Nat) (x1 : Int32) (x2 : Int32) (x3 : Int32) (x4 : Int32) (x5 : Int32) (H : Heap) (locs : List Loc) (ls : Array Slot), f7_read_80 (f7_read_17 n17) n80 g a0 x1 x2 x3 x4 x5 = some (rr, gz) → gP base D s g H → va_S (gA base) s.heap H locs → lv_has ls 6 [(0, .ref a0), (1, .int x1), (2, .int x2), (3, .int x3), (4, .int x4), (5, .int x5)] → W p l e ({ frames := 2, cells := 0, slots := 0, locals := 47 } : Room) s m args below meth c H locs 0 0 (MQ below (gQi base D rr gz) args s 0 0 (gA base)) (F0 m 80 ls []) := by
        intro n80
        induction n80 with
        | zero => intro g a0 x1 x2 x3 x4 x5 H locs ls hF hP hS hl; exact g_no hF
        | succ n80 ih80 =>
          intro g a0 x1 x2 x3 x4 x5 H locs ls hF hP hS hl
          have hF : f7_read_80b (f7_read_17 n17) (f7_read_80 (f7_read_17 n17) n80) g a0 x1 x2 x3 x4 x5 = some (rr, gz) := hF
          unfold f7_read_80b at hF
          refine lv_iload hx hb dX7_read_80 (lv_at hl 5 rfl) ?_
          refine lv_iload_n hx hb dX7_read_82 rfl (lv_at hl 2 rfl) ?_
          refine lv_icmp_ge (tgt := 106) hx hb dX7_read_83 (by decide) (fun c11 => ?_) (fun c11 => ?_)
          · have hF := g_t c11 hF
            refine lv_aload_n hx hb dX7_read_106 rfl (lv_at hl 0 rfl) ?_
            obtain ⟨h12, hF⟩ := g_if hF
            obtain ⟨q13, hq14, hF⟩ := g_bind hF
            refine g_get hx hb hts hiX7 hown hK hP 7 rfl (by decide) h12 12 (by decide) (hts (.fieldLink RX7 32 "CourierBeesModel" "row" "[I") (by decide +kernel)) (fun _ h9 => h9) ((gFv_r (by decide)).trans (congrArg va_rf hq14)) dX7_read_107 ?_
            refine lv_iload_n hx hb dX7_read_110 rfl (lv_at hl 2 rfl) ?_
            refine lv_iload hx hb dX7_read_111 (lv_at hl 4 rfl) ?_
            obtain ⟨h15, hF⟩ := g_if hF
            obtain ⟨h16, hF⟩ := g_if hF
            refine g_iast hx hb hP hS (g_pr h15) h16 dX7_read_113 (fun H locs hP hS => ?_)
            refine lv_iinc (v := x2 + (1 : Int32)) (lv' := [(2, .int (x2 + (1 : Int32))), (0, .ref a0), (1, .int x1), (3, .int x3), (4, .int x4), (5, .int x5)]) hx hb dX7_read_114 hl (k := 2) rfl rfl (by decide) rfl (fun ls hl => ?_)
            exact HB117 _ _ _ _ _ _ _ _ hF hP hS (lv_sub hl [1, 2, 0, 3] rfl)
          · have hF := g_f c11 hF
            refine lv_aload_n hx hb dX7_read_86 rfl (lv_at hl 0 rfl) ?_
            obtain ⟨h17, hF⟩ := g_if hF
            obtain ⟨q18, hq19, hF⟩ := g_bind hF
            refine g_get hx hb hts hiX7 hown hK hP 7 rfl (by decide) h17 12 (by decide) (hts (.fieldLink RX7 32 "CourierBeesModel" "row" "[I") (by decide +kernel)) (fun _ h9 => h9) ((gFv_r (by decide)).trans (congrArg va_rf hq19)) dX7_read_87 ?_
            refine lv_iload hx hb dX7_read_90 (lv_at hl 5 rfl) ?_
            obtain ⟨h20, hF⟩ := g_if hF
            obtain ⟨h21, hF⟩ := g_if hF
            refine g_iald hx hb hP (g_pr h20) h21 dX7_read_92 ?_
            refine lv_iload hx hb dX7_read_93 (lv_at hl 4 rfl) ?_
            refine lv_icmp_ne (tgt := 100) hx hb dX7_read_95 (by decide) (fun c22 => ?_) (fun c22 => ?_)
            · have hF := g_f c22 hF
              refine lv_iinc (v := x5 + (1 : Int32)) (lv' := [(5, .int (x5 + (1 : Int32))), (0, .ref a0), (1, .int x1), (2, .int x2), (3, .int x3), (4, .int x4)]) hx hb dX7_read_100 hl (k := 5) rfl rfl (by decide) rfl (fun ls hl => ?_)
              refine lv_goto (tgt := 80) hx hb dX7_read_103 (by decide) ?_
              exact ih80 _ _ _ _ _ _ _ _ _ _ hF hP hS (lv_sub hl [1, 2, 3, 4, 5, 0] rfl)
            · have hF := g_t c22 hF
              refine lv_iconst (v := 0) hx hb dX7_read_98 (by decide) ?_
              exact g_retI hx hb hr hlocks hF hP hS (Nat.le_of_ble_eq_true rfl) (Nat.le_of_ble_eq_true rfl) dX7_read_99
      have HB77 : ∀ (g : g_H) (a0 : Nat) (x1 : Int32) (x2 : Int32) (x3 : Int32) (x4 : Int32) (H : Heap) (locs : List Loc) (ls : Array Slot), f7_read_77 (f7_read_17 n17) g a0 x1 x2 x3 x4 = some (rr, gz) → gP base D s g H → va_S (gA base) s.heap H locs → lv_has ls 6 [(0, .ref a0), (1, .int x1), (2, .int x2), (3, .int x3), (4, .int x4)] → W p l e ({ frames := 2, cells := 0, slots := 0, locals := 47 } : Room) s m args below meth c H locs 0 0 (MQ below (gQi base D rr gz) args s 0 0 (gA base)) (F0 m 77 ls []) := by
        intro g a0 x1 x2 x3 x4 H locs ls hF hP hS hl
        unfold f7_read_77 at hF
        refine lv_iconst (v := 0) hx hb dX7_read_77 (by decide) ?_
        refine lv_istore (lv' := [(5, .int ((0 : Int32))), (0, .ref a0), (1, .int x1), (2, .int x2), (3, .int x3), (4, .int x4)]) hx hb dX7_read_78 hl (by decide) rfl (fun ls hl => ?_)
        exact HL80 300 _ _ _ _ _ _ _ _ _ _ hF hP hS (lv_sub hl [1, 2, 3, 4, 5, 0] rfl)
      have HB44 : ∀ (g : g_H) (a0 : Nat) (x1 : Int32) (x2 : Int32) (x3 : Int32) (x4 : Int32) (H : Heap) (locs : List Loc) (ls : Array Slot), f7_read_44 (f7_read_17 n17) g a0 x1 x2 x3 x4 = some (rr, gz) → gP base D s g H → va_S (gA base) s.heap H locs → lv_has ls 6 [(0, .ref a0), (1, .int x1), (2, .int x2), (3, .int x3), (4, .int x4)] → W p l e ({ frames := 2, cells := 0, slots := 0, locals := 47 } : Room) s m args below meth c H locs 0 0 (MQ below (gQi base D rr gz) args s 0 0 (gA base)) (F0 m 44 ls []) := by
        intro g a0 x1 x2 x3 x4 H locs ls hF hP hS hl
        unfold f7_read_44 at hF
        refine lv_aload_n hx hb dX7_read_44 rfl (lv_at hl 0 rfl) ?_
        refine lv_iload hx hb dX7_read_45 (lv_at hl 4 rfl) ?_
        obtain ⟨h6, hF⟩ := g_if hF
        obtain ⟨v8, g7, h5, hF⟩ := g_bind2 hF
        refine g_calli (va_runV (As := [.int x4]) (rest := []) ⟨hx, hb, hml, hown, hts⟩ (k7_isHouse l D base g a0 x4 v8 g7 h5) (cwV 1 hts gX7_read_X7_isHouse rfl rfl rfl (by decide +kernel) ⟨Nat.le_of_ble_eq_true rfl, Nat.le_of_ble_eq_true rfl⟩) (gC.preV hE hP hS 7 rfl (by decide) h6 [.int x4]) rfl rfl hl.1 rfl (lv_room (Nat.le_of_ble_eq_true rfl)) dX7_read_47 ⟨(Nat.le_of_ble_eq_true rfl), (Nat.le_of_ble_eq_true rfl)⟩) hS (fun H locs hP hS => ?_)
        refine lv_if_eq (tgt := 75) hx hb dX7_read_50 (by decide) (fun c9 => ?_) (fun c9 => ?_)
        · have hF := g_t c9 hF
          refine lv_iconst (v := 0) hx hb dX7_read_75 (by decide) ?_
          exact g_retI hx hb hr hlocks hF hP hS (Nat.le_of_ble_eq_true rfl) (Nat.le_of_ble_eq_true rfl) dX7_read_76
        · have hF := g_f c9 hF
          refine lv_iload_n hx hb dX7_read_53 rfl (lv_at hl 2 rfl) ?_
          refine lv_if_le (tgt := 77) hx hb dX7_read_54 (by decide) (fun c10 => ?_) (fun c10 => ?_)
          · have hF := g_t c10 hF
            exact HB77 _ _ _ _ _ _ _ _ _ hF hP hS (lv_sub hl [0, 1, 2, 3, 4] rfl)
          · have hF := g_f c10 hF
            refine lv_aload_n hx hb dX7_read_57 rfl (lv_at hl 0 rfl) ?_
            refine lv_aload_n hx hb dX7_read_58 rfl (lv_at hl 0 rfl) ?_
            obtain ⟨h23, hF⟩ := g_if hF
            obtain ⟨q24, hq25, hF⟩ := g_bind hF
            refine g_get hx hb hts hiX7 hown hK hP 7 rfl (by decide) h23 12 (by decide) (hts (.fieldLink RX7 32 "CourierBeesModel" "row" "[I") (by decide +kernel)) (fun _ h9 => h9) ((gFv_r (by decide)).trans (congrArg va_rf hq25)) dX7_read_59 ?_
            refine lv_iload_n hx hb dX7_read_62 rfl (lv_at hl 2 rfl) ?_
            refine lv_iconst (v := 1) hx hb dX7_read_63 (by decide) ?_
            refine lv_isub hx hb dX7_read_64 ?_
            obtain ⟨h26, hF⟩ := g_if hF
            obtain ⟨h27, hF⟩ := g_if hF
            refine g_iald hx hb hP (g_pr h26) h27 dX7_read_65 ?_
            refine lv_iload hx hb dX7_read_66 (lv_at hl 4 rfl) ?_
            obtain ⟨v30, g29, h28, hF⟩ := g_bind2 hF
            refine g_calli (va_runV (As := [.int (gI g7 q24 (Int32.toNatClampNeg (x2 - ((1 : Int32))))), .int x4]) (rest := []) ⟨hx, hb, hml, hown, hts⟩ (k7_lane l D base g7 a0 (gI g7 q24 (Int32.toNatClampNeg (x2 - ((1 : Int32))))) x4 v30 g29 h28) (cwV 2 hts gX7_read_X7_lane rfl rfl rfl (by decide +kernel) ⟨Nat.le_of_ble_eq_true rfl, Nat.le_of_ble_eq_true rfl⟩) (gC.preV hE hP hS 7 rfl (by decide) h23 [.int (gI g7 q24 (Int32.toNatClampNeg (x2 - ((1 : Int32))))), .int x4]) rfl rfl hl.1 rfl (lv_room (Nat.le_of_ble_eq_true rfl)) dX7_read_68 ⟨(Nat.le_of_ble_eq_true rfl), (Nat.le_of_ble_eq_true rfl)⟩) hS (fun H locs hP hS => ?_)
            refine lv_iconst (v := (-1)) hx hb dX7_read_71 (by decide) ?_
            refine lv_icmp_ne (tgt := 77) hx hb dX7_read_72 (by decide) (fun c31 => ?_) (fun c31 => ?_)
            · have hF := g_f c31 hF
              exact HB77 _ _ _ _ _ _ _ _ _ hF hP hS (lv_sub hl [0, 1, 2, 3, 4] rfl)
            · have hF := g_t c31 hF
              refine lv_iconst (v := 0) hx hb dX7_read_75 (by decide) ?_
              exact g_retI hx hb hr hlocks hF hP hS (Nat.le_of_ble_eq_true rfl) (Nat.le_of_ble_eq_true rfl) dX7_read_76
      intro g a0 x1 x2 x3 H locs ls hF hP hS hl
      have hF : f7_read_17b (f7_read_17 n17) g a0 x1 x2 x3 = some (rr, gz) := hF
      unfold f7_read_17b at hF
      refine lv_iload_n hx hb dX7_read_17 rfl (lv_at hl 3 rfl) ?_
      refine lv_if_lt (tgt := 123) hx hb dX7_read_18 (by decide) (fun c3 => ?_) (fun c3 => ?_)
      · have hF := g_t c3 hF
        refine lv_iload_n hx hb dX7_read_123 rfl (lv_at hl 2 rfl) ?_
        exact g_retI hx hb hr hlocks hF hP hS (Nat.le_of_ble_eq_true rfl) (Nat.le_of_ble_eq_true rfl) dX7_read_124
      · have hF := g_f c3 hF
        refine lv_iload_n hx hb dX7_read_21 rfl (lv_at hl 1 rfl) ?_
        refine lv_iload_n hx hb dX7_read_22 rfl (lv_at hl 3 rfl) ?_
        refine lv_ishr hx hb dX7_read_23 ?_
        refine lv_bipush (v := 15) hx hb dX7_read_24 (by decide) ?_
        refine lv_iand hx hb dX7_read_26 ?_
        refine lv_iconst (v := 1) hx hb dX7_read_27 (by decide) ?_
        refine lv_isub hx hb dX7_read_28 ?_
        refine lv_istore (lv' := [(4, .int (((x1 >>> (x3 &&& 31)) &&& ((15 : Int32))) - ((1 : Int32)))), (0, .ref a0), (1, .int x1), (2, .int x2), (3, .int x3)]) hx hb dX7_read_29 hl (by decide) rfl (fun ls hl => ?_)
        refine lv_iload_n hx hb dX7_read_31 rfl (lv_at hl 3 rfl) ?_
        refine lv_if_ne (tgt := 44) hx hb dX7_read_32 (by decide) (fun c4 => ?_) (fun c4 => ?_)
        · have hF := g_f c4 hF
          exact HB44 _ _ _ _ _ _ _ _ _ hF hP hS (lv_sub hl [1, 2, 3, 4, 0] rfl)
        · have hF := g_t c4 hF
          refine lv_iload_n hx hb dX7_read_35 rfl (lv_at hl 2 rfl) ?_
          refine lv_iload_n hx hb dX7_read_36 rfl (lv_at hl 4 rfl) ?_
          refine lv_ishr hx hb dX7_read_37 ?_
          refine lv_if_ne (tgt := 44) hx hb dX7_read_38 (by decide) (fun c32 => ?_) (fun c32 => ?_)
          · have hF := g_f c32 hF
            exact HB44 _ _ _ _ _ _ _ _ _ hF hP hS (lv_sub hl [1, 2, 3, 4, 0] rfl)
          · have hF := g_t c32 hF
            refine lv_goto (tgt := 117) hx hb dX7_read_41 (by decide) ?_
            exact HB117 _ _ _ _ _ _ _ _ hF hP hS (lv_sub hl [1, 2, 3, 4] rfl)
  unfold f7_read at hF
  refine lv_iconst (v := 0) hx hb dX7_read_0 (by decide) ?_
  refine lv_istore_n (lv' := [(2, .int ((0 : Int32))), (0, .ref a0), (1, .int x1)]) hx hb dX7_read_1 rfl hl (by decide) rfl (fun ls hl => ?_)
  refine lv_iload_n hx hb dX7_read_2 rfl (lv_at hl 2 rfl) ?_
  refine lv_if_le (tgt := 12) hx hb dX7_read_3 (by decide) (fun c1 => ?_) (fun c1 => ?_)
  · have hF := g_t c1 hF
    refine lv_iconst (v := 0) hx hb dX7_read_12 (by decide) ?_
    exact g_retI hx hb hr hlocks hF hP hS (Nat.le_of_ble_eq_true rfl) (Nat.le_of_ble_eq_true rfl) dX7_read_13
  · have hF := g_f c1 hF
    refine lv_iload_n hx hb dX7_read_6 rfl (lv_at hl 2 rfl) ?_
    refine lv_ldc (v := 268435456) hx hb hown (hts (.constant RX7 87 268435456) (by decide +kernel)) dX7_read_7 ?_
    refine lv_icmp_lt (tgt := 14) hx hb dX7_read_9 (by decide) (fun c2 => ?_) (fun c2 => ?_)
    · have hF := g_t c2 hF
      refine lv_bipush (v := 24) hx hb dX7_read_14 (by decide) ?_
      refine lv_istore_n (lv' := [(3, .int ((24 : Int32))), (2, .int ((0 : Int32))), (0, .ref a0), (1, .int x1)]) hx hb dX7_read_16 rfl hl (by decide) rfl (fun ls hl => ?_)
      exact HL17 300 _ _ _ _ _ _ _ _ hF hP hS (lv_sub hl [2, 3, 1, 0] rfl)
    · have hF := g_f c2 hF
      refine lv_iconst (v := 0) hx hb dX7_read_12 (by decide) ?_
      exact g_retI hx hb hr hlocks hF hP hS (Nat.le_of_ble_eq_true rfl) (Nat.le_of_ble_eq_true rfl) dX7_read_13
set_option maxHeartbeats 4000000 in
set_option maxRecDepth 100000 in
theorem k7_addBee (l : Launch) (D : va_G) (base : Nat) (g : g_H) (a0 : Nat) (x1 : Int32) (rr : Int32) (gz : g_H) (hF : f7_addBee g a0 x1 = some (rr, gz)) : Met l yX7_addBee wsX7_addBee ({ frames := 3, cells := 1, slots := 8, locals := 72 } : Room) (va_Pc [.ref a0, .int x1] (gC base D g)) (gQi base D rr gz) 1 8 (gA base) := by
  refine g_met (cc := cX7_addBee) (maxL := 4) (ret := (some .int)) (lst := [(0, .ref a0), (1, .int x1)]) (by decide) rfl (Nat.le_of_ble_eq_true rfl) rfl ?_
  intro p e s m args below meth c ls hx hb hr hml hown hlocks hname hts hE hP hl
  have hown : s.vm.findClass RX7 = some m.cls := hown
  have hK := hE.1
  have hov := hE.2.2.2.2.2.2.2.1
  have hbz := hE.2.2.2.2.2.2.2.2.2.2.2.2
  have hS : va_S (gA base) s.heap s.heap [] := va_S.rf
  have hiX7 : ∀ w ∈ wsX70, w ∈ wsX7_addBee := by decide +kernel
  unfold f7_addBee at hF
  refine lv_aload_n hx hb dX7_addBee_0 rfl (lv_at hl 0 rfl) ?_
  refine lv_iconst (v := 0) hx hb dX7_addBee_1 (by decide) ?_
  obtain ⟨h1, hF⟩ := g_if hF
  refine g_puti hx hb hts hiX7 tyX7 tyX7_ok nmX7 hown hK hP hS 7 rfl (by decide) h1 0 (by decide) (hts (.fieldLink RX7 35 "CourierBeesModel" "thrown" "I") (by decide +kernel)) (fun _ h9 => h9) (Or.inl rfl) (Or.inl rfl) rfl rfl dX7_addBee_2 (fun H locs hP hS => ?_)
  refine lv_aload_n hx hb dX7_addBee_5 rfl (lv_at hl 0 rfl) ?_
  refine lv_iload_n hx hb dX7_addBee_6 rfl (lv_at hl 1 rfl) ?_
  obtain ⟨v4, g3, h2, hF⟩ := g_bind2 hF
  refine g_calli (va_runV (As := [.int x1]) (rest := []) ⟨hx, hb, hml, hown, hts⟩ (k7_read l D base (gPI g a0 0 ((0 : Int32))) a0 x1 v4 g3 h2) (cwV 1 hts gX7_addBee_X7_read rfl rfl rfl (by decide +kernel) ⟨Nat.le_of_ble_eq_true rfl, Nat.le_of_ble_eq_true rfl⟩) (gC.preV hE hP hS 7 rfl (by decide) h1 [.int x1]) rfl rfl hl.1 rfl (lv_room (Nat.le_of_ble_eq_true rfl)) dX7_addBee_7 ⟨(Nat.le_of_ble_eq_true rfl), (Nat.le_of_ble_eq_true rfl)⟩) hS (fun H locs hP hS => ?_)
  refine lv_istore_n (lv' := [(2, .int v4), (0, .ref a0), (1, .int x1)]) hx hb dX7_addBee_10 rfl hl (by decide) rfl (fun ls hl => ?_)
  refine lv_iload_n hx hb dX7_addBee_11 rfl (lv_at hl 0 rfl) ?_
  refine lv_if_ne (tgt := 21) hx hb dX7_addBee_12 (by decide) (fun c5 => ?_) (fun c5 => ?_)
  · have hF := g_f c5 hF
    refine lv_aload_n hx hb dX7_addBee_21 rfl (lv_at hl 1 rfl) ?_
    obtain ⟨h6, hF⟩ := g_if hF
    refine g_get hx hb hts hiX7 hown hK hP 7 rfl (by decide) h6 6 (by decide) (hts (.fieldLink RX7 49 "CourierBeesModel" "bees" "I") (by decide +kernel)) (fun _ h9 => h9) (gFv_i (Or.inl rfl)) dX7_addBee_22 ?_
    refine lv_bipush (v := 6) hx hb dX7_addBee_25 (by decide) ?_
    refine lv_icmp_ne (tgt := 36) hx hb dX7_addBee_27 (by decide) (fun c7 => ?_) (fun c7 => ?_)
    · have hF := g_f c7 hF
      refine lv_bipush (v := 8) hx hb dX7_addBee_36 (by decide) ?_
      obtain ⟨q8, g9, e10, e11, h12, hF⟩ := g_nw hF
      refine g_newa (atype := .int) hx hb (hts (.arrayClass .int) (by decide +kernel)) 11 rfl (by decide) rfl hP hS hbz (n := 8) (N' := 8) (by decide) (by decide) (Nat.le_of_ble_eq_true rfl) (Nat.le_of_ble_eq_true rfl) (Nat.le_of_ble_eq_true rfl) dX7_addBee_38 (fun H hP hS => ?_)
      rw [e11] at hP
      rw [e10]
      refine lv_dup hx hb dX7_addBee_40 rfl ?_
      refine lv_iconst (v := 0) hx hb dX7_addBee_41 (by decide) ?_
      refine lv_iconst (v := 0) hx hb dX7_addBee_42 (by decide) ?_
      obtain ⟨h13, hF⟩ := g_if hF
      refine g_iast hx hb hP hS (g_pr h12) h13 dX7_addBee_43 (fun H locs hP hS => ?_)
      refine lv_dup hx hb dX7_addBee_44 rfl ?_
      refine lv_iconst (v := 1) hx hb dX7_addBee_45 (by decide) ?_
      refine lv_iconst (v := 0) hx hb dX7_addBee_46 (by decide) ?_
      obtain ⟨h14, hF⟩ := g_if hF
      refine g_iast hx hb hP hS (g_pr h12) h14 dX7_addBee_47 (fun H locs hP hS => ?_)
      refine lv_dup hx hb dX7_addBee_48 rfl ?_
      refine lv_iconst (v := 2) hx hb dX7_addBee_49 (by decide) ?_
      refine lv_bipush (v := 30) hx hb dX7_addBee_50 (by decide) ?_
      obtain ⟨h15, hF⟩ := g_if hF
      refine g_iast hx hb hP hS (g_pr h12) h15 dX7_addBee_52 (fun H locs hP hS => ?_)
      refine lv_dup hx hb dX7_addBee_53 rfl ?_
      refine lv_iconst (v := 3) hx hb dX7_addBee_54 (by decide) ?_
      refine lv_bipush (v := 10) hx hb dX7_addBee_55 (by decide) ?_
      obtain ⟨h16, hF⟩ := g_if hF
      refine g_iast hx hb hP hS (g_pr h12) h16 dX7_addBee_57 (fun H locs hP hS => ?_)
      obtain ⟨g17, e18, hF⟩ := g_let hF
      rw [e18] at hP
      have h19 : (gS g17 q8).1 = 11 := by rw [← e18]; exact h12
      refine lv_dup hx hb dX7_addBee_58 rfl ?_
      refine lv_iconst (v := 4) hx hb dX7_addBee_59 (by decide) ?_
      refine lv_iconst (v := 0) hx hb dX7_addBee_60 (by decide) ?_
      obtain ⟨h20, hF⟩ := g_if hF
      refine g_iast hx hb hP hS (g_pr h19) h20 dX7_addBee_61 (fun H locs hP hS => ?_)
      refine lv_dup hx hb dX7_addBee_62 rfl ?_
      refine lv_iconst (v := 5) hx hb dX7_addBee_63 (by decide) ?_
      refine lv_iload_n hx hb dX7_addBee_64 rfl (lv_at hl 0 rfl) ?_
      obtain ⟨h21, hF⟩ := g_if hF
      refine g_iast hx hb hP hS (g_pr h19) h21 dX7_addBee_65 (fun H locs hP hS => ?_)
      refine lv_dup hx hb dX7_addBee_66 rfl ?_
      refine lv_bipush (v := 6) hx hb dX7_addBee_67 (by decide) ?_
      refine lv_iconst (v := 0) hx hb dX7_addBee_69 (by decide) ?_
      obtain ⟨h22, hF⟩ := g_if hF
      refine g_iast hx hb hP hS (g_pr h19) h22 dX7_addBee_70 (fun H locs hP hS => ?_)
      refine lv_dup hx hb dX7_addBee_71 rfl ?_
      refine lv_bipush (v := 7) hx hb dX7_addBee_72 (by decide) ?_
      refine lv_iconst (v := 1) hx hb dX7_addBee_74 (by decide) ?_
      obtain ⟨h23, hF⟩ := g_if hF
      refine g_iast hx hb hP hS (g_pr h19) h23 dX7_addBee_75 (fun H locs hP hS => ?_)
      obtain ⟨g24, e25, hF⟩ := g_let hF
      rw [e25] at hP
      have h26 : (gS g24 q8).1 = 11 := by rw [← e25]; exact h19
      refine lv_astore_n (lv' := [(3, .ref q8), (2, .int v4), (0, .ref a0), (1, .int x1)]) hx hb dX7_addBee_76 rfl hl (by decide) rfl (fun ls hl => ?_)
      refine lv_aload_n hx hb dX7_addBee_77 rfl (lv_at hl 0 rfl) ?_
      refine lv_iconst (v := 0) hx hb dX7_addBee_78 (by decide) ?_
      refine lv_aload_n hx hb dX7_addBee_79 rfl (lv_at hl 2 rfl) ?_
      obtain ⟨h27, hF⟩ := g_if hF
      obtain ⟨q28, hq29, hF⟩ := g_bind hF
      refine g_get hx hb hts hiX7 hown hK hP 7 rfl (by decide) h27 7 (by decide) (hts (.fieldLink RX7 20 "CourierBeesModel" "swarm" "[I") (by decide +kernel)) (fun _ h9 => h9) ((gFv_r (by decide)).trans (congrArg va_rf hq29)) dX7_addBee_80 ?_
      refine lv_bipush (v := 8) hx hb dX7_addBee_83 (by decide) ?_
      refine lv_aload_n hx hb dX7_addBee_85 rfl (lv_at hl 2 rfl) ?_
      refine g_get hx hb hts hiX7 hown hK hP 7 rfl (by decide) h27 6 (by decide) (hts (.fieldLink RX7 49 "CourierBeesModel" "bees" "I") (by decide +kernel)) (fun _ h9 => h9) (gFv_i (Or.inl rfl)) dX7_addBee_86 ?_
      refine lv_imul hx hb dX7_addBee_89 ?_
      refine lv_bipush (v := 8) hx hb dX7_addBee_90 (by decide) ?_
      obtain ⟨h30, hF⟩ := g_if hF
      obtain ⟨h31, hF⟩ := g_if hF
      refine g_copy hx hb (hml.trans hl.1.symm) hown (hts (.methodLink RX7 75 arraycopyName) (by decide +kernel)) (hts (.native arraycopyName) (by decide +kernel)) (hts (.static arraycopyName) (by decide +kernel)) (hts (.initialized "java/lang/System") (by decide +kernel)) hP hS (g_pr h26) (g_pr h30) h31.1 h31.2.1 h31.2.2.1 h31.2.2.2.1 h31.2.2.2.2 (Nat.le_of_ble_eq_true rfl) (by decide) dX7_addBee_92 (fun H locs hP hS => ?_)
      refine lv_aload_n hx hb dX7_addBee_95 rfl (lv_at hl 2 rfl) ?_
      obtain ⟨q32, hq33, hF⟩ := g_bind hF
      refine g_get hx hb hts hiX7 hown hK hP 7 rfl (by decide) h27 12 (by decide) (hts (.fieldLink RX7 32 "CourierBeesModel" "row" "[I") (by decide +kernel)) (fun _ h9 => h9) ((gFv_r (by decide)).trans (congrArg va_rf hq33)) dX7_addBee_96 ?_
      refine lv_iconst (v := 0) hx hb dX7_addBee_99 (by decide) ?_
      refine lv_aload_n hx hb dX7_addBee_100 rfl (lv_at hl 2 rfl) ?_
      obtain ⟨q34, hq35, hF⟩ := g_bind hF
      refine g_get hx hb hts hiX7 hown hK hP 7 rfl (by decide) h27 8 (by decide) (hts (.fieldLink RX7 23 "CourierBeesModel" "routes" "[I") (by decide +kernel)) (fun _ h9 => h9) ((gFv_r (by decide)).trans (congrArg va_rf hq35)) dX7_addBee_101 ?_
      refine lv_bipush (v := 7) hx hb dX7_addBee_104 (by decide) ?_
      refine lv_aload_n hx hb dX7_addBee_106 rfl (lv_at hl 2 rfl) ?_
      refine g_get hx hb hts hiX7 hown hK hP 7 rfl (by decide) h27 6 (by decide) (hts (.fieldLink RX7 49 "CourierBeesModel" "bees" "I") (by decide +kernel)) (fun _ h9 => h9) (gFv_i (Or.inl rfl)) dX7_addBee_107 ?_
      refine lv_imul hx hb dX7_addBee_110 ?_
      refine lv_iload_n hx hb dX7_addBee_111 rfl (lv_at hl 1 rfl) ?_
      obtain ⟨h36, hF⟩ := g_if hF
      obtain ⟨h37, hF⟩ := g_if hF
      obtain ⟨h38, hF⟩ := g_if hF
      refine g_copy hx hb (hml.trans hl.1.symm) hown (hts (.methodLink RX7 75 arraycopyName) (by decide +kernel)) (hts (.native arraycopyName) (by decide +kernel)) (hts (.static arraycopyName) (by decide +kernel)) (hts (.initialized "java/lang/System") (by decide +kernel)) hP hS (g_pr h36) (g_pr h37) h38.1 h38.2.1 h38.2.2.1 h38.2.2.2.1 h38.2.2.2.2 (Nat.le_of_ble_eq_true rfl) (by decide) dX7_addBee_112 (fun H locs hP hS => ?_)
      obtain ⟨g39, e40, hF⟩ := g_let hF
      rw [e40] at hP
      have h41 : (gS g39 q8).1 = 11 := by rw [← e40]; exact h26
      have h42 : (gS g39 a0).1 = 8 := by rw [← e40]; exact h27
      have h43 : (gS g39 q28).1 = 11 := by rw [← e40]; exact h30
      have h44 : (gS g39 q32).1 = 11 := by rw [← e40]; exact h36
      have h45 : (gS g39 q34).1 = 11 := by rw [← e40]; exact h37
      refine lv_aload_n hx hb dX7_addBee_115 rfl (lv_at hl 2 rfl) ?_
      refine lv_dup hx hb dX7_addBee_116 rfl ?_
      refine g_get hx hb hts hiX7 hown hK hP 7 rfl (by decide) h42 6 (by decide) (hts (.fieldLink RX7 49 "CourierBeesModel" "bees" "I") (by decide +kernel)) (fun _ h9 => h9) (gFv_i (Or.inl rfl)) dX7_addBee_117 ?_
      refine lv_iconst (v := 1) hx hb dX7_addBee_120 (by decide) ?_
      refine lv_iadd hx hb dX7_addBee_121 ?_
      obtain ⟨y46, e47, hF⟩ := g_let hF
      rw [e47]
      refine g_puti hx hb hts hiX7 tyX7 tyX7_ok nmX7 hown hK hP hS 7 rfl (by decide) h42 6 (by decide) (hts (.fieldLink RX7 49 "CourierBeesModel" "bees" "I") (by decide +kernel)) (fun _ h9 => h9) (Or.inl rfl) (Or.inl rfl) rfl rfl dX7_addBee_122 (fun H locs hP hS => ?_)
      refine lv_aload_n hx hb dX7_addBee_125 rfl (lv_at hl 2 rfl) ?_
      refine g_get hx hb hts hiX7 hown hK hP 7 rfl (by decide) h42 6 (by decide) (hts (.fieldLink RX7 49 "CourierBeesModel" "bees" "I") (by decide +kernel)) (fun _ h9 => h9) (gFv_i (Or.inl rfl)) dX7_addBee_126 ?_
      refine lv_iconst (v := 1) hx hb dX7_addBee_129 (by decide) ?_
      refine lv_isub hx hb dX7_addBee_130 ?_
      exact g_retI hx hb hr hlocks hF hP hS (Nat.le_of_ble_eq_true rfl) (Nat.le_of_ble_eq_true rfl) dX7_addBee_131
    · have hF := g_t c7 hF
      refine lv_aload_n hx hb dX7_addBee_30 rfl (lv_at hl 1 rfl) ?_
      refine lv_iconst (v := 2) hx hb dX7_addBee_31 (by decide) ?_
      obtain ⟨v50, g49, h48, hF⟩ := g_bind2 hF
      refine g_calli (va_runV (As := [.int ((2 : Int32))]) (rest := []) ⟨hx, hb, hml, hown, hts⟩ (k7_fail l D base g3 a0 ((2 : Int32)) v50 g49 h48) (cwV 1 hts gX7_addBee_X7_fail rfl rfl rfl (by decide +kernel) ⟨Nat.le_of_ble_eq_true rfl, Nat.le_of_ble_eq_true rfl⟩) (gC.preV hE hP hS 7 rfl (by decide) h6 [.int ((2 : Int32))]) rfl rfl hl.1 rfl (lv_room (Nat.le_of_ble_eq_true rfl)) dX7_addBee_32 ⟨(Nat.le_of_ble_eq_true rfl), (Nat.le_of_ble_eq_true rfl)⟩) hS (fun H locs hP hS => ?_)
      exact g_retI hx hb hr hlocks hF hP hS (Nat.le_of_ble_eq_true rfl) (Nat.le_of_ble_eq_true rfl) dX7_addBee_35
  · have hF := g_t c5 hF
    refine lv_aload_n hx hb dX7_addBee_15 rfl (lv_at hl 1 rfl) ?_
    refine lv_iconst (v := 1) hx hb dX7_addBee_16 (by decide) ?_
    obtain ⟨h52, hF⟩ := g_if hF
    obtain ⟨v54, g53, h51, hF⟩ := g_bind2 hF
    refine g_calli (va_runV (As := [.int ((1 : Int32))]) (rest := []) ⟨hx, hb, hml, hown, hts⟩ (k7_fail l D base g3 a0 ((1 : Int32)) v54 g53 h51) (cwV 1 hts gX7_addBee_X7_fail rfl rfl rfl (by decide +kernel) ⟨Nat.le_of_ble_eq_true rfl, Nat.le_of_ble_eq_true rfl⟩) (gC.preV hE hP hS 7 rfl (by decide) h52 [.int ((1 : Int32))]) rfl rfl hl.1 rfl (lv_room (Nat.le_of_ble_eq_true rfl)) dX7_addBee_17 ⟨(Nat.le_of_ble_eq_true rfl), (Nat.le_of_ble_eq_true rfl)⟩) hS (fun H locs hP hS => ?_)
    exact g_retI hx hb hr hlocks hF hP hS (Nat.le_of_ble_eq_true rfl) (Nat.le_of_ble_eq_true rfl) dX7_addBee_20
set_option maxHeartbeats 4000000 in
set_option maxRecDepth 100000 in
theorem k7_house (l : Launch) (D : va_G) (base : Nat) (g : g_H) (a0 : Nat) (x1 : Int32) (rr : Int32) (gz : g_H) (hF : f7_house g a0 x1 = some (rr, gz)) : Met l yX7_house wsX7_house ({ frames := 1, cells := 0, slots := 0, locals := 22 } : Room) (va_Pc [.ref a0, .int x1] (gC base D g)) (gQi base D rr gz) 0 0 (gA base) := by
  refine g_met (cc := cX7_house) (maxL := 2) (ret := (some .int)) (lst := [(0, .ref a0), (1, .int x1)]) (by decide) rfl (Nat.le_of_ble_eq_true rfl) rfl ?_
  intro p e s m args below meth c ls hx hb hr hml hown hlocks hname hts hE hP hl
  have hown : s.vm.findClass RX7 = some m.cls := hown
  have hK := hE.1
  have hov := hE.2.2.2.2.2.2.2.1
  have hbz := hE.2.2.2.2.2.2.2.2.2.2.2.2
  have hS : va_S (gA base) s.heap s.heap [] := va_S.rf
  have hiX7 : ∀ w ∈ wsX70, w ∈ wsX7_house := by decide +kernel
  unfold f7_house at hF
  refine lv_aload_n hx hb dX7_house_0 rfl (lv_at hl 0 rfl) ?_
  obtain ⟨h1, hF⟩ := g_if hF
  obtain ⟨q2, hq3, hF⟩ := g_bind hF
  refine g_get hx hb hts hiX7 hown hK hP 7 rfl (by decide) h1 8 (by decide) (hts (.fieldLink RX7 23 "CourierBeesModel" "routes" "[I") (by decide +kernel)) (fun _ h9 => h9) ((gFv_r (by decide)).trans (congrArg va_rf hq3)) dX7_house_1 ?_
  refine lv_bipush (v := 7) hx hb dX7_house_4 (by decide) ?_
  refine lv_iload_n hx hb dX7_house_6 rfl (lv_at hl 1 rfl) ?_
  refine lv_imul hx hb dX7_house_7 ?_
  refine lv_aload_n hx hb dX7_house_8 rfl (lv_at hl 0 rfl) ?_
  refine lv_iload_n hx hb dX7_house_9 rfl (lv_at hl 1 rfl) ?_
  refine lv_iconst (v := 0) hx hb dX7_house_10 (by decide) ?_
  obtain ⟨v6, g5, h4, hF⟩ := g_bind2 hF
  refine g_calli (va_runV (As := [.int x1, .int ((0 : Int32))]) (rest := [.int (((7 : Int32)) * x1), .ref q2]) ⟨hx, hb, hml, hown, hts⟩ (k7_be l D base g a0 x1 ((0 : Int32)) v6 g5 h4) (cwV 2 hts gX7_house_X7_be rfl rfl rfl (by decide +kernel) ⟨Nat.le_of_ble_eq_true rfl, Nat.le_of_ble_eq_true rfl⟩) (gC.preV hE hP hS 7 rfl (by decide) h1 [.int x1, .int ((0 : Int32))]) rfl rfl hl.1 rfl (lv_room (Nat.le_of_ble_eq_true rfl)) dX7_house_11 ⟨(Nat.le_of_ble_eq_true rfl), (Nat.le_of_ble_eq_true rfl)⟩) hS (fun H locs hP hS => ?_)
  refine lv_iadd hx hb dX7_house_14 ?_
  obtain ⟨h7, hF⟩ := g_if hF
  obtain ⟨h8, hF⟩ := g_if hF
  refine g_iald hx hb hP (g_pr h7) h8 dX7_house_15 ?_
  exact g_retI hx hb hr hlocks hF hP hS (Nat.le_of_ble_eq_true rfl) (Nat.le_of_ble_eq_true rfl) dX7_house_16
set_option maxHeartbeats 4000000 in
set_option maxRecDepth 100000 in
theorem k7_swear (l : Launch) (D : va_G) (base : Nat) (g : g_H) (a0 : Nat) (x1 : Int32) (x2 : Int32) (rr : Int32) (gz : g_H) (hF : f7_swear g a0 x1 x2 = some (rr, gz)) : Met l yX7_swear wsX7_swear ({ frames := 3, cells := 0, slots := 0, locals := 72 } : Room) (va_Pc [.ref a0, .int x1, .int x2] (gC base D g)) (gQi base D rr gz) 0 0 (gA base) := by
  refine g_met (cc := cX7_swear) (maxL := 6) (ret := (some .int)) (lst := [(0, .ref a0), (1, .int x1), (2, .int x2)]) (by decide) rfl (Nat.le_of_ble_eq_true rfl) rfl ?_
  intro p e s m args below meth c ls hx hb hr hml hown hlocks hname hts hE hP hl
  have hown : s.vm.findClass RX7 = some m.cls := hown
  have hK := hE.1
  have hov := hE.2.2.2.2.2.2.2.1
  have hbz := hE.2.2.2.2.2.2.2.2.2.2.2.2
  have hS : va_S (gA base) s.heap s.heap [] := va_S.rf
  have hiX7 : ∀ w ∈ wsX70, w ∈ wsX7_swear := by decide +kernel
  have HB87 : ∀ (g : g_H) (a0 : Nat) (H : Heap) (locs : List Loc) (ls : Array Slot), f7_swear_87 g a0 = some (rr, gz) → gP base D s g H → va_S (gA base) s.heap H locs → lv_has ls 6 [(0, .ref a0)] → W p l e ({ frames := 3, cells := 0, slots := 0, locals := 72 } : Room) s m args below meth c H locs 0 0 (MQ below (gQi base D rr gz) args s 0 0 (gA base)) (F0 m 87 ls []) := by
    intro g a0 H locs ls hF hP hS hl
    unfold f7_swear_87 at hF
    refine lv_aload_n hx hb dX7_swear_87 rfl (lv_at hl 0 rfl) ?_
    refine lv_iconst (v := 3) hx hb dX7_swear_88 (by decide) ?_
    obtain ⟨h18, hF⟩ := g_if hF
    obtain ⟨v20, g19, h17, hF⟩ := g_bind2 hF
    refine g_calli (va_runV (As := [.int ((3 : Int32))]) (rest := []) ⟨hx, hb, hml, hown, hts⟩ (k7_fail l D base g a0 ((3 : Int32)) v20 g19 h17) (cwV 1 hts gX7_swear_X7_fail rfl rfl rfl (by decide +kernel) ⟨Nat.le_of_ble_eq_true rfl, Nat.le_of_ble_eq_true rfl⟩) (gC.preV hE hP hS 7 rfl (by decide) h18 [.int ((3 : Int32))]) rfl rfl hl.1 rfl (lv_room (Nat.le_of_ble_eq_true rfl)) dX7_swear_89 ⟨(Nat.le_of_ble_eq_true rfl), (Nat.le_of_ble_eq_true rfl)⟩) hS (fun H locs hP hS => ?_)
    exact g_retI hx hb hr hlocks hF hP hS (Nat.le_of_ble_eq_true rfl) (Nat.le_of_ble_eq_true rfl) dX7_swear_92
  have HL41 : ∀ (n41 : Nat), ∀ (g : g_H) (a0 : Nat) (x1 : Int32) (x3 : Int32) (x4 : Int32) (x5 : Int32) (H : Heap) (locs : List Loc) (ls : Array Slot), f7_swear_41 n41 g a0 x1 x3 x4 x5 = some (rr, gz) → gP base D s g H → va_S (gA base) s.heap H locs → lv_has ls 6 [(0, .ref a0), (1, .int x1), (3, .int x3), (4, .int x4), (5, .int x5)] → W p l e ({ frames := 3, cells := 0, slots := 0, locals := 72 } : Room) s m args below meth c H locs 0 0 (MQ below (gQi base D rr gz) args s 0 0 (gA base)) (F0 m 41 ls []) := by
    intro n41
    induction n41 with
    | zero => intro g a0 x1 x3 x4 x5 H locs ls hF hP hS hl; exact g_no hF
    | succ n41 ih41 =>
      have HB66 : ∀ (g : g_H) (a0 : Nat) (x1 : Int32) (x3 : Int32) (x4 : Int32) (x5 : Int32) (H : Heap) (locs : List Loc) (ls : Array Slot), f7_swear_66 (f7_swear_41 n41) g a0 x1 x3 x4 x5 = some (rr, gz) → gP base D s g H → va_S (gA base) s.heap H locs → lv_has ls 6 [(0, .ref a0), (1, .int x1), (3, .int x3), (4, .int x4), (5, .int x5)] → W p l e ({ frames := 3, cells := 0, slots := 0, locals := 72 } : Room) s m args below meth c H locs 0 0 (MQ below (gQi base D rr gz) args s 0 0 (gA base)) (F0 m 66 ls []) := by
        intro g a0 x1 x3 x4 x5 H locs ls hF hP hS hl
        unfold f7_swear_66 at hF
        refine lv_iinc (v := x5 + (1 : Int32)) (lv' := [(5, .int (x5 + (1 : Int32))), (0, .ref a0), (1, .int x1), (3, .int x3), (4, .int x4)]) hx hb dX7_swear_66 hl (k := 4) rfl rfl (by decide) rfl (fun ls hl => ?_)
        refine lv_goto (tgt := 41) hx hb dX7_swear_69 (by decide) ?_
        exact ih41 _ _ _ _ _ _ _ _ _ hF hP hS (lv_sub hl [1, 2, 3, 4, 0] rfl)
      intro g a0 x1 x3 x4 x5 H locs ls hF hP hS hl
      have hF : f7_swear_41b (f7_swear_41 n41) g a0 x1 x3 x4 x5 = some (rr, gz) := hF
      unfold f7_swear_41b at hF
      refine lv_iload hx hb dX7_swear_41 (lv_at hl 4 rfl) ?_
      refine lv_iload_n hx hb dX7_swear_43 rfl (lv_at hl 2 rfl) ?_
      refine lv_icmp_ge (tgt := 72) hx hb dX7_swear_44 (by decide) (fun c11 => ?_) (fun c11 => ?_)
      · have hF := g_t c11 hF
        refine lv_aload_n hx hb dX7_swear_72 rfl (lv_at hl 0 rfl) ?_
        refine lv_iload_n hx hb dX7_swear_73 rfl (lv_at hl 1 rfl) ?_
        refine lv_iconst (v := 1) hx hb dX7_swear_74 (by decide) ?_
        obtain ⟨h13, hF⟩ := g_if hF
        obtain ⟨v15, g14, h12, hF⟩ := g_bind2 hF
        refine g_calli (va_runV (As := [.int x1, .int ((1 : Int32))]) (rest := []) ⟨hx, hb, hml, hown, hts⟩ (k7_be l D base g a0 x1 ((1 : Int32)) v15 g14 h12) (cwV 2 hts gX7_swear_X7_be rfl rfl rfl (by decide +kernel) ⟨Nat.le_of_ble_eq_true rfl, Nat.le_of_ble_eq_true rfl⟩) (gC.preV hE hP hS 7 rfl (by decide) h13 [.int x1, .int ((1 : Int32))]) rfl rfl hl.1 rfl (lv_room (Nat.le_of_ble_eq_true rfl)) dX7_swear_75 ⟨(Nat.le_of_ble_eq_true rfl), (Nat.le_of_ble_eq_true rfl)⟩) hS (fun H locs hP hS => ?_)
        refine lv_if_gt (tgt := 87) hx hb dX7_swear_78 (by decide) (fun c16 => ?_) (fun c16 => ?_)
        · have hF := g_t c16 hF
          exact HB87 _ _ _ _ _ hF hP hS (lv_sub hl [0] rfl)
        · have hF := g_f c16 hF
          refine lv_iload hx hb dX7_swear_81 (lv_at hl 3 rfl) ?_
          refine lv_iconst (v := (-1)) hx hb dX7_swear_83 (by decide) ?_
          refine lv_icmp_ne (tgt := 93) hx hb dX7_swear_84 (by decide) (fun c21 => ?_) (fun c21 => ?_)
          · have hF := g_f c21 hF
            refine lv_aload_n hx hb dX7_swear_93 rfl (lv_at hl 0 rfl) ?_
            obtain ⟨h22, hF⟩ := g_if hF
            obtain ⟨q23, hq24, hF⟩ := g_bind hF
            refine g_get hx hb hts hiX7 hown hK hP 7 rfl (by decide) h22 12 (by decide) (hts (.fieldLink RX7 32 "CourierBeesModel" "row" "[I") (by decide +kernel)) (fun _ h9 => h9) ((gFv_r (by decide)).trans (congrArg va_rf hq24)) dX7_swear_94 ?_
            refine lv_iconst (v := 0) hx hb dX7_swear_97 (by decide) ?_
            refine lv_aload_n hx hb dX7_swear_98 rfl (lv_at hl 0 rfl) ?_
            obtain ⟨q25, hq26, hF⟩ := g_bind hF
            refine g_get hx hb hts hiX7 hown hK hP 7 rfl (by decide) h22 8 (by decide) (hts (.fieldLink RX7 23 "CourierBeesModel" "routes" "[I") (by decide +kernel)) (fun _ h9 => h9) ((gFv_r (by decide)).trans (congrArg va_rf hq26)) dX7_swear_99 ?_
            refine lv_bipush (v := 7) hx hb dX7_swear_102 (by decide) ?_
            refine lv_iload_n hx hb dX7_swear_104 rfl (lv_at hl 1 rfl) ?_
            refine lv_imul hx hb dX7_swear_105 ?_
            refine lv_iload_n hx hb dX7_swear_106 rfl (lv_at hl 2 rfl) ?_
            obtain ⟨h27, hF⟩ := g_if hF
            obtain ⟨h28, hF⟩ := g_if hF
            obtain ⟨h29, hF⟩ := g_if hF
            refine g_copy hx hb (hml.trans hl.1.symm) hown (hts (.methodLink RX7 75 arraycopyName) (by decide +kernel)) (hts (.native arraycopyName) (by decide +kernel)) (hts (.static arraycopyName) (by decide +kernel)) (hts (.initialized "java/lang/System") (by decide +kernel)) hP hS (g_pr h27) (g_pr h28) h29.1 h29.2.1 h29.2.2.1 h29.2.2.2.1 h29.2.2.2.2 (Nat.le_of_ble_eq_true rfl) (by decide) dX7_swear_107 (fun H locs hP hS => ?_)
            refine lv_aload_n hx hb dX7_swear_110 rfl (lv_at hl 0 rfl) ?_
            refine lv_iload_n hx hb dX7_swear_111 rfl (lv_at hl 1 rfl) ?_
            refine lv_iconst (v := 0) hx hb dX7_swear_112 (by decide) ?_
            refine lv_iload hx hb dX7_swear_113 (lv_at hl 3 rfl) ?_
            obtain ⟨g31, h30, hF⟩ := g_bind hF
            refine g_callv (va_runV (As := [.int x1, .int ((0 : Int32)), .int x4]) (rest := []) ⟨hx, hb, hml, hown, hts⟩ (k7_setBe l D base (gPW g14 q25 (va_cpy (gI g14 q23) (gI g14 q25) (Int32.toNatClampNeg ((0 : Int32))) (Int32.toNatClampNeg (((7 : Int32)) * x1)) (Int32.toNatClampNeg x3))) a0 x1 ((0 : Int32)) x4 g31 h30) (cwV 3 hts gX7_swear_X7_setBe rfl rfl rfl (by decide +kernel) ⟨Nat.le_of_ble_eq_true rfl, Nat.le_of_ble_eq_true rfl⟩) (gC.preV hE hP hS 7 rfl (by decide) h22 [.int x1, .int ((0 : Int32)), .int x4]) rfl rfl hl.1 rfl (lv_room (Nat.le_of_ble_eq_true rfl)) dX7_swear_115 ⟨(Nat.le_of_ble_eq_true rfl), (Nat.le_of_ble_eq_true rfl)⟩) hS (fun H locs hP hS => ?_)
            refine lv_aload_n hx hb dX7_swear_118 rfl (lv_at hl 0 rfl) ?_
            refine lv_iload_n hx hb dX7_swear_119 rfl (lv_at hl 1 rfl) ?_
            refine lv_iconst (v := 5) hx hb dX7_swear_120 (by decide) ?_
            refine lv_iload_n hx hb dX7_swear_121 rfl (lv_at hl 2 rfl) ?_
            obtain ⟨h34, hF⟩ := g_if hF
            obtain ⟨g35, h33, hF⟩ := g_bind hF
            refine g_callv (va_runV (As := [.int x1, .int ((5 : Int32)), .int x3]) (rest := []) ⟨hx, hb, hml, hown, hts⟩ (k7_setBe l D base g31 a0 x1 ((5 : Int32)) x3 g35 h33) (cwV 3 hts gX7_swear_X7_setBe rfl rfl rfl (by decide +kernel) ⟨Nat.le_of_ble_eq_true rfl, Nat.le_of_ble_eq_true rfl⟩) (gC.preV hE hP hS 7 rfl (by decide) h34 [.int x1, .int ((5 : Int32)), .int x3]) rfl rfl hl.1 rfl (lv_room (Nat.le_of_ble_eq_true rfl)) dX7_swear_122 ⟨(Nat.le_of_ble_eq_true rfl), (Nat.le_of_ble_eq_true rfl)⟩) hS (fun H locs hP hS => ?_)
            refine lv_aload_n hx hb dX7_swear_125 rfl (lv_at hl 0 rfl) ?_
            refine lv_iload_n hx hb dX7_swear_126 rfl (lv_at hl 1 rfl) ?_
            refine lv_bipush (v := 7) hx hb dX7_swear_127 (by decide) ?_
            refine lv_iconst (v := 1) hx hb dX7_swear_129 (by decide) ?_
            obtain ⟨h38, hF⟩ := g_if hF
            obtain ⟨g39, h37, hF⟩ := g_bind hF
            refine g_callv (va_runV (As := [.int x1, .int ((7 : Int32)), .int ((1 : Int32))]) (rest := []) ⟨hx, hb, hml, hown, hts⟩ (k7_setBe l D base g35 a0 x1 ((7 : Int32)) ((1 : Int32)) g39 h37) (cwV 3 hts gX7_swear_X7_setBe rfl rfl rfl (by decide +kernel) ⟨Nat.le_of_ble_eq_true rfl, Nat.le_of_ble_eq_true rfl⟩) (gC.preV hE hP hS 7 rfl (by decide) h38 [.int x1, .int ((7 : Int32)), .int ((1 : Int32))]) rfl rfl hl.1 rfl (lv_room (Nat.le_of_ble_eq_true rfl)) dX7_swear_130 ⟨(Nat.le_of_ble_eq_true rfl), (Nat.le_of_ble_eq_true rfl)⟩) hS (fun H locs hP hS => ?_)
            refine lv_aload_n hx hb dX7_swear_133 rfl (lv_at hl 0 rfl) ?_
            refine lv_iload_n hx hb dX7_swear_134 rfl (lv_at hl 1 rfl) ?_
            refine lv_iconst (v := 3) hx hb dX7_swear_135 (by decide) ?_
            refine lv_iconst (v := 0) hx hb dX7_swear_136 (by decide) ?_
            refine lv_aload_n hx hb dX7_swear_137 rfl (lv_at hl 0 rfl) ?_
            refine lv_iload_n hx hb dX7_swear_138 rfl (lv_at hl 1 rfl) ?_
            refine lv_iconst (v := 3) hx hb dX7_swear_139 (by decide) ?_
            obtain ⟨h42, hF⟩ := g_if hF
            obtain ⟨v44, g43, h41, hF⟩ := g_bind2 hF
            refine g_calli (va_runV (As := [.int x1, .int ((3 : Int32))]) (rest := [.int ((0 : Int32)), .int ((3 : Int32)), .int x1, .ref a0]) ⟨hx, hb, hml, hown, hts⟩ (k7_be l D base g39 a0 x1 ((3 : Int32)) v44 g43 h41) (cwV 2 hts gX7_swear_X7_be rfl rfl rfl (by decide +kernel) ⟨Nat.le_of_ble_eq_true rfl, Nat.le_of_ble_eq_true rfl⟩) (gC.preV hE hP hS 7 rfl (by decide) h42 [.int x1, .int ((3 : Int32))]) rfl rfl hl.1 rfl (lv_room (Nat.le_of_ble_eq_true rfl)) dX7_swear_140 ⟨(Nat.le_of_ble_eq_true rfl), (Nat.le_of_ble_eq_true rfl)⟩) hS (fun H locs hP hS => ?_)
            refine lv_iconst (v := 3) hx hb dX7_swear_143 (by decide) ?_
            refine lv_isub hx hb dX7_swear_144 ?_
            refine va_mmax hx hb (hml.trans hl.1.symm) hown (hts (.methodLink RX7 107 Lib.Math.max.name) (by decide +kernel)) (hts (.static Lib.Math.max.name) (by decide +kernel)) (hts (.initialized "java/lang/Math") (by decide +kernel)) (hts (.code Lib.Math.max.name Lib.Math.max.code 2 (some .int)) (by decide +kernel)) (Nat.le_of_ble_eq_true rfl) (Nat.le_of_ble_eq_true rfl) (Nat.le_of_ble_eq_true rfl) (Nat.le_of_ble_eq_true rfl) dX7_swear_145 ?_
            obtain ⟨h46, hF⟩ := g_if hF
            obtain ⟨g47, h45, hF⟩ := g_bind hF
            refine g_callv (va_runV (As := [.int x1, .int ((3 : Int32)), .int (if ((0 : Int32)) < (v44 - ((3 : Int32))) then (v44 - ((3 : Int32))) else ((0 : Int32)))]) (rest := []) ⟨hx, hb, hml, hown, hts⟩ (k7_setBe l D base g43 a0 x1 ((3 : Int32)) (if ((0 : Int32)) < (v44 - ((3 : Int32))) then (v44 - ((3 : Int32))) else ((0 : Int32))) g47 h45) (cwV 3 hts gX7_swear_X7_setBe rfl rfl rfl (by decide +kernel) ⟨Nat.le_of_ble_eq_true rfl, Nat.le_of_ble_eq_true rfl⟩) (gC.preV hE hP hS 7 rfl (by decide) h46 [.int x1, .int ((3 : Int32)), .int (if ((0 : Int32)) < (v44 - ((3 : Int32))) then (v44 - ((3 : Int32))) else ((0 : Int32)))]) rfl rfl hl.1 rfl (lv_room (Nat.le_of_ble_eq_true rfl)) dX7_swear_148 ⟨(Nat.le_of_ble_eq_true rfl), (Nat.le_of_ble_eq_true rfl)⟩) hS (fun H locs hP hS => ?_)
            refine lv_aload_n hx hb dX7_swear_151 rfl (lv_at hl 0 rfl) ?_
            refine lv_iload_n hx hb dX7_swear_152 rfl (lv_at hl 1 rfl) ?_
            refine lv_iconst (v := 3) hx hb dX7_swear_153 (by decide) ?_
            obtain ⟨h50, hF⟩ := g_if hF
            obtain ⟨v52, g51, h49, hF⟩ := g_bind2 hF
            refine g_calli (va_runV (As := [.int x1, .int ((3 : Int32))]) (rest := []) ⟨hx, hb, hml, hown, hts⟩ (k7_be l D base g47 a0 x1 ((3 : Int32)) v52 g51 h49) (cwV 2 hts gX7_swear_X7_be rfl rfl rfl (by decide +kernel) ⟨Nat.le_of_ble_eq_true rfl, Nat.le_of_ble_eq_true rfl⟩) (gC.preV hE hP hS 7 rfl (by decide) h50 [.int x1, .int ((3 : Int32))]) rfl rfl hl.1 rfl (lv_room (Nat.le_of_ble_eq_true rfl)) dX7_swear_154 ⟨(Nat.le_of_ble_eq_true rfl), (Nat.le_of_ble_eq_true rfl)⟩) hS (fun H locs hP hS => ?_)
            exact g_retI hx hb hr hlocks hF hP hS (Nat.le_of_ble_eq_true rfl) (Nat.le_of_ble_eq_true rfl) dX7_swear_157
          · have hF := g_t c21 hF
            exact HB87 _ _ _ _ _ hF hP hS (lv_sub hl [0] rfl)
      · have hF := g_f c11 hF
        refine lv_aload_n hx hb dX7_swear_47 rfl (lv_at hl 0 rfl) ?_
        obtain ⟨h53, hF⟩ := g_if hF
        obtain ⟨q54, hq55, hF⟩ := g_bind hF
        refine g_get hx hb hts hiX7 hown hK hP 7 rfl (by decide) h53 12 (by decide) (hts (.fieldLink RX7 32 "CourierBeesModel" "row" "[I") (by decide +kernel)) (fun _ h9 => h9) ((gFv_r (by decide)).trans (congrArg va_rf hq55)) dX7_swear_48 ?_
        refine lv_iload hx hb dX7_swear_51 (lv_at hl 4 rfl) ?_
        obtain ⟨h56, hF⟩ := g_if hF
        obtain ⟨h57, hF⟩ := g_if hF
        refine g_iald hx hb hP (g_pr h56) h57 dX7_swear_53 ?_
        refine lv_aload_n hx hb dX7_swear_54 rfl (lv_at hl 0 rfl) ?_
        refine lv_iload_n hx hb dX7_swear_55 rfl (lv_at hl 1 rfl) ?_
        obtain ⟨v60, g59, h58, hF⟩ := g_bind2 hF
        refine g_calli (va_runV (As := [.int x1]) (rest := [.int (gI g q54 (Int32.toNatClampNeg x5))]) ⟨hx, hb, hml, hown, hts⟩ (k7_house l D base g a0 x1 v60 g59 h58) (cwV 1 hts gX7_swear_X7_house rfl rfl rfl (by decide +kernel) ⟨Nat.le_of_ble_eq_true rfl, Nat.le_of_ble_eq_true rfl⟩) (gC.preV hE hP hS 7 rfl (by decide) h53 [.int x1]) rfl rfl hl.1 rfl (lv_room (Nat.le_of_ble_eq_true rfl)) dX7_swear_56 ⟨(Nat.le_of_ble_eq_true rfl), (Nat.le_of_ble_eq_true rfl)⟩) hS (fun H locs hP hS => ?_)
        refine lv_icmp_ne (tgt := 66) hx hb dX7_swear_59 (by decide) (fun c61 => ?_) (fun c61 => ?_)
        · have hF := g_f c61 hF
          exact HB66 _ _ _ _ _ _ _ _ _ hF hP hS (lv_sub hl [0, 1, 2, 3, 4] rfl)
        · have hF := g_t c61 hF
          refine lv_iload hx hb dX7_swear_62 (lv_at hl 4 rfl) ?_
          refine lv_istore (lv' := [(4, .int x5), (0, .ref a0), (1, .int x1), (3, .int x3), (5, .int x5)]) hx hb dX7_swear_64 hl (by decide) rfl (fun ls hl => ?_)
          exact HB66 _ _ _ _ _ _ _ _ _ hF hP hS (lv_sub hl [1, 2, 3, 0, 4] rfl)
  unfold f7_swear at hF
  refine lv_aload_n hx hb dX7_swear_0 rfl (lv_at hl 0 rfl) ?_
  refine lv_iconst (v := 0) hx hb dX7_swear_1 (by decide) ?_
  obtain ⟨h1, hF⟩ := g_if hF
  refine g_puti hx hb hts hiX7 tyX7 tyX7_ok nmX7 hown hK hP hS 7 rfl (by decide) h1 0 (by decide) (hts (.fieldLink RX7 35 "CourierBeesModel" "thrown" "I") (by decide +kernel)) (fun _ h9 => h9) (Or.inl rfl) (Or.inl rfl) rfl rfl dX7_swear_2 (fun H locs hP hS => ?_)
  refine lv_aload_n hx hb dX7_swear_5 rfl (lv_at hl 0 rfl) ?_
  refine lv_iload_n hx hb dX7_swear_6 rfl (lv_at hl 1 rfl) ?_
  obtain ⟨v4, g3, h2, hF⟩ := g_bind2 hF
  refine g_calli (va_runV (As := [.int x1]) (rest := []) ⟨hx, hb, hml, hown, hts⟩ (k7_isBee l D base (gPI g a0 0 ((0 : Int32))) a0 x1 v4 g3 h2) (cwV 1 hts gX7_swear_X7_isBee rfl rfl rfl (by decide +kernel) ⟨Nat.le_of_ble_eq_true rfl, Nat.le_of_ble_eq_true rfl⟩) (gC.preV hE hP hS 7 rfl (by decide) h1 [.int x1]) rfl rfl hl.1 rfl (lv_room (Nat.le_of_ble_eq_true rfl)) dX7_swear_7 ⟨(Nat.le_of_ble_eq_true rfl), (Nat.le_of_ble_eq_true rfl)⟩) hS (fun H locs hP hS => ?_)
  refine lv_if_ne (tgt := 19) hx hb dX7_swear_10 (by decide) (fun c5 => ?_) (fun c5 => ?_)
  · have hF := g_f c5 hF
    refine lv_aload_n hx hb dX7_swear_19 rfl (lv_at hl 0 rfl) ?_
    refine lv_iload_n hx hb dX7_swear_20 rfl (lv_at hl 2 rfl) ?_
    obtain ⟨h7, hF⟩ := g_if hF
    obtain ⟨v9, g8, h6, hF⟩ := g_bind2 hF
    refine g_calli (va_runV (As := [.int x2]) (rest := []) ⟨hx, hb, hml, hown, hts⟩ (k7_read l D base g3 a0 x2 v9 g8 h6) (cwV 1 hts gX7_swear_X7_read rfl rfl rfl (by decide +kernel) ⟨Nat.le_of_ble_eq_true rfl, Nat.le_of_ble_eq_true rfl⟩) (gC.preV hE hP hS 7 rfl (by decide) h7 [.int x2]) rfl rfl hl.1 rfl (lv_room (Nat.le_of_ble_eq_true rfl)) dX7_swear_21 ⟨(Nat.le_of_ble_eq_true rfl), (Nat.le_of_ble_eq_true rfl)⟩) hS (fun H locs hP hS => ?_)
    refine lv_istore_n (lv' := [(3, .int v9), (0, .ref a0), (1, .int x1), (2, .int x2)]) hx hb dX7_swear_24 rfl hl (by decide) rfl (fun ls hl => ?_)
    refine lv_iload_n hx hb dX7_swear_25 rfl (lv_at hl 0 rfl) ?_
    refine lv_if_ne (tgt := 35) hx hb dX7_swear_26 (by decide) (fun c10 => ?_) (fun c10 => ?_)
    · have hF := g_f c10 hF
      refine lv_iconst (v := (-1)) hx hb dX7_swear_35 (by decide) ?_
      refine lv_istore (lv' := [(4, .int ((-1 : Int32))), (3, .int v9), (0, .ref a0), (1, .int x1), (2, .int x2)]) hx hb dX7_swear_36 hl (by decide) rfl (fun ls hl => ?_)
      refine lv_iconst (v := 0) hx hb dX7_swear_38 (by decide) ?_
      refine lv_istore (lv' := [(5, .int ((0 : Int32))), (4, .int ((-1 : Int32))), (3, .int v9), (0, .ref a0), (1, .int x1), (2, .int x2)]) hx hb dX7_swear_39 hl (by decide) rfl (fun ls hl => ?_)
      exact HL41 300 _ _ _ _ _ _ _ _ _ hF hP hS (lv_sub hl [3, 4, 2, 1, 0] rfl)
    · have hF := g_t c10 hF
      refine lv_aload_n hx hb dX7_swear_29 rfl (lv_at hl 1 rfl) ?_
      refine lv_iconst (v := 2) hx hb dX7_swear_30 (by decide) ?_
      obtain ⟨h63, hF⟩ := g_if hF
      obtain ⟨v65, g64, h62, hF⟩ := g_bind2 hF
      refine g_calli (va_runV (As := [.int ((2 : Int32))]) (rest := []) ⟨hx, hb, hml, hown, hts⟩ (k7_fail l D base g8 a0 ((2 : Int32)) v65 g64 h62) (cwV 1 hts gX7_swear_X7_fail rfl rfl rfl (by decide +kernel) ⟨Nat.le_of_ble_eq_true rfl, Nat.le_of_ble_eq_true rfl⟩) (gC.preV hE hP hS 7 rfl (by decide) h63 [.int ((2 : Int32))]) rfl rfl hl.1 rfl (lv_room (Nat.le_of_ble_eq_true rfl)) dX7_swear_31 ⟨(Nat.le_of_ble_eq_true rfl), (Nat.le_of_ble_eq_true rfl)⟩) hS (fun H locs hP hS => ?_)
      exact g_retI hx hb hr hlocks hF hP hS (Nat.le_of_ble_eq_true rfl) (Nat.le_of_ble_eq_true rfl) dX7_swear_34
  · have hF := g_t c5 hF
    refine lv_aload_n hx hb dX7_swear_13 rfl (lv_at hl 0 rfl) ?_
    refine lv_iconst (v := 1) hx hb dX7_swear_14 (by decide) ?_
    obtain ⟨h67, hF⟩ := g_if hF
    obtain ⟨v69, g68, h66, hF⟩ := g_bind2 hF
    refine g_calli (va_runV (As := [.int ((1 : Int32))]) (rest := []) ⟨hx, hb, hml, hown, hts⟩ (k7_fail l D base g3 a0 ((1 : Int32)) v69 g68 h66) (cwV 1 hts gX7_swear_X7_fail rfl rfl rfl (by decide +kernel) ⟨Nat.le_of_ble_eq_true rfl, Nat.le_of_ble_eq_true rfl⟩) (gC.preV hE hP hS 7 rfl (by decide) h67 [.int ((1 : Int32))]) rfl rfl hl.1 rfl (lv_room (Nat.le_of_ble_eq_true rfl)) dX7_swear_15 ⟨(Nat.le_of_ble_eq_true rfl), (Nat.le_of_ble_eq_true rfl)⟩) hS (fun H locs hP hS => ?_)
    exact g_retI hx hb hr hlocks hF hP hS (Nat.le_of_ble_eq_true rfl) (Nat.le_of_ble_eq_true rfl) dX7_swear_18
set_option maxHeartbeats 4000000 in
set_option maxRecDepth 100000 in
theorem k7_write (l : Launch) (D : va_G) (base : Nat) (g : g_H) (a0 : Nat) (x1 : Int32) (x2 : Int32) (rr : Int32) (gz : g_H) (hF : f7_write g a0 x1 x2 = some (rr, gz)) : Met l yX7_write wsX7_write ({ frames := 2, cells := 1, slots := 5, locals := 43 } : Room) (va_Pc [.ref a0, .int x1, .int x2] (gC base D g)) (gQi base D rr gz) 1 5 (gA base) := by
  refine g_met (cc := cX7_write) (maxL := 4) (ret := (some .int)) (lst := [(0, .ref a0), (1, .int x1), (2, .int x2)]) (by decide) rfl (Nat.le_of_ble_eq_true rfl) rfl ?_
  intro p e s m args below meth c ls hx hb hr hml hown hlocks hname hts hE hP hl
  have hown : s.vm.findClass RX7 = some m.cls := hown
  have hK := hE.1
  have hov := hE.2.2.2.2.2.2.2.1
  have hbz := hE.2.2.2.2.2.2.2.2.2.2.2.2
  have hS : va_S (gA base) s.heap s.heap [] := va_S.rf
  have hiX7 : ∀ w ∈ wsX70, w ∈ wsX7_write := by decide +kernel
  have HB21 : ∀ (g : g_H) (a0 : Nat) (H : Heap) (locs : List Loc) (ls : Array Slot), f7_write_21 g a0 = some (rr, gz) → gP base D s g H → va_S (gA base) s.heap H locs → lv_has ls 4 [(0, .ref a0)] → W p l e ({ frames := 2, cells := 1, slots := 5, locals := 43 } : Room) s m args below meth c H locs 0 0 (MQ below (gQi base D rr gz) args s 1 5 (gA base)) (F0 m 21 ls []) := by
    intro g a0 H locs ls hF hP hS hl
    unfold f7_write_21 at hF
    refine lv_aload_n hx hb dX7_write_21 rfl (lv_at hl 0 rfl) ?_
    refine lv_iconst (v := 1) hx hb dX7_write_22 (by decide) ?_
    obtain ⟨h7, hF⟩ := g_if hF
    obtain ⟨v9, g8, h6, hF⟩ := g_bind2 hF
    refine g_calli (va_runV (As := [.int ((1 : Int32))]) (rest := []) ⟨hx, hb, hml, hown, hts⟩ (k7_fail l D base g a0 ((1 : Int32)) v9 g8 h6) (cwV 1 hts gX7_write_X7_fail rfl rfl rfl (by decide +kernel) ⟨Nat.le_of_ble_eq_true rfl, Nat.le_of_ble_eq_true rfl⟩) (gC.preV hE hP hS 7 rfl (by decide) h7 [.int ((1 : Int32))]) rfl rfl hl.1 rfl (lv_room (Nat.le_of_ble_eq_true rfl)) dX7_write_23 ⟨(Nat.le_of_ble_eq_true rfl), (Nat.le_of_ble_eq_true rfl)⟩) hS (fun H locs hP hS => ?_)
    exact g_retI hx hb hr hlocks hF hP hS (Nat.le_of_ble_eq_true rfl) (Nat.le_of_ble_eq_true rfl) dX7_write_26
  unfold f7_write at hF
  refine lv_aload_n hx hb dX7_write_0 rfl (lv_at hl 0 rfl) ?_
  refine lv_iconst (v := 0) hx hb dX7_write_1 (by decide) ?_
  obtain ⟨h1, hF⟩ := g_if hF
  refine g_puti hx hb hts hiX7 tyX7 tyX7_ok nmX7 hown hK hP hS 7 rfl (by decide) h1 0 (by decide) (hts (.fieldLink RX7 35 "CourierBeesModel" "thrown" "I") (by decide +kernel)) (fun _ h9 => h9) (Or.inl rfl) (Or.inl rfl) rfl rfl dX7_write_2 (fun H locs hP hS => ?_)
  refine lv_aload_n hx hb dX7_write_5 rfl (lv_at hl 0 rfl) ?_
  refine lv_iload_n hx hb dX7_write_6 rfl (lv_at hl 1 rfl) ?_
  obtain ⟨v4, g3, h2, hF⟩ := g_bind2 hF
  refine g_calli (va_runV (As := [.int x1]) (rest := []) ⟨hx, hb, hml, hown, hts⟩ (k7_isHouse l D base (gPI g a0 0 ((0 : Int32))) a0 x1 v4 g3 h2) (cwV 1 hts gX7_write_X7_isHouse rfl rfl rfl (by decide +kernel) ⟨Nat.le_of_ble_eq_true rfl, Nat.le_of_ble_eq_true rfl⟩) (gC.preV hE hP hS 7 rfl (by decide) h1 [.int x1]) rfl rfl hl.1 rfl (lv_room (Nat.le_of_ble_eq_true rfl)) dX7_write_7 ⟨(Nat.le_of_ble_eq_true rfl), (Nat.le_of_ble_eq_true rfl)⟩) hS (fun H locs hP hS => ?_)
  refine lv_if_eq (tgt := 21) hx hb dX7_write_10 (by decide) (fun c5 => ?_) (fun c5 => ?_)
  · have hF := g_t c5 hF
    exact HB21 _ _ _ _ _ hF hP hS (lv_sub hl [0] rfl)
  · have hF := g_f c5 hF
    refine lv_aload_n hx hb dX7_write_13 rfl (lv_at hl 0 rfl) ?_
    refine lv_iload_n hx hb dX7_write_14 rfl (lv_at hl 2 rfl) ?_
    obtain ⟨h11, hF⟩ := g_if hF
    obtain ⟨v13, g12, h10, hF⟩ := g_bind2 hF
    refine g_calli (va_runV (As := [.int x2]) (rest := []) ⟨hx, hb, hml, hown, hts⟩ (k7_isHouse l D base g3 a0 x2 v13 g12 h10) (cwV 1 hts gX7_write_X7_isHouse rfl rfl rfl (by decide +kernel) ⟨Nat.le_of_ble_eq_true rfl, Nat.le_of_ble_eq_true rfl⟩) (gC.preV hE hP hS 7 rfl (by decide) h11 [.int x2]) rfl rfl hl.1 rfl (lv_room (Nat.le_of_ble_eq_true rfl)) dX7_write_15 ⟨(Nat.le_of_ble_eq_true rfl), (Nat.le_of_ble_eq_true rfl)⟩) hS (fun H locs hP hS => ?_)
    refine lv_if_ne (tgt := 27) hx hb dX7_write_18 (by decide) (fun c14 => ?_) (fun c14 => ?_)
    · have hF := g_f c14 hF
      refine lv_iload_n hx hb dX7_write_27 rfl (lv_at hl 1 rfl) ?_
      refine lv_iload_n hx hb dX7_write_28 rfl (lv_at hl 2 rfl) ?_
      refine lv_icmp_ne (tgt := 38) hx hb dX7_write_29 (by decide) (fun c15 => ?_) (fun c15 => ?_)
      · have hF := g_f c15 hF
        refine lv_aload_n hx hb dX7_write_38 rfl (lv_at hl 0 rfl) ?_
        obtain ⟨h16, hF⟩ := g_if hF
        refine g_get hx hb hts hiX7 hown hK hP 7 rfl (by decide) h16 9 (by decide) (hts (.fieldLink RX7 52 "CourierBeesModel" "letters" "I") (by decide +kernel)) (fun _ h9 => h9) (gFv_i (Or.inl rfl)) dX7_write_39 ?_
        refine lv_bipush (v := 20) hx hb dX7_write_42 (by decide) ?_
        refine lv_icmp_ne (tgt := 53) hx hb dX7_write_44 (by decide) (fun c17 => ?_) (fun c17 => ?_)
        · have hF := g_f c17 hF
          refine lv_iconst (v := 5) hx hb dX7_write_53 (by decide) ?_
          obtain ⟨q18, g19, e20, e21, h22, hF⟩ := g_nw hF
          refine g_newa (atype := .int) hx hb (hts (.arrayClass .int) (by decide +kernel)) 11 rfl (by decide) rfl hP hS hbz (n := 5) (N' := 5) (by decide) (by decide) (Nat.le_of_ble_eq_true rfl) (Nat.le_of_ble_eq_true rfl) (Nat.le_of_ble_eq_true rfl) dX7_write_54 (fun H hP hS => ?_)
          rw [e21] at hP
          rw [e20]
          refine lv_dup hx hb dX7_write_56 rfl ?_
          refine lv_iconst (v := 0) hx hb dX7_write_57 (by decide) ?_
          refine lv_iload_n hx hb dX7_write_58 rfl (lv_at hl 2 rfl) ?_
          obtain ⟨h23, hF⟩ := g_if hF
          refine g_iast hx hb hP hS (g_pr h22) h23 dX7_write_59 (fun H locs hP hS => ?_)
          refine lv_dup hx hb dX7_write_60 rfl ?_
          refine lv_iconst (v := 1) hx hb dX7_write_61 (by decide) ?_
          refine lv_iload_n hx hb dX7_write_62 rfl (lv_at hl 1 rfl) ?_
          obtain ⟨h24, hF⟩ := g_if hF
          refine g_iast hx hb hP hS (g_pr h22) h24 dX7_write_63 (fun H locs hP hS => ?_)
          refine lv_dup hx hb dX7_write_64 rfl ?_
          refine lv_iconst (v := 2) hx hb dX7_write_65 (by decide) ?_
          refine lv_iconst (v := (-1)) hx hb dX7_write_66 (by decide) ?_
          obtain ⟨h25, hF⟩ := g_if hF
          refine g_iast hx hb hP hS (g_pr h22) h25 dX7_write_67 (fun H locs hP hS => ?_)
          refine lv_dup hx hb dX7_write_68 rfl ?_
          refine lv_iconst (v := 3) hx hb dX7_write_69 (by decide) ?_
          refine lv_iconst (v := (-1)) hx hb dX7_write_70 (by decide) ?_
          obtain ⟨h26, hF⟩ := g_if hF
          refine g_iast hx hb hP hS (g_pr h22) h26 dX7_write_71 (fun H locs hP hS => ?_)
          obtain ⟨g27, e28, hF⟩ := g_let hF
          rw [e28] at hP
          have h29 : (gS g27 q18).1 = 11 := by rw [← e28]; exact h22
          refine lv_dup hx hb dX7_write_72 rfl ?_
          refine lv_iconst (v := 4) hx hb dX7_write_73 (by decide) ?_
          refine lv_iconst (v := 0) hx hb dX7_write_74 (by decide) ?_
          obtain ⟨h30, hF⟩ := g_if hF
          refine g_iast hx hb hP hS (g_pr h29) h30 dX7_write_75 (fun H locs hP hS => ?_)
          refine lv_astore_n (lv' := [(3, .ref q18), (0, .ref a0), (1, .int x1), (2, .int x2)]) hx hb dX7_write_76 rfl hl (by decide) rfl (fun ls hl => ?_)
          refine lv_aload_n hx hb dX7_write_77 rfl (lv_at hl 0 rfl) ?_
          refine lv_iconst (v := 0) hx hb dX7_write_78 (by decide) ?_
          refine lv_aload_n hx hb dX7_write_79 rfl (lv_at hl 1 rfl) ?_
          obtain ⟨h31, hF⟩ := g_if hF
          obtain ⟨q32, hq33, hF⟩ := g_bind hF
          refine g_get hx hb hts hiX7 hown hK hP 7 rfl (by decide) h31 10 (by decide) (hts (.fieldLink RX7 26 "CourierBeesModel" "post" "[I") (by decide +kernel)) (fun _ h9 => h9) ((gFv_r (by decide)).trans (congrArg va_rf hq33)) dX7_write_80 ?_
          refine lv_iconst (v := 5) hx hb dX7_write_83 (by decide) ?_
          refine lv_aload_n hx hb dX7_write_84 rfl (lv_at hl 1 rfl) ?_
          refine g_get hx hb hts hiX7 hown hK hP 7 rfl (by decide) h31 9 (by decide) (hts (.fieldLink RX7 52 "CourierBeesModel" "letters" "I") (by decide +kernel)) (fun _ h9 => h9) (gFv_i (Or.inl rfl)) dX7_write_85 ?_
          refine lv_imul hx hb dX7_write_88 ?_
          refine lv_iconst (v := 5) hx hb dX7_write_89 (by decide) ?_
          obtain ⟨h34, hF⟩ := g_if hF
          obtain ⟨h35, hF⟩ := g_if hF
          refine g_copy hx hb (hml.trans hl.1.symm) hown (hts (.methodLink RX7 75 arraycopyName) (by decide +kernel)) (hts (.native arraycopyName) (by decide +kernel)) (hts (.static arraycopyName) (by decide +kernel)) (hts (.initialized "java/lang/System") (by decide +kernel)) hP hS (g_pr h29) (g_pr h34) h35.1 h35.2.1 h35.2.2.1 h35.2.2.2.1 h35.2.2.2.2 (Nat.le_of_ble_eq_true rfl) (by decide) dX7_write_90 (fun H locs hP hS => ?_)
          obtain ⟨g36, e37, hF⟩ := g_let hF
          rw [e37] at hP
          have h38 : (gS g36 q18).1 = 11 := by rw [← e37]; exact h29
          have h39 : (gS g36 a0).1 = 8 := by rw [← e37]; exact h31
          have h40 : (gS g36 q32).1 = 11 := by rw [← e37]; exact h34
          refine lv_aload_n hx hb dX7_write_93 rfl (lv_at hl 1 rfl) ?_
          refine lv_dup hx hb dX7_write_94 rfl ?_
          refine g_get hx hb hts hiX7 hown hK hP 7 rfl (by decide) h39 9 (by decide) (hts (.fieldLink RX7 52 "CourierBeesModel" "letters" "I") (by decide +kernel)) (fun _ h9 => h9) (gFv_i (Or.inl rfl)) dX7_write_95 ?_
          refine lv_iconst (v := 1) hx hb dX7_write_98 (by decide) ?_
          refine lv_iadd hx hb dX7_write_99 ?_
          obtain ⟨y41, e42, hF⟩ := g_let hF
          rw [e42]
          refine g_puti hx hb hts hiX7 tyX7 tyX7_ok nmX7 hown hK hP hS 7 rfl (by decide) h39 9 (by decide) (hts (.fieldLink RX7 52 "CourierBeesModel" "letters" "I") (by decide +kernel)) (fun _ h9 => h9) (Or.inl rfl) (Or.inl rfl) rfl rfl dX7_write_100 (fun H locs hP hS => ?_)
          refine lv_aload_n hx hb dX7_write_103 rfl (lv_at hl 1 rfl) ?_
          refine g_get hx hb hts hiX7 hown hK hP 7 rfl (by decide) h39 9 (by decide) (hts (.fieldLink RX7 52 "CourierBeesModel" "letters" "I") (by decide +kernel)) (fun _ h9 => h9) (gFv_i (Or.inl rfl)) dX7_write_104 ?_
          refine lv_iconst (v := 1) hx hb dX7_write_107 (by decide) ?_
          refine lv_isub hx hb dX7_write_108 ?_
          exact g_retI hx hb hr hlocks hF hP hS (Nat.le_of_ble_eq_true rfl) (Nat.le_of_ble_eq_true rfl) dX7_write_109
        · have hF := g_t c17 hF
          refine lv_aload_n hx hb dX7_write_47 rfl (lv_at hl 0 rfl) ?_
          refine lv_iconst (v := 3) hx hb dX7_write_48 (by decide) ?_
          obtain ⟨v45, g44, h43, hF⟩ := g_bind2 hF
          refine g_calli (va_runV (As := [.int ((3 : Int32))]) (rest := []) ⟨hx, hb, hml, hown, hts⟩ (k7_fail l D base g12 a0 ((3 : Int32)) v45 g44 h43) (cwV 1 hts gX7_write_X7_fail rfl rfl rfl (by decide +kernel) ⟨Nat.le_of_ble_eq_true rfl, Nat.le_of_ble_eq_true rfl⟩) (gC.preV hE hP hS 7 rfl (by decide) h16 [.int ((3 : Int32))]) rfl rfl hl.1 rfl (lv_room (Nat.le_of_ble_eq_true rfl)) dX7_write_49 ⟨(Nat.le_of_ble_eq_true rfl), (Nat.le_of_ble_eq_true rfl)⟩) hS (fun H locs hP hS => ?_)
          exact g_retI hx hb hr hlocks hF hP hS (Nat.le_of_ble_eq_true rfl) (Nat.le_of_ble_eq_true rfl) dX7_write_52
      · have hF := g_t c15 hF
        refine lv_aload_n hx hb dX7_write_32 rfl (lv_at hl 0 rfl) ?_
        refine lv_iconst (v := 2) hx hb dX7_write_33 (by decide) ?_
        obtain ⟨h47, hF⟩ := g_if hF
        obtain ⟨v49, g48, h46, hF⟩ := g_bind2 hF
        refine g_calli (va_runV (As := [.int ((2 : Int32))]) (rest := []) ⟨hx, hb, hml, hown, hts⟩ (k7_fail l D base g12 a0 ((2 : Int32)) v49 g48 h46) (cwV 1 hts gX7_write_X7_fail rfl rfl rfl (by decide +kernel) ⟨Nat.le_of_ble_eq_true rfl, Nat.le_of_ble_eq_true rfl⟩) (gC.preV hE hP hS 7 rfl (by decide) h47 [.int ((2 : Int32))]) rfl rfl hl.1 rfl (lv_room (Nat.le_of_ble_eq_true rfl)) dX7_write_34 ⟨(Nat.le_of_ble_eq_true rfl), (Nat.le_of_ble_eq_true rfl)⟩) hS (fun H locs hP hS => ?_)
        exact g_retI hx hb hr hlocks hF hP hS (Nat.le_of_ble_eq_true rfl) (Nat.le_of_ble_eq_true rfl) dX7_write_37
    · have hF := g_t c14 hF
      exact HB21 _ _ _ _ _ hF hP hS (lv_sub hl [0] rfl)
