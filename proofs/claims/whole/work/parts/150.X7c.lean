set_option maxHeartbeats 4000000 in
set_option maxRecDepth 100000 in
theorem k7_carries (l : Launch) (D : va_G) (base : Nat) (g : g_H) (a0 : Nat) (x1 : Int32) (rr : Int32) (gz : g_H) (hF : f7_carries g a0 x1 = some (rr, gz)) : Met l yX7_carries wsX7_carries ({ frames := 1, cells := 0, slots := 0, locals := 22 } : Room) (va_Pc [.ref a0, .int x1] (gC base D g)) (gQi base D rr gz) 0 0 (gA base) := by
  refine g_met (cc := cX7_carries) (maxL := 4) (ret := (some .int)) (lst := [(0, .ref a0), (1, .int x1)]) (by decide) rfl (Nat.le_of_ble_eq_true rfl) rfl ?_
  intro p e s m args below meth c ls hx hb hr hml hown hlocks hname hts hE hP hl
  have hown : s.vm.findClass RX7 = some m.cls := hown
  have hK := hE.1
  have hov := hE.2.2.2.2.2.2.2.1
  have hbz := hE.2.2.2.2.2.2.2.2.2.2.2.2
  have hS : va_S (gA base) s.heap s.heap [] := va_S.rf
  have hiX7 : ∀ w ∈ wsX70, w ∈ wsX7_carries := by decide +kernel
  have HL4 : ∀ (n4 : Nat), ∀ (g : g_H) (a0 : Nat) (x1 : Int32) (x2 : Int32) (x3 : Int32) (H : Heap) (locs : List Loc) (ls : Array Slot), f7_carries_4 n4 g a0 x1 x2 x3 = some (rr, gz) → gP base D s g H → va_S (gA base) s.heap H locs → lv_has ls 4 [(0, .ref a0), (1, .int x1), (2, .int x2), (3, .int x3)] → W p l e ({ frames := 1, cells := 0, slots := 0, locals := 22 } : Room) s m args below meth c H locs 0 0 (MQ below (gQi base D rr gz) args s 0 0 (gA base)) (F0 m 4 ls []) := by
    intro n4
    induction n4 with
    | zero => intro g a0 x1 x2 x3 H locs ls hF hP hS hl; exact g_no hF
    | succ n4 ih4 =>
      have HB28 : ∀ (g : g_H) (a0 : Nat) (x1 : Int32) (x3 : Int32) (s0 : Int32) (s1 : Int32) (H : Heap) (locs : List Loc) (ls : Array Slot), f7_carries_28 (f7_carries_4 n4) g a0 x1 x3 s0 s1 = some (rr, gz) → gP base D s g H → va_S (gA base) s.heap H locs → lv_has ls 4 [(0, .ref a0), (1, .int x1), (3, .int x3)] → W p l e ({ frames := 1, cells := 0, slots := 0, locals := 22 } : Room) s m args below meth c H locs 0 0 (MQ below (gQi base D rr gz) args s 0 0 (gA base)) (F0 m 28 ls [.int s1, .int s0]) := by
        intro g a0 x1 x3 s0 s1 H locs ls hF hP hS hl
        unfold f7_carries_28 at hF
        refine lv_iadd hx hb dX7_carries_28 ?_
        refine lv_istore_n (lv' := [(2, .int (s0 + s1)), (0, .ref a0), (1, .int x1), (3, .int x3)]) hx hb dX7_carries_29 rfl hl (by decide) rfl (fun ls hl => ?_)
        refine lv_iinc (v := x3 + (1 : Int32)) (lv' := [(3, .int (x3 + (1 : Int32))), (2, .int (s0 + s1)), (0, .ref a0), (1, .int x1)]) hx hb dX7_carries_30 hl (k := 3) rfl rfl (by decide) rfl (fun ls hl => ?_)
        refine lv_goto (tgt := 4) hx hb dX7_carries_33 (by decide) ?_
        exact ih4 _ _ _ _ _ _ _ _ hF hP hS (lv_sub hl [2, 3, 1, 0] rfl)
      intro g a0 x1 x2 x3 H locs ls hF hP hS hl
      have hF : f7_carries_4b (f7_carries_4 n4) g a0 x1 x2 x3 = some (rr, gz) := hF
      unfold f7_carries_4b at hF
      refine lv_iload_n hx hb dX7_carries_4 rfl (lv_at hl 3 rfl) ?_
      refine lv_aload_n hx hb dX7_carries_5 rfl (lv_at hl 0 rfl) ?_
      obtain ⟨h1, hF⟩ := g_if hF
      refine g_get hx hb hts hiX7 hown hK hP 7 rfl (by decide) h1 9 (by decide) (hts (.fieldLink RX7 52 "CourierBeesModel" "letters" "I") (by decide +kernel)) (fun _ h9 => h9) (gFv_i (Or.inl rfl)) dX7_carries_6 ?_
      refine lv_icmp_ge (tgt := 36) hx hb dX7_carries_9 (by decide) (fun c2 => ?_) (fun c2 => ?_)
      · have hF := g_t c2 hF
        refine lv_iload_n hx hb dX7_carries_36 rfl (lv_at hl 2 rfl) ?_
        exact g_retI hx hb hr hlocks hF hP hS (Nat.le_of_ble_eq_true rfl) (Nat.le_of_ble_eq_true rfl) dX7_carries_37
      · have hF := g_f c2 hF
        refine lv_iload_n hx hb dX7_carries_12 rfl (lv_at hl 2 rfl) ?_
        refine lv_aload_n hx hb dX7_carries_13 rfl (lv_at hl 0 rfl) ?_
        refine lv_iload_n hx hb dX7_carries_14 rfl (lv_at hl 3 rfl) ?_
        refine lv_iconst (v := 2) hx hb dX7_carries_15 (by decide) ?_
        obtain ⟨v5, g4, h3, hF⟩ := g_bind2 hF
        refine g_calli (va_runV (As := [.int x3, .int ((2 : Int32))]) (rest := [.int x2]) ⟨hx, hb, hml, hown, hts⟩ (k7_le l D base g a0 x3 ((2 : Int32)) v5 g4 h3) (cwV 2 hts gX7_carries_X7_le rfl rfl rfl (by decide +kernel) ⟨Nat.le_of_ble_eq_true rfl, Nat.le_of_ble_eq_true rfl⟩) (gC.preV hE hP hS 7 rfl (by decide) h1 [.int x3, .int ((2 : Int32))]) rfl rfl hl.1 rfl (lv_room (Nat.le_of_ble_eq_true rfl)) dX7_carries_16 ⟨(Nat.le_of_ble_eq_true rfl), (Nat.le_of_ble_eq_true rfl)⟩) hS (fun H locs hP hS => ?_)
        refine lv_iload_n hx hb dX7_carries_19 rfl (lv_at hl 1 rfl) ?_
        refine lv_icmp_ne (tgt := 27) hx hb dX7_carries_20 (by decide) (fun c6 => ?_) (fun c6 => ?_)
        · have hF := g_f c6 hF
          refine lv_iconst (v := 0) hx hb dX7_carries_27 (by decide) ?_
          exact HB28 _ _ _ _ _ _ _ _ _ hF hP hS (lv_sub hl [0, 1, 3] rfl)
        · have hF := g_t c6 hF
          refine lv_iconst (v := 1) hx hb dX7_carries_23 (by decide) ?_
          refine lv_goto (tgt := 28) hx hb dX7_carries_24 (by decide) ?_
          exact HB28 _ _ _ _ _ _ _ _ _ hF hP hS (lv_sub hl [0, 1, 3] rfl)
  unfold f7_carries at hF
  refine lv_iconst (v := 0) hx hb dX7_carries_0 (by decide) ?_
  refine lv_istore_n (lv' := [(2, .int ((0 : Int32))), (0, .ref a0), (1, .int x1)]) hx hb dX7_carries_1 rfl hl (by decide) rfl (fun ls hl => ?_)
  refine lv_iconst (v := 0) hx hb dX7_carries_2 (by decide) ?_
  refine lv_istore_n (lv' := [(3, .int ((0 : Int32))), (2, .int ((0 : Int32))), (0, .ref a0), (1, .int x1)]) hx hb dX7_carries_3 rfl hl (by decide) rfl (fun ls hl => ?_)
  exact HL4 300 _ _ _ _ _ _ _ _ hF hP hS (lv_sub hl [2, 3, 1, 0] rfl)
set_option maxHeartbeats 4000000 in
set_option maxRecDepth 100000 in
theorem k7_take (l : Launch) (D : va_G) (base : Nat) (g : g_H) (a0 : Nat) (x1 : Int32) (x2 : Int32) (gz : g_H) (hF : f7_take g a0 x1 x2 = some gz) : Met l yX7_take wsX7_take ({ frames := 1, cells := 0, slots := 0, locals := 23 } : Room) (va_Pc [.ref a0, .int x1, .int x2] (gC base D g)) (gQv base D gz) 0 0 (gA base) := by
  refine g_met (cc := cX7_take) (maxL := 3) (ret := none) (lst := [(0, .ref a0), (1, .int x1), (2, .int x2)]) (by decide) rfl (Nat.le_of_ble_eq_true rfl) rfl ?_
  intro p e s m args below meth c ls hx hb hr hml hown hlocks hname hts hE hP hl
  have hown : s.vm.findClass RX7 = some m.cls := hown
  have hK := hE.1
  have hov := hE.2.2.2.2.2.2.2.1
  have hbz := hE.2.2.2.2.2.2.2.2.2.2.2.2
  have hS : va_S (gA base) s.heap s.heap [] := va_S.rf
  unfold f7_take at hF
  refine lv_aload_n hx hb dX7_take_0 rfl (lv_at hl 0 rfl) ?_
  refine lv_iload_n hx hb dX7_take_1 rfl (lv_at hl 2 rfl) ?_
  refine lv_iconst (v := 1) hx hb dX7_take_2 (by decide) ?_
  refine lv_iconst (v := (-1)) hx hb dX7_take_3 (by decide) ?_
  obtain ⟨h2, hF⟩ := g_if hF
  obtain ⟨g3, h1, hF⟩ := g_bind hF
  refine g_callv (va_runV (As := [.int x2, .int ((1 : Int32)), .int ((-1 : Int32))]) (rest := []) ⟨hx, hb, hml, hown, hts⟩ (k7_setLe l D base g a0 x2 ((1 : Int32)) ((-1 : Int32)) g3 h1) (cwV 3 hts gX7_take_X7_setLe rfl rfl rfl (by decide +kernel) ⟨Nat.le_of_ble_eq_true rfl, Nat.le_of_ble_eq_true rfl⟩) (gC.preV hE hP hS 7 rfl (by decide) h2 [.int x2, .int ((1 : Int32)), .int ((-1 : Int32))]) rfl rfl hl.1 rfl (lv_room (Nat.le_of_ble_eq_true rfl)) dX7_take_4 ⟨(Nat.le_of_ble_eq_true rfl), (Nat.le_of_ble_eq_true rfl)⟩) hS (fun H locs hP hS => ?_)
  refine lv_aload_n hx hb dX7_take_7 rfl (lv_at hl 0 rfl) ?_
  refine lv_iload_n hx hb dX7_take_8 rfl (lv_at hl 2 rfl) ?_
  refine lv_iconst (v := 2) hx hb dX7_take_9 (by decide) ?_
  refine lv_iload_n hx hb dX7_take_10 rfl (lv_at hl 1 rfl) ?_
  obtain ⟨h6, hF⟩ := g_if hF
  obtain ⟨g7, h5, hF⟩ := g_bind hF
  refine g_callv (va_runV (As := [.int x2, .int ((2 : Int32)), .int x1]) (rest := []) ⟨hx, hb, hml, hown, hts⟩ (k7_setLe l D base g3 a0 x2 ((2 : Int32)) x1 g7 h5) (cwV 3 hts gX7_take_X7_setLe rfl rfl rfl (by decide +kernel) ⟨Nat.le_of_ble_eq_true rfl, Nat.le_of_ble_eq_true rfl⟩) (gC.preV hE hP hS 7 rfl (by decide) h6 [.int x2, .int ((2 : Int32)), .int x1]) rfl rfl hl.1 rfl (lv_room (Nat.le_of_ble_eq_true rfl)) dX7_take_11 ⟨(Nat.le_of_ble_eq_true rfl), (Nat.le_of_ble_eq_true rfl)⟩) hS (fun H locs hP hS => ?_)
  refine lv_aload_n hx hb dX7_take_14 rfl (lv_at hl 0 rfl) ?_
  refine lv_iload_n hx hb dX7_take_15 rfl (lv_at hl 2 rfl) ?_
  refine lv_iconst (v := 4) hx hb dX7_take_16 (by decide) ?_
  refine lv_aload_n hx hb dX7_take_17 rfl (lv_at hl 0 rfl) ?_
  refine lv_iload_n hx hb dX7_take_18 rfl (lv_at hl 2 rfl) ?_
  refine lv_iconst (v := 4) hx hb dX7_take_19 (by decide) ?_
  obtain ⟨h10, hF⟩ := g_if hF
  obtain ⟨v12, g11, h9, hF⟩ := g_bind2 hF
  refine g_calli (va_runV (As := [.int x2, .int ((4 : Int32))]) (rest := [.int ((4 : Int32)), .int x2, .ref a0]) ⟨hx, hb, hml, hown, hts⟩ (k7_le l D base g7 a0 x2 ((4 : Int32)) v12 g11 h9) (cwV 2 hts gX7_take_X7_le rfl rfl rfl (by decide +kernel) ⟨Nat.le_of_ble_eq_true rfl, Nat.le_of_ble_eq_true rfl⟩) (gC.preV hE hP hS 7 rfl (by decide) h10 [.int x2, .int ((4 : Int32))]) rfl rfl hl.1 rfl (lv_room (Nat.le_of_ble_eq_true rfl)) dX7_take_20 ⟨(Nat.le_of_ble_eq_true rfl), (Nat.le_of_ble_eq_true rfl)⟩) hS (fun H locs hP hS => ?_)
  refine lv_iconst (v := 1) hx hb dX7_take_23 (by decide) ?_
  refine lv_iadd hx hb dX7_take_24 ?_
  obtain ⟨h14, hF⟩ := g_if hF
  obtain ⟨g15, h13, hF⟩ := g_bind hF
  refine g_callv (va_runV (As := [.int x2, .int ((4 : Int32)), .int (v12 + ((1 : Int32)))]) (rest := []) ⟨hx, hb, hml, hown, hts⟩ (k7_setLe l D base g11 a0 x2 ((4 : Int32)) (v12 + ((1 : Int32))) g15 h13) (cwV 3 hts gX7_take_X7_setLe rfl rfl rfl (by decide +kernel) ⟨Nat.le_of_ble_eq_true rfl, Nat.le_of_ble_eq_true rfl⟩) (gC.preV hE hP hS 7 rfl (by decide) h14 [.int x2, .int ((4 : Int32)), .int (v12 + ((1 : Int32)))]) rfl rfl hl.1 rfl (lv_room (Nat.le_of_ble_eq_true rfl)) dX7_take_25 ⟨(Nat.le_of_ble_eq_true rfl), (Nat.le_of_ble_eq_true rfl)⟩) hS (fun H locs hP hS => ?_)
  exact g_retV hx hb hr hlocks hF hP hS (Nat.le_of_ble_eq_true rfl) (Nat.le_of_ble_eq_true rfl) dX7_take_28
set_option maxHeartbeats 4000000 in
set_option maxRecDepth 100000 in
theorem k7_honour (l : Launch) (D : va_G) (base : Nat) (g : g_H) (a0 : Nat) (x1 : Int32) (x2 : Int32) (gz : g_H) (hF : f7_honour g a0 x1 x2 = some gz) : Met l yX7_honour wsX7_honour ({ frames := 1, cells := 0, slots := 0, locals := 24 } : Room) (va_Pc [.ref a0, .int x1, .int x2] (gC base D g)) (gQv base D gz) 0 0 (gA base) := by
  refine g_met (cc := cX7_honour) (maxL := 3) (ret := none) (lst := [(0, .ref a0), (1, .int x1), (2, .int x2)]) (by decide) rfl (Nat.le_of_ble_eq_true rfl) rfl ?_
  intro p e s m args below meth c ls hx hb hr hml hown hlocks hname hts hE hP hl
  have hown : s.vm.findClass RX7 = some m.cls := hown
  have hK := hE.1
  have hov := hE.2.2.2.2.2.2.2.1
  have hbz := hE.2.2.2.2.2.2.2.2.2.2.2.2
  have hS : va_S (gA base) s.heap s.heap [] := va_S.rf
  unfold f7_honour at hF
  refine lv_aload_n hx hb dX7_honour_0 rfl (lv_at hl 0 rfl) ?_
  refine lv_iload_n hx hb dX7_honour_1 rfl (lv_at hl 1 rfl) ?_
  refine lv_iconst (v := 3) hx hb dX7_honour_2 (by decide) ?_
  refine lv_iconst (v := 0) hx hb dX7_honour_3 (by decide) ?_
  refine lv_bipush (v := 20) hx hb dX7_honour_4 (by decide) ?_
  refine lv_aload_n hx hb dX7_honour_6 rfl (lv_at hl 0 rfl) ?_
  refine lv_iload_n hx hb dX7_honour_7 rfl (lv_at hl 1 rfl) ?_
  refine lv_iconst (v := 3) hx hb dX7_honour_8 (by decide) ?_
  obtain ⟨h2, hF⟩ := g_if hF
  obtain ⟨v4, g3, h1, hF⟩ := g_bind2 hF
  refine g_calli (va_runV (As := [.int x1, .int ((3 : Int32))]) (rest := [.int ((20 : Int32)), .int ((0 : Int32)), .int ((3 : Int32)), .int x1, .ref a0]) ⟨hx, hb, hml, hown, hts⟩ (k7_be l D base g a0 x1 ((3 : Int32)) v4 g3 h1) (cwV 2 hts gX7_honour_X7_be rfl rfl rfl (by decide +kernel) ⟨Nat.le_of_ble_eq_true rfl, Nat.le_of_ble_eq_true rfl⟩) (gC.preV hE hP hS 7 rfl (by decide) h2 [.int x1, .int ((3 : Int32))]) rfl rfl hl.1 rfl (lv_room (Nat.le_of_ble_eq_true rfl)) dX7_honour_9 ⟨(Nat.le_of_ble_eq_true rfl), (Nat.le_of_ble_eq_true rfl)⟩) hS (fun H locs hP hS => ?_)
  refine lv_iload_n hx hb dX7_honour_12 rfl (lv_at hl 2 rfl) ?_
  refine lv_iadd hx hb dX7_honour_13 ?_
  refine va_mmin hx hb (hml.trans hl.1.symm) hown (hts (.methodLink RX7 70 Lib.Math.min.name) (by decide +kernel)) (hts (.static Lib.Math.min.name) (by decide +kernel)) (hts (.initialized "java/lang/Math") (by decide +kernel)) (hts (.code Lib.Math.min.name Lib.Math.min.code 2 (some .int)) (by decide +kernel)) (Nat.le_of_ble_eq_true rfl) (Nat.le_of_ble_eq_true rfl) (Nat.le_of_ble_eq_true rfl) (Nat.le_of_ble_eq_true rfl) dX7_honour_14 ?_
  refine va_mmax hx hb (hml.trans hl.1.symm) hown (hts (.methodLink RX7 107 Lib.Math.max.name) (by decide +kernel)) (hts (.static Lib.Math.max.name) (by decide +kernel)) (hts (.initialized "java/lang/Math") (by decide +kernel)) (hts (.code Lib.Math.max.name Lib.Math.max.code 2 (some .int)) (by decide +kernel)) (Nat.le_of_ble_eq_true rfl) (Nat.le_of_ble_eq_true rfl) (Nat.le_of_ble_eq_true rfl) (Nat.le_of_ble_eq_true rfl) dX7_honour_17 ?_
  obtain ⟨h6, hF⟩ := g_if hF
  obtain ⟨g7, h5, hF⟩ := g_bind hF
  refine g_callv (va_runV (As := [.int x1, .int ((3 : Int32)), .int (if ((0 : Int32)) < (if (v4 + x2) < ((20 : Int32)) then (v4 + x2) else ((20 : Int32))) then (if (v4 + x2) < ((20 : Int32)) then (v4 + x2) else ((20 : Int32))) else ((0 : Int32)))]) (rest := []) ⟨hx, hb, hml, hown, hts⟩ (k7_setBe l D base g3 a0 x1 ((3 : Int32)) (if ((0 : Int32)) < (if (v4 + x2) < ((20 : Int32)) then (v4 + x2) else ((20 : Int32))) then (if (v4 + x2) < ((20 : Int32)) then (v4 + x2) else ((20 : Int32))) else ((0 : Int32))) g7 h5) (cwV 3 hts gX7_honour_X7_setBe rfl rfl rfl (by decide +kernel) ⟨Nat.le_of_ble_eq_true rfl, Nat.le_of_ble_eq_true rfl⟩) (gC.preV hE hP hS 7 rfl (by decide) h6 [.int x1, .int ((3 : Int32)), .int (if ((0 : Int32)) < (if (v4 + x2) < ((20 : Int32)) then (v4 + x2) else ((20 : Int32))) then (if (v4 + x2) < ((20 : Int32)) then (v4 + x2) else ((20 : Int32))) else ((0 : Int32)))]) rfl rfl hl.1 rfl (lv_room (Nat.le_of_ble_eq_true rfl)) dX7_honour_20 ⟨(Nat.le_of_ble_eq_true rfl), (Nat.le_of_ble_eq_true rfl)⟩) hS (fun H locs hP hS => ?_)
  exact g_retV hx hb hr hlocks hF hP hS (Nat.le_of_ble_eq_true rfl) (Nat.le_of_ble_eq_true rfl) dX7_honour_23
set_option maxHeartbeats 4000000 in
set_option maxRecDepth 100000 in
theorem k7_bribe (l : Launch) (D : va_G) (base : Nat) (g : g_H) (a0 : Nat) (x1 : Int32) (x2 : Int32) (rr : Int32) (gz : g_H) (hF : f7_bribe g a0 x1 x2 = some (rr, gz)) : Met l yX7_bribe wsX7_bribe ({ frames := 2, cells := 0, slots := 0, locals := 46 } : Room) (va_Pc [.ref a0, .int x1, .int x2] (gC base D g)) (gQi base D rr gz) 0 0 (gA base) := by
  refine g_met (cc := cX7_bribe) (maxL := 4) (ret := (some .boolean)) (lst := [(0, .ref a0), (1, .int x1), (2, .int x2)]) (by decide) rfl (Nat.le_of_ble_eq_true rfl) rfl ?_
  intro p e s m args below meth c ls hx hb hr hml hown hlocks hname hts hE hP hl
  have hown : s.vm.findClass RX7 = some m.cls := hown
  have hK := hE.1
  have hov := hE.2.2.2.2.2.2.2.1
  have hbz := hE.2.2.2.2.2.2.2.2.2.2.2.2
  have hS : va_S (gA base) s.heap s.heap [] := va_S.rf
  have hiX7 : ∀ w ∈ wsX70, w ∈ wsX7_bribe := by decide +kernel
  have HB97 : ∀ (g : g_H) (a0 : Nat) (x1 : Int32) (x2 : Int32) (x3 : Int32) (s0 : Nat) (s1 : Int32) (s2 : Int32) (H : Heap) (locs : List Loc) (ls : Array Slot), f7_bribe_97 g a0 x1 x2 x3 s0 s1 s2 = some (rr, gz) → gP base D s g H → va_S (gA base) s.heap H locs → lv_has ls 4 [(0, .ref a0), (1, .int x1), (2, .int x2), (3, .int x3)] → W p l e ({ frames := 2, cells := 0, slots := 0, locals := 46 } : Room) s m args below meth c H locs 0 0 (MQ below (gQi base D rr gz) args s 0 0 (gA base)) (F0 m 97 ls [.int s2, .int s1, .ref s0]) := by
    intro g a0 x1 x2 x3 s0 s1 s2 H locs ls hF hP hS hl
    unfold f7_bribe_97 at hF
    obtain ⟨h15, hF⟩ := g_if hF
    obtain ⟨g16, h14, hF⟩ := g_bind hF
    refine g_callv (va_runV (As := [.int s1, .int s2]) (rest := []) ⟨hx, hb, hml, hown, hts⟩ (k7_honour l D base g s0 s1 s2 g16 h14) (cwV 2 hts gX7_bribe_X7_honour rfl rfl rfl (by decide +kernel) ⟨Nat.le_of_ble_eq_true rfl, Nat.le_of_ble_eq_true rfl⟩) (gC.preV hE hP hS 7 rfl (by decide) h15 [.int s1, .int s2]) rfl rfl hl.1 rfl (lv_room (Nat.le_of_ble_eq_true rfl)) dX7_bribe_97 ⟨(Nat.le_of_ble_eq_true rfl), (Nat.le_of_ble_eq_true rfl)⟩) hS (fun H locs hP hS => ?_)
    refine lv_iload_n hx hb dX7_bribe_100 rfl (lv_at hl 3 rfl) ?_
    refine lv_if_eq (tgt := 110) hx hb dX7_bribe_101 (by decide) (fun c18 => ?_) (fun c18 => ?_)
    · have hF := g_t c18 hF
      refine lv_iload_n hx hb dX7_bribe_110 rfl (lv_at hl 3 rfl) ?_
      obtain ⟨h19, hF⟩ := g_if hF
      exact g_retZ hx hb hr h19 hlocks hF hP hS (Nat.le_of_ble_eq_true rfl) (Nat.le_of_ble_eq_true rfl) dX7_bribe_111
    · have hF := g_f c18 hF
      refine lv_aload_n hx hb dX7_bribe_104 rfl (lv_at hl 0 rfl) ?_
      refine lv_iload_n hx hb dX7_bribe_105 rfl (lv_at hl 1 rfl) ?_
      refine lv_iload_n hx hb dX7_bribe_106 rfl (lv_at hl 2 rfl) ?_
      obtain ⟨h21, hF⟩ := g_if hF
      obtain ⟨g22, h20, hF⟩ := g_bind hF
      refine g_callv (va_runV (As := [.int x1, .int x2]) (rest := []) ⟨hx, hb, hml, hown, hts⟩ (k7_take l D base g16 a0 x1 x2 g22 h20) (cwV 2 hts gX7_bribe_X7_take rfl rfl rfl (by decide +kernel) ⟨Nat.le_of_ble_eq_true rfl, Nat.le_of_ble_eq_true rfl⟩) (gC.preV hE hP hS 7 rfl (by decide) h21 [.int x1, .int x2]) rfl rfl hl.1 rfl (lv_room (Nat.le_of_ble_eq_true rfl)) dX7_bribe_107 ⟨(Nat.le_of_ble_eq_true rfl), (Nat.le_of_ble_eq_true rfl)⟩) hS (fun H locs hP hS => ?_)
      refine lv_iload_n hx hb dX7_bribe_110 rfl (lv_at hl 3 rfl) ?_
      obtain ⟨h24, hF⟩ := g_if hF
      exact g_retZ hx hb hr h24 hlocks hF hP hS (Nat.le_of_ble_eq_true rfl) (Nat.le_of_ble_eq_true rfl) dX7_bribe_111
  have HB85 : ∀ (g : g_H) (a0 : Nat) (x1 : Int32) (x2 : Int32) (s0 : Int32) (H : Heap) (locs : List Loc) (ls : Array Slot), f7_bribe_85 g a0 x1 x2 s0 = some (rr, gz) → gP base D s g H → va_S (gA base) s.heap H locs → lv_has ls 4 [(0, .ref a0), (1, .int x1), (2, .int x2)] → W p l e ({ frames := 2, cells := 0, slots := 0, locals := 46 } : Room) s m args below meth c H locs 0 0 (MQ below (gQi base D rr gz) args s 0 0 (gA base)) (F0 m 85 ls [.int s0]) := by
    intro g a0 x1 x2 s0 H locs ls hF hP hS hl
    unfold f7_bribe_85 at hF
    refine lv_istore_n (lv' := [(3, .int s0), (0, .ref a0), (1, .int x1), (2, .int x2)]) hx hb dX7_bribe_85 rfl hl (by decide) rfl (fun ls hl => ?_)
    refine lv_aload_n hx hb dX7_bribe_86 rfl (lv_at hl 1 rfl) ?_
    refine lv_iload_n hx hb dX7_bribe_87 rfl (lv_at hl 2 rfl) ?_
    refine lv_iload_n hx hb dX7_bribe_88 rfl (lv_at hl 0 rfl) ?_
    refine lv_if_eq (tgt := 96) hx hb dX7_bribe_89 (by decide) (fun c13 => ?_) (fun c13 => ?_)
    · have hF := g_t c13 hF
      refine lv_iconst (v := 1) hx hb dX7_bribe_96 (by decide) ?_
      exact HB97 _ _ _ _ _ _ _ _ _ _ _ hF hP hS (lv_sub hl [1, 2, 3, 0] rfl)
    · have hF := g_f c13 hF
      refine lv_iconst (v := (-1)) hx hb dX7_bribe_92 (by decide) ?_
      refine lv_goto (tgt := 97) hx hb dX7_bribe_93 (by decide) ?_
      exact HB97 _ _ _ _ _ _ _ _ _ _ _ hF hP hS (lv_sub hl [1, 2, 3, 0] rfl)
  have HB58 : ∀ (g : g_H) (a0 : Nat) (x1 : Int32) (x2 : Int32) (s0 : Nat) (s1 : Int32) (H : Heap) (locs : List Loc) (ls : Array Slot), f7_bribe_58 g a0 x1 x2 s0 s1 = some (rr, gz) → gP base D s g H → va_S (gA base) s.heap H locs → lv_has ls 4 [(0, .ref a0), (1, .int x1), (2, .int x2)] → W p l e ({ frames := 2, cells := 0, slots := 0, locals := 46 } : Room) s m args below meth c H locs 0 0 (MQ below (gQi base D rr gz) args s 0 0 (gA base)) (F0 m 58 ls [.int s1, .ref s0]) := by
    intro g a0 x1 x2 s0 s1 H locs ls hF hP hS hl
    unfold f7_bribe_58 at hF
    obtain ⟨h6, hF⟩ := g_if hF
    refine g_puti hx hb hts hiX7 tyX7 tyX7_ok nmX7 hown hK hP hS 7 rfl (by decide) h6 0 (by decide) (hts (.fieldLink RX7 35 "CourierBeesModel" "thrown" "I") (by decide +kernel)) (fun _ h9 => h9) (Or.inl rfl) (Or.inl rfl) rfl rfl dX7_bribe_58 (fun H locs hP hS => ?_)
    refine lv_aload_n hx hb dX7_bribe_61 rfl (lv_at hl 0 rfl) ?_
    obtain ⟨h7, hF⟩ := g_if hF
    refine g_get hx hb hts hiX7 hown hK hP 7 rfl (by decide) h7 0 (by decide) (hts (.fieldLink RX7 35 "CourierBeesModel" "thrown" "I") (by decide +kernel)) (fun _ h9 => h9) (gFv_i (Or.inl rfl)) dX7_bribe_62 ?_
    refine lv_if_eq (tgt := 70) hx hb dX7_bribe_65 (by decide) (fun c8 => ?_) (fun c8 => ?_)
    · have hF := g_t c8 hF
      refine lv_aload_n hx hb dX7_bribe_70 rfl (lv_at hl 0 rfl) ?_
      refine lv_iload_n hx hb dX7_bribe_71 rfl (lv_at hl 1 rfl) ?_
      refine lv_iconst (v := 3) hx hb dX7_bribe_72 (by decide) ?_
      obtain ⟨v11, g10, h9, hF⟩ := g_bind2 hF
      refine g_calli (va_runV (As := [.int x1, .int ((3 : Int32))]) (rest := []) ⟨hx, hb, hml, hown, hts⟩ (k7_be l D base (gPI g s0 0 s1) a0 x1 ((3 : Int32)) v11 g10 h9) (cwV 2 hts gX7_bribe_X7_be rfl rfl rfl (by decide +kernel) ⟨Nat.le_of_ble_eq_true rfl, Nat.le_of_ble_eq_true rfl⟩) (gC.preV hE hP hS 7 rfl (by decide) h7 [.int x1, .int ((3 : Int32))]) rfl rfl hl.1 rfl (lv_room (Nat.le_of_ble_eq_true rfl)) dX7_bribe_73 ⟨(Nat.le_of_ble_eq_true rfl), (Nat.le_of_ble_eq_true rfl)⟩) hS (fun H locs hP hS => ?_)
      refine lv_iconst (v := 5) hx hb dX7_bribe_76 (by decide) ?_
      refine lv_icmp_ge (tgt := 84) hx hb dX7_bribe_77 (by decide) (fun c12 => ?_) (fun c12 => ?_)
      · have hF := g_t c12 hF
        refine lv_iconst (v := 0) hx hb dX7_bribe_84 (by decide) ?_
        exact HB85 _ _ _ _ _ _ _ _ hF hP hS (lv_sub hl [0, 1, 2] rfl)
      · have hF := g_f c12 hF
        refine lv_iconst (v := 1) hx hb dX7_bribe_80 (by decide) ?_
        refine lv_goto (tgt := 85) hx hb dX7_bribe_81 (by decide) ?_
        exact HB85 _ _ _ _ _ _ _ _ hF hP hS (lv_sub hl [0, 1, 2] rfl)
    · have hF := g_f c8 hF
      refine lv_iconst (v := 0) hx hb dX7_bribe_68 (by decide) ?_
      exact g_retZ hx hb hr (Or.inl rfl) hlocks hF hP hS (Nat.le_of_ble_eq_true rfl) (Nat.le_of_ble_eq_true rfl) dX7_bribe_69
  have HB17 : ∀ (g : g_H) (a0 : Nat) (x1 : Int32) (x2 : Int32) (s0 : Nat) (H : Heap) (locs : List Loc) (ls : Array Slot), f7_bribe_17 g a0 x1 x2 s0 = some (rr, gz) → gP base D s g H → va_S (gA base) s.heap H locs → lv_has ls 4 [(0, .ref a0), (1, .int x1), (2, .int x2)] → W p l e ({ frames := 2, cells := 0, slots := 0, locals := 46 } : Room) s m args below meth c H locs 0 0 (MQ below (gQi base D rr gz) args s 0 0 (gA base)) (F0 m 17 ls [.ref s0]) := by
    intro g a0 x1 x2 s0 H locs ls hF hP hS hl
    unfold f7_bribe_17 at hF
    refine lv_iconst (v := 1) hx hb dX7_bribe_17 (by decide) ?_
    refine lv_goto (tgt := 58) hx hb dX7_bribe_18 (by decide) ?_
    exact HB58 _ _ _ _ _ _ _ _ _ hF hP hS (lv_sub hl [0, 1, 2] rfl)
  have HB53 : ∀ (g : g_H) (a0 : Nat) (x1 : Int32) (x2 : Int32) (s0 : Nat) (H : Heap) (locs : List Loc) (ls : Array Slot), f7_bribe_53 g a0 x1 x2 s0 = some (rr, gz) → gP base D s g H → va_S (gA base) s.heap H locs → lv_has ls 4 [(0, .ref a0), (1, .int x1), (2, .int x2)] → W p l e ({ frames := 2, cells := 0, slots := 0, locals := 46 } : Room) s m args below meth c H locs 0 0 (MQ below (gQi base D rr gz) args s 0 0 (gA base)) (F0 m 53 ls [.ref s0]) := by
    intro g a0 x1 x2 s0 H locs ls hF hP hS hl
    unfold f7_bribe_53 at hF
    refine lv_iconst (v := 2) hx hb dX7_bribe_53 (by decide) ?_
    refine lv_goto (tgt := 58) hx hb dX7_bribe_54 (by decide) ?_
    exact HB58 _ _ _ _ _ _ _ _ _ hF hP hS (lv_sub hl [0, 1, 2] rfl)
  unfold f7_bribe at hF
  refine lv_aload_n hx hb dX7_bribe_0 rfl (lv_at hl 0 rfl) ?_
  refine lv_aload_n hx hb dX7_bribe_1 rfl (lv_at hl 0 rfl) ?_
  refine lv_iload_n hx hb dX7_bribe_2 rfl (lv_at hl 1 rfl) ?_
  obtain ⟨h2, hF⟩ := g_if hF
  obtain ⟨v4, g3, h1, hF⟩ := g_bind2 hF
  refine g_calli (va_runV (As := [.int x1]) (rest := [.ref a0]) ⟨hx, hb, hml, hown, hts⟩ (k7_isBee l D base g a0 x1 v4 g3 h1) (cwV 1 hts gX7_bribe_X7_isBee rfl rfl rfl (by decide +kernel) ⟨Nat.le_of_ble_eq_true rfl, Nat.le_of_ble_eq_true rfl⟩) (gC.preV hE hP hS 7 rfl (by decide) h2 [.int x1]) rfl rfl hl.1 rfl (lv_room (Nat.le_of_ble_eq_true rfl)) dX7_bribe_3 ⟨(Nat.le_of_ble_eq_true rfl), (Nat.le_of_ble_eq_true rfl)⟩) hS (fun H locs hP hS => ?_)
  refine lv_if_eq (tgt := 17) hx hb dX7_bribe_6 (by decide) (fun c5 => ?_) (fun c5 => ?_)
  · have hF := g_t c5 hF
    exact HB17 _ _ _ _ _ _ _ _ hF hP hS (lv_sub hl [0, 1, 2] rfl)
  · have hF := g_f c5 hF
    refine lv_aload_n hx hb dX7_bribe_9 rfl (lv_at hl 0 rfl) ?_
    refine lv_iload_n hx hb dX7_bribe_10 rfl (lv_at hl 2 rfl) ?_
    obtain ⟨h26, hF⟩ := g_if hF
    obtain ⟨v28, g27, h25, hF⟩ := g_bind2 hF
    refine g_calli (va_runV (As := [.int x2]) (rest := [.ref a0]) ⟨hx, hb, hml, hown, hts⟩ (k7_isLetter l D base g3 a0 x2 v28 g27 h25) (cwV 1 hts gX7_bribe_X7_isLetter rfl rfl rfl (by decide +kernel) ⟨Nat.le_of_ble_eq_true rfl, Nat.le_of_ble_eq_true rfl⟩) (gC.preV hE hP hS 7 rfl (by decide) h26 [.int x2]) rfl rfl hl.1 rfl (lv_room (Nat.le_of_ble_eq_true rfl)) dX7_bribe_11 ⟨(Nat.le_of_ble_eq_true rfl), (Nat.le_of_ble_eq_true rfl)⟩) hS (fun H locs hP hS => ?_)
    refine lv_if_ne (tgt := 21) hx hb dX7_bribe_14 (by decide) (fun c29 => ?_) (fun c29 => ?_)
    · have hF := g_f c29 hF
      refine lv_aload_n hx hb dX7_bribe_21 rfl (lv_at hl 0 rfl) ?_
      refine lv_iload_n hx hb dX7_bribe_22 rfl (lv_at hl 1 rfl) ?_
      refine lv_iconst (v := 1) hx hb dX7_bribe_23 (by decide) ?_
      obtain ⟨h31, hF⟩ := g_if hF
      obtain ⟨v33, g32, h30, hF⟩ := g_bind2 hF
      refine g_calli (va_runV (As := [.int x1, .int ((1 : Int32))]) (rest := [.ref a0]) ⟨hx, hb, hml, hown, hts⟩ (k7_be l D base g27 a0 x1 ((1 : Int32)) v33 g32 h30) (cwV 2 hts gX7_bribe_X7_be rfl rfl rfl (by decide +kernel) ⟨Nat.le_of_ble_eq_true rfl, Nat.le_of_ble_eq_true rfl⟩) (gC.preV hE hP hS 7 rfl (by decide) h31 [.int x1, .int ((1 : Int32))]) rfl rfl hl.1 rfl (lv_room (Nat.le_of_ble_eq_true rfl)) dX7_bribe_24 ⟨(Nat.le_of_ble_eq_true rfl), (Nat.le_of_ble_eq_true rfl)⟩) hS (fun H locs hP hS => ?_)
      refine lv_if_gt (tgt := 53) hx hb dX7_bribe_27 (by decide) (fun c34 => ?_) (fun c34 => ?_)
      · have hF := g_t c34 hF
        exact HB53 _ _ _ _ _ _ _ _ hF hP hS (lv_sub hl [0, 1, 2] rfl)
      · have hF := g_f c34 hF
        refine lv_aload_n hx hb dX7_bribe_30 rfl (lv_at hl 0 rfl) ?_
        refine lv_iload_n hx hb dX7_bribe_31 rfl (lv_at hl 2 rfl) ?_
        refine lv_iconst (v := 1) hx hb dX7_bribe_32 (by decide) ?_
        obtain ⟨h36, hF⟩ := g_if hF
        obtain ⟨v38, g37, h35, hF⟩ := g_bind2 hF
        refine g_calli (va_runV (As := [.int x2, .int ((1 : Int32))]) (rest := [.ref a0]) ⟨hx, hb, hml, hown, hts⟩ (k7_le l D base g32 a0 x2 ((1 : Int32)) v38 g37 h35) (cwV 2 hts gX7_bribe_X7_le rfl rfl rfl (by decide +kernel) ⟨Nat.le_of_ble_eq_true rfl, Nat.le_of_ble_eq_true rfl⟩) (gC.preV hE hP hS 7 rfl (by decide) h36 [.int x2, .int ((1 : Int32))]) rfl rfl hl.1 rfl (lv_room (Nat.le_of_ble_eq_true rfl)) dX7_bribe_33 ⟨(Nat.le_of_ble_eq_true rfl), (Nat.le_of_ble_eq_true rfl)⟩) hS (fun H locs hP hS => ?_)
        refine lv_aload_n hx hb dX7_bribe_36 rfl (lv_at hl 0 rfl) ?_
        refine lv_iload_n hx hb dX7_bribe_37 rfl (lv_at hl 1 rfl) ?_
        obtain ⟨h40, hF⟩ := g_if hF
        obtain ⟨v42, g41, h39, hF⟩ := g_bind2 hF
        refine g_calli (va_runV (As := [.int x1]) (rest := [.int v38, .ref a0]) ⟨hx, hb, hml, hown, hts⟩ (k7_house l D base g37 a0 x1 v42 g41 h39) (cwV 1 hts gX7_bribe_X7_house rfl rfl rfl (by decide +kernel) ⟨Nat.le_of_ble_eq_true rfl, Nat.le_of_ble_eq_true rfl⟩) (gC.preV hE hP hS 7 rfl (by decide) h40 [.int x1]) rfl rfl hl.1 rfl (lv_room (Nat.le_of_ble_eq_true rfl)) dX7_bribe_38 ⟨(Nat.le_of_ble_eq_true rfl), (Nat.le_of_ble_eq_true rfl)⟩) hS (fun H locs hP hS => ?_)
        refine lv_icmp_ne (tgt := 53) hx hb dX7_bribe_41 (by decide) (fun c43 => ?_) (fun c43 => ?_)
        · have hF := g_f c43 hF
          exact HB53 _ _ _ _ _ _ _ _ hF hP hS (lv_sub hl [0, 1, 2] rfl)
        · have hF := g_t c43 hF
          refine lv_aload_n hx hb dX7_bribe_44 rfl (lv_at hl 0 rfl) ?_
          refine lv_iload_n hx hb dX7_bribe_45 rfl (lv_at hl 1 rfl) ?_
          obtain ⟨h45, hF⟩ := g_if hF
          obtain ⟨v47, g46, h44, hF⟩ := g_bind2 hF
          refine g_calli (va_runV (As := [.int x1]) (rest := [.ref a0]) ⟨hx, hb, hml, hown, hts⟩ (k7_carries l D base g41 a0 x1 v47 g46 h44) (cwV 1 hts gX7_bribe_X7_carries rfl rfl rfl (by decide +kernel) ⟨Nat.le_of_ble_eq_true rfl, Nat.le_of_ble_eq_true rfl⟩) (gC.preV hE hP hS 7 rfl (by decide) h45 [.int x1]) rfl rfl hl.1 rfl (lv_room (Nat.le_of_ble_eq_true rfl)) dX7_bribe_46 ⟨(Nat.le_of_ble_eq_true rfl), (Nat.le_of_ble_eq_true rfl)⟩) hS (fun H locs hP hS => ?_)
          refine lv_iconst (v := 3) hx hb dX7_bribe_49 (by decide) ?_
          refine lv_icmp_ne (tgt := 57) hx hb dX7_bribe_50 (by decide) (fun c48 => ?_) (fun c48 => ?_)
          · have hF := g_f c48 hF
            refine lv_iconst (v := 0) hx hb dX7_bribe_57 (by decide) ?_
            exact HB58 _ _ _ _ _ _ _ _ _ hF hP hS (lv_sub hl [0, 1, 2] rfl)
          · have hF := g_t c48 hF
            exact HB53 _ _ _ _ _ _ _ _ hF hP hS (lv_sub hl [0, 1, 2] rfl)
    · have hF := g_t c29 hF
      exact HB17 _ _ _ _ _ _ _ _ hF hP hS (lv_sub hl [0, 1, 2] rfl)
set_option maxHeartbeats 4000000 in
set_option maxRecDepth 100000 in
theorem k7_beeTold (l : Launch) (D : va_G) (base : Nat) (g : g_H) (a0 : Nat) (x1 : Int32) (x2 : Int32) (rr : Int32) (gz : g_H) (hF : f7_beeTold g a0 x1 x2 = some (rr, gz)) : Met l yX7_beeTold wsX7_beeTold ({ frames := 2, cells := 1, slots := 9, locals := 45 } : Room) (va_Pc [.ref a0, .int x1, .int x2] (gC base D g)) (gQi base D rr gz) 1 9 (gA base) := by
  refine g_met (cc := cX7_beeTold) (maxL := 4) (ret := (some .int)) (lst := [(0, .ref a0), (1, .int x1), (2, .int x2)]) (by decide) rfl (Nat.le_of_ble_eq_true rfl) rfl ?_
  intro p e s m args below meth c ls hx hb hr hml hown hlocks hname hts hE hP hl
  have hown : s.vm.findClass RX7 = some m.cls := hown
  have hK := hE.1
  have hov := hE.2.2.2.2.2.2.2.1
  have hbz := hE.2.2.2.2.2.2.2.2.2.2.2.2
  have hS : va_S (gA base) s.heap s.heap [] := va_S.rf
  unfold f7_beeTold at hF
  refine lv_bipush (v := 9) hx hb dX7_beeTold_0 (by decide) ?_
  obtain ⟨q1, g2, e3, e4, h5, hF⟩ := g_nw hF
  refine g_newa (atype := .int) hx hb (hts (.arrayClass .int) (by decide +kernel)) 11 rfl (by decide) rfl hP hS hbz (n := 9) (N' := 9) (by decide) (by decide) (Nat.le_of_ble_eq_true rfl) (Nat.le_of_ble_eq_true rfl) (Nat.le_of_ble_eq_true rfl) dX7_beeTold_2 (fun H hP hS => ?_)
  rw [e4] at hP
  rw [e3]
  refine lv_dup hx hb dX7_beeTold_4 rfl ?_
  refine lv_iconst (v := 0) hx hb dX7_beeTold_5 (by decide) ?_
  refine lv_aload_n hx hb dX7_beeTold_6 rfl (lv_at hl 0 rfl) ?_
  refine lv_iload_n hx hb dX7_beeTold_7 rfl (lv_at hl 1 rfl) ?_
  obtain ⟨h7, hF⟩ := g_if hF
  obtain ⟨v9, g8, h6, hF⟩ := g_bind2 hF
  refine g_calli (va_runV (As := [.int x1]) (rest := [.int ((0 : Int32)), .ref q1, .ref q1]) ⟨hx, hb, hml, hown, hts⟩ (k7_house l D base g2 a0 x1 v9 g8 h6) (cwV 1 hts gX7_beeTold_X7_house rfl rfl rfl (by decide +kernel) ⟨Nat.le_of_ble_eq_true rfl, Nat.le_of_ble_eq_true rfl⟩) (gC.preV hE hP hS 7 rfl (by decide) h7 [.int x1]) rfl rfl hl.1 rfl (lv_room (Nat.le_of_ble_eq_true rfl)) dX7_beeTold_8 ⟨(Nat.le_of_ble_eq_true rfl), (Nat.le_of_ble_eq_true rfl)⟩) hS (fun H locs hP hS => ?_)
  obtain ⟨h10, hF⟩ := g_if hF
  obtain ⟨h11, hF⟩ := g_if hF
  refine g_iast hx hb hP hS (g_pr h10) h11 dX7_beeTold_11 (fun H locs hP hS => ?_)
  refine lv_dup hx hb dX7_beeTold_12 rfl ?_
  refine lv_iconst (v := 1) hx hb dX7_beeTold_13 (by decide) ?_
  refine lv_aload_n hx hb dX7_beeTold_14 rfl (lv_at hl 0 rfl) ?_
  refine lv_iload_n hx hb dX7_beeTold_15 rfl (lv_at hl 1 rfl) ?_
  refine lv_iconst (v := 1) hx hb dX7_beeTold_16 (by decide) ?_
  obtain ⟨h13, hF⟩ := g_if hF
  obtain ⟨v15, g14, h12, hF⟩ := g_bind2 hF
  refine g_calli (va_runV (As := [.int x1, .int ((1 : Int32))]) (rest := [.int ((1 : Int32)), .ref q1, .ref q1]) ⟨hx, hb, hml, hown, hts⟩ (k7_be l D base (gPI g8 q1 (Int32.toNatClampNeg ((0 : Int32))) v9) a0 x1 ((1 : Int32)) v15 g14 h12) (cwV 2 hts gX7_beeTold_X7_be rfl rfl rfl (by decide +kernel) ⟨Nat.le_of_ble_eq_true rfl, Nat.le_of_ble_eq_true rfl⟩) (gC.preV hE hP hS 7 rfl (by decide) h13 [.int x1, .int ((1 : Int32))]) rfl rfl hl.1 rfl (lv_room (Nat.le_of_ble_eq_true rfl)) dX7_beeTold_17 ⟨(Nat.le_of_ble_eq_true rfl), (Nat.le_of_ble_eq_true rfl)⟩) hS (fun H locs hP hS => ?_)
  obtain ⟨h16, hF⟩ := g_if hF
  obtain ⟨h17, hF⟩ := g_if hF
  refine g_iast hx hb hP hS (g_pr h16) h17 dX7_beeTold_20 (fun H locs hP hS => ?_)
  refine lv_dup hx hb dX7_beeTold_21 rfl ?_
  refine lv_iconst (v := 2) hx hb dX7_beeTold_22 (by decide) ?_
  refine lv_aload_n hx hb dX7_beeTold_23 rfl (lv_at hl 0 rfl) ?_
  refine lv_iload_n hx hb dX7_beeTold_24 rfl (lv_at hl 1 rfl) ?_
  refine lv_iconst (v := 2) hx hb dX7_beeTold_25 (by decide) ?_
  obtain ⟨h19, hF⟩ := g_if hF
  obtain ⟨v21, g20, h18, hF⟩ := g_bind2 hF
  refine g_calli (va_runV (As := [.int x1, .int ((2 : Int32))]) (rest := [.int ((2 : Int32)), .ref q1, .ref q1]) ⟨hx, hb, hml, hown, hts⟩ (k7_be l D base (gPI g14 q1 (Int32.toNatClampNeg ((1 : Int32))) v15) a0 x1 ((2 : Int32)) v21 g20 h18) (cwV 2 hts gX7_beeTold_X7_be rfl rfl rfl (by decide +kernel) ⟨Nat.le_of_ble_eq_true rfl, Nat.le_of_ble_eq_true rfl⟩) (gC.preV hE hP hS 7 rfl (by decide) h19 [.int x1, .int ((2 : Int32))]) rfl rfl hl.1 rfl (lv_room (Nat.le_of_ble_eq_true rfl)) dX7_beeTold_26 ⟨(Nat.le_of_ble_eq_true rfl), (Nat.le_of_ble_eq_true rfl)⟩) hS (fun H locs hP hS => ?_)
  obtain ⟨h22, hF⟩ := g_if hF
  obtain ⟨h23, hF⟩ := g_if hF
  refine g_iast hx hb hP hS (g_pr h22) h23 dX7_beeTold_29 (fun H locs hP hS => ?_)
  refine lv_dup hx hb dX7_beeTold_30 rfl ?_
  refine lv_iconst (v := 3) hx hb dX7_beeTold_31 (by decide) ?_
  refine lv_aload_n hx hb dX7_beeTold_32 rfl (lv_at hl 0 rfl) ?_
  refine lv_iload_n hx hb dX7_beeTold_33 rfl (lv_at hl 1 rfl) ?_
  refine lv_iconst (v := 3) hx hb dX7_beeTold_34 (by decide) ?_
  obtain ⟨h25, hF⟩ := g_if hF
  obtain ⟨v27, g26, h24, hF⟩ := g_bind2 hF
  refine g_calli (va_runV (As := [.int x1, .int ((3 : Int32))]) (rest := [.int ((3 : Int32)), .ref q1, .ref q1]) ⟨hx, hb, hml, hown, hts⟩ (k7_be l D base (gPI g20 q1 (Int32.toNatClampNeg ((2 : Int32))) v21) a0 x1 ((3 : Int32)) v27 g26 h24) (cwV 2 hts gX7_beeTold_X7_be rfl rfl rfl (by decide +kernel) ⟨Nat.le_of_ble_eq_true rfl, Nat.le_of_ble_eq_true rfl⟩) (gC.preV hE hP hS 7 rfl (by decide) h25 [.int x1, .int ((3 : Int32))]) rfl rfl hl.1 rfl (lv_room (Nat.le_of_ble_eq_true rfl)) dX7_beeTold_35 ⟨(Nat.le_of_ble_eq_true rfl), (Nat.le_of_ble_eq_true rfl)⟩) hS (fun H locs hP hS => ?_)
  obtain ⟨h28, hF⟩ := g_if hF
  obtain ⟨h29, hF⟩ := g_if hF
  refine g_iast hx hb hP hS (g_pr h28) h29 dX7_beeTold_38 (fun H locs hP hS => ?_)
  refine lv_dup hx hb dX7_beeTold_39 rfl ?_
  refine lv_iconst (v := 4) hx hb dX7_beeTold_40 (by decide) ?_
  refine lv_aload_n hx hb dX7_beeTold_41 rfl (lv_at hl 0 rfl) ?_
  refine lv_iload_n hx hb dX7_beeTold_42 rfl (lv_at hl 1 rfl) ?_
  obtain ⟨h31, hF⟩ := g_if hF
  obtain ⟨v33, g32, h30, hF⟩ := g_bind2 hF
  refine g_calli (va_runV (As := [.int x1]) (rest := [.int ((4 : Int32)), .ref q1, .ref q1]) ⟨hx, hb, hml, hown, hts⟩ (k7_carries l D base (gPI g26 q1 (Int32.toNatClampNeg ((3 : Int32))) v27) a0 x1 v33 g32 h30) (cwV 1 hts gX7_beeTold_X7_carries rfl rfl rfl (by decide +kernel) ⟨Nat.le_of_ble_eq_true rfl, Nat.le_of_ble_eq_true rfl⟩) (gC.preV hE hP hS 7 rfl (by decide) h31 [.int x1]) rfl rfl hl.1 rfl (lv_room (Nat.le_of_ble_eq_true rfl)) dX7_beeTold_43 ⟨(Nat.le_of_ble_eq_true rfl), (Nat.le_of_ble_eq_true rfl)⟩) hS (fun H locs hP hS => ?_)
  obtain ⟨h34, hF⟩ := g_if hF
  obtain ⟨h35, hF⟩ := g_if hF
  refine g_iast hx hb hP hS (g_pr h34) h35 dX7_beeTold_46 (fun H locs hP hS => ?_)
  refine lv_dup hx hb dX7_beeTold_47 rfl ?_
  refine lv_iconst (v := 5) hx hb dX7_beeTold_48 (by decide) ?_
  refine lv_aload_n hx hb dX7_beeTold_49 rfl (lv_at hl 0 rfl) ?_
  refine lv_iload_n hx hb dX7_beeTold_50 rfl (lv_at hl 1 rfl) ?_
  refine lv_iconst (v := 4) hx hb dX7_beeTold_51 (by decide) ?_
  obtain ⟨h37, hF⟩ := g_if hF
  obtain ⟨v39, g38, h36, hF⟩ := g_bind2 hF
  refine g_calli (va_runV (As := [.int x1, .int ((4 : Int32))]) (rest := [.int ((5 : Int32)), .ref q1, .ref q1]) ⟨hx, hb, hml, hown, hts⟩ (k7_be l D base (gPI g32 q1 (Int32.toNatClampNeg ((4 : Int32))) v33) a0 x1 ((4 : Int32)) v39 g38 h36) (cwV 2 hts gX7_beeTold_X7_be rfl rfl rfl (by decide +kernel) ⟨Nat.le_of_ble_eq_true rfl, Nat.le_of_ble_eq_true rfl⟩) (gC.preV hE hP hS 7 rfl (by decide) h37 [.int x1, .int ((4 : Int32))]) rfl rfl hl.1 rfl (lv_room (Nat.le_of_ble_eq_true rfl)) dX7_beeTold_52 ⟨(Nat.le_of_ble_eq_true rfl), (Nat.le_of_ble_eq_true rfl)⟩) hS (fun H locs hP hS => ?_)
  obtain ⟨h40, hF⟩ := g_if hF
  obtain ⟨h41, hF⟩ := g_if hF
  refine g_iast hx hb hP hS (g_pr h40) h41 dX7_beeTold_55 (fun H locs hP hS => ?_)
  refine lv_dup hx hb dX7_beeTold_56 rfl ?_
  refine lv_bipush (v := 6) hx hb dX7_beeTold_57 (by decide) ?_
  refine lv_aload_n hx hb dX7_beeTold_59 rfl (lv_at hl 0 rfl) ?_
  refine lv_iload_n hx hb dX7_beeTold_60 rfl (lv_at hl 1 rfl) ?_
  refine lv_iconst (v := 5) hx hb dX7_beeTold_61 (by decide) ?_
  obtain ⟨h43, hF⟩ := g_if hF
  obtain ⟨v45, g44, h42, hF⟩ := g_bind2 hF
  refine g_calli (va_runV (As := [.int x1, .int ((5 : Int32))]) (rest := [.int ((6 : Int32)), .ref q1, .ref q1]) ⟨hx, hb, hml, hown, hts⟩ (k7_be l D base (gPI g38 q1 (Int32.toNatClampNeg ((5 : Int32))) v39) a0 x1 ((5 : Int32)) v45 g44 h42) (cwV 2 hts gX7_beeTold_X7_be rfl rfl rfl (by decide +kernel) ⟨Nat.le_of_ble_eq_true rfl, Nat.le_of_ble_eq_true rfl⟩) (gC.preV hE hP hS 7 rfl (by decide) h43 [.int x1, .int ((5 : Int32))]) rfl rfl hl.1 rfl (lv_room (Nat.le_of_ble_eq_true rfl)) dX7_beeTold_62 ⟨(Nat.le_of_ble_eq_true rfl), (Nat.le_of_ble_eq_true rfl)⟩) hS (fun H locs hP hS => ?_)
  obtain ⟨h46, hF⟩ := g_if hF
  obtain ⟨h47, hF⟩ := g_if hF
  refine g_iast hx hb hP hS (g_pr h46) h47 dX7_beeTold_65 (fun H locs hP hS => ?_)
  refine lv_dup hx hb dX7_beeTold_66 rfl ?_
  refine lv_bipush (v := 7) hx hb dX7_beeTold_67 (by decide) ?_
  refine lv_aload_n hx hb dX7_beeTold_69 rfl (lv_at hl 0 rfl) ?_
  refine lv_iload_n hx hb dX7_beeTold_70 rfl (lv_at hl 1 rfl) ?_
  refine lv_bipush (v := 6) hx hb dX7_beeTold_71 (by decide) ?_
  obtain ⟨h49, hF⟩ := g_if hF
  obtain ⟨v51, g50, h48, hF⟩ := g_bind2 hF
  refine g_calli (va_runV (As := [.int x1, .int ((6 : Int32))]) (rest := [.int ((7 : Int32)), .ref q1, .ref q1]) ⟨hx, hb, hml, hown, hts⟩ (k7_be l D base (gPI g44 q1 (Int32.toNatClampNeg ((6 : Int32))) v45) a0 x1 ((6 : Int32)) v51 g50 h48) (cwV 2 hts gX7_beeTold_X7_be rfl rfl rfl (by decide +kernel) ⟨Nat.le_of_ble_eq_true rfl, Nat.le_of_ble_eq_true rfl⟩) (gC.preV hE hP hS 7 rfl (by decide) h49 [.int x1, .int ((6 : Int32))]) rfl rfl hl.1 rfl (lv_room (Nat.le_of_ble_eq_true rfl)) dX7_beeTold_73 ⟨(Nat.le_of_ble_eq_true rfl), (Nat.le_of_ble_eq_true rfl)⟩) hS (fun H locs hP hS => ?_)
  obtain ⟨h52, hF⟩ := g_if hF
  obtain ⟨h53, hF⟩ := g_if hF
  refine g_iast hx hb hP hS (g_pr h52) h53 dX7_beeTold_76 (fun H locs hP hS => ?_)
  refine lv_dup hx hb dX7_beeTold_77 rfl ?_
  refine lv_bipush (v := 8) hx hb dX7_beeTold_78 (by decide) ?_
  refine lv_aload_n hx hb dX7_beeTold_80 rfl (lv_at hl 0 rfl) ?_
  refine lv_iload_n hx hb dX7_beeTold_81 rfl (lv_at hl 1 rfl) ?_
  refine lv_bipush (v := 7) hx hb dX7_beeTold_82 (by decide) ?_
  obtain ⟨h55, hF⟩ := g_if hF
  obtain ⟨v57, g56, h54, hF⟩ := g_bind2 hF
  refine g_calli (va_runV (As := [.int x1, .int ((7 : Int32))]) (rest := [.int ((8 : Int32)), .ref q1, .ref q1]) ⟨hx, hb, hml, hown, hts⟩ (k7_be l D base (gPI g50 q1 (Int32.toNatClampNeg ((7 : Int32))) v51) a0 x1 ((7 : Int32)) v57 g56 h54) (cwV 2 hts gX7_beeTold_X7_be rfl rfl rfl (by decide +kernel) ⟨Nat.le_of_ble_eq_true rfl, Nat.le_of_ble_eq_true rfl⟩) (gC.preV hE hP hS 7 rfl (by decide) h55 [.int x1, .int ((7 : Int32))]) rfl rfl hl.1 rfl (lv_room (Nat.le_of_ble_eq_true rfl)) dX7_beeTold_84 ⟨(Nat.le_of_ble_eq_true rfl), (Nat.le_of_ble_eq_true rfl)⟩) hS (fun H locs hP hS => ?_)
  obtain ⟨h58, hF⟩ := g_if hF
  obtain ⟨h59, hF⟩ := g_if hF
  refine g_iast hx hb hP hS (g_pr h58) h59 dX7_beeTold_87 (fun H locs hP hS => ?_)
  refine lv_astore_n (lv' := [(3, .ref q1), (0, .ref a0), (1, .int x1), (2, .int x2)]) hx hb dX7_beeTold_88 rfl hl (by decide) rfl (fun ls hl => ?_)
  refine lv_aload_n hx hb dX7_beeTold_89 rfl (lv_at hl 0 rfl) ?_
  refine lv_iload_n hx hb dX7_beeTold_90 rfl (lv_at hl 3 rfl) ?_
  obtain ⟨h60, hF⟩ := g_if hF
  refine g_iald hx hb hP (g_pr h58) h60 dX7_beeTold_91 ?_
  exact g_retI hx hb hr hlocks hF hP hS (Nat.le_of_ble_eq_true rfl) (Nat.le_of_ble_eq_true rfl) dX7_beeTold_92
set_option maxHeartbeats 4000000 in
set_option maxRecDepth 100000 in
theorem k7_bee (l : Launch) (D : va_G) (base : Nat) (g : g_H) (a0 : Nat) (x1 : Int32) (x2 : Int32) (rr : Int32) (gz : g_H) (hF : f7_bee g a0 x1 x2 = some (rr, gz)) : Met l yX7_bee wsX7_bee ({ frames := 3, cells := 1, slots := 9, locals := 68 } : Room) (va_Pc [.ref a0, .int x1, .int x2] (gC base D g)) (gQi base D rr gz) 1 9 (gA base) := by
  refine g_met (cc := cX7_bee) (maxL := 3) (ret := (some .int)) (lst := [(0, .ref a0), (1, .int x1), (2, .int x2)]) (by decide) rfl (Nat.le_of_ble_eq_true rfl) rfl ?_
  intro p e s m args below meth c ls hx hb hr hml hown hlocks hname hts hE hP hl
  have hown : s.vm.findClass RX7 = some m.cls := hown
  have hK := hE.1
  have hov := hE.2.2.2.2.2.2.2.1
  have hbz := hE.2.2.2.2.2.2.2.2.2.2.2.2
  have hS : va_S (gA base) s.heap s.heap [] := va_S.rf
  have hiX7 : ∀ w ∈ wsX70, w ∈ wsX7_bee := by decide +kernel
  have HB32 : ∀ (g : g_H) (a0 : Nat) (H : Heap) (locs : List Loc) (ls : Array Slot), f7_bee_32 g a0 = some (rr, gz) → gP base D s g H → va_S (gA base) s.heap H locs → lv_has ls 3 [(0, .ref a0)] → W p l e ({ frames := 3, cells := 1, slots := 9, locals := 68 } : Room) s m args below meth c H locs 0 0 (MQ below (gQi base D rr gz) args s 1 9 (gA base)) (F0 m 32 ls []) := by
    intro g a0 H locs ls hF hP hS hl
    unfold f7_bee_32 at hF
    refine lv_aload_n hx hb dX7_bee_32 rfl (lv_at hl 0 rfl) ?_
    refine lv_iconst (v := 1) hx hb dX7_bee_33 (by decide) ?_
    obtain ⟨h7, hF⟩ := g_if hF
    obtain ⟨v9, g8, h6, hF⟩ := g_bind2 hF
    refine g_calli (va_runV (As := [.int ((1 : Int32))]) (rest := []) ⟨hx, hb, hml, hown, hts⟩ (k7_fail l D base g a0 ((1 : Int32)) v9 g8 h6) (cwV 1 hts gX7_bee_X7_fail rfl rfl rfl (by decide +kernel) ⟨Nat.le_of_ble_eq_true rfl, Nat.le_of_ble_eq_true rfl⟩) (gC.preV hE hP hS 7 rfl (by decide) h7 [.int ((1 : Int32))]) rfl rfl hl.1 rfl (lv_room (Nat.le_of_ble_eq_true rfl)) dX7_bee_34 ⟨(Nat.le_of_ble_eq_true rfl), (Nat.le_of_ble_eq_true rfl)⟩) hS (fun H locs hP hS => ?_)
    exact g_retI hx hb hr hlocks hF hP hS (Nat.le_of_ble_eq_true rfl) (Nat.le_of_ble_eq_true rfl) dX7_bee_37
  unfold f7_bee at hF
  refine lv_aload_n hx hb dX7_bee_0 rfl (lv_at hl 0 rfl) ?_
  refine lv_iconst (v := 0) hx hb dX7_bee_1 (by decide) ?_
  obtain ⟨h1, hF⟩ := g_if hF
  refine g_puti hx hb hts hiX7 tyX7 tyX7_ok nmX7 hown hK hP hS 7 rfl (by decide) h1 0 (by decide) (hts (.fieldLink RX7 35 "CourierBeesModel" "thrown" "I") (by decide +kernel)) (fun _ h9 => h9) (Or.inl rfl) (Or.inl rfl) rfl rfl dX7_bee_2 (fun H locs hP hS => ?_)
  refine lv_aload_n hx hb dX7_bee_5 rfl (lv_at hl 0 rfl) ?_
  refine lv_iload_n hx hb dX7_bee_6 rfl (lv_at hl 1 rfl) ?_
  obtain ⟨v4, g3, h2, hF⟩ := g_bind2 hF
  refine g_calli (va_runV (As := [.int x1]) (rest := []) ⟨hx, hb, hml, hown, hts⟩ (k7_isBee l D base (gPI g a0 0 ((0 : Int32))) a0 x1 v4 g3 h2) (cwV 1 hts gX7_bee_X7_isBee rfl rfl rfl (by decide +kernel) ⟨Nat.le_of_ble_eq_true rfl, Nat.le_of_ble_eq_true rfl⟩) (gC.preV hE hP hS 7 rfl (by decide) h1 [.int x1]) rfl rfl hl.1 rfl (lv_room (Nat.le_of_ble_eq_true rfl)) dX7_bee_7 ⟨(Nat.le_of_ble_eq_true rfl), (Nat.le_of_ble_eq_true rfl)⟩) hS (fun H locs hP hS => ?_)
  refine lv_if_eq (tgt := 32) hx hb dX7_bee_10 (by decide) (fun c5 => ?_) (fun c5 => ?_)
  · have hF := g_t c5 hF
    exact HB32 _ _ _ _ _ hF hP hS (lv_sub hl [0] rfl)
  · have hF := g_f c5 hF
    refine lv_iload_n hx hb dX7_bee_13 rfl (lv_at hl 2 rfl) ?_
    refine lv_iconst (v := 0) hx hb dX7_bee_14 (by decide) ?_
    refine lv_bipush (v := 8) hx hb dX7_bee_15 (by decide) ?_
    obtain ⟨v12, g11, h10, hF⟩ := g_bind2 hF
    refine g_calli (va_runS (As := [.int x2, .int ((0 : Int32)), .int ((8 : Int32))]) (rest := []) ⟨hx, hb, hml, hown, hts⟩ (k7_isIn l D base g3 x2 ((0 : Int32)) ((8 : Int32)) v12 g11 h10) (va_cwS 3 hts gX7_bee_X7_isIn rfl rfl rfl (by decide +kernel) ⟨Nat.le_of_ble_eq_true rfl, Nat.le_of_ble_eq_true rfl⟩) (gC.preS hE hP hS [.int x2, .int ((0 : Int32)), .int ((8 : Int32))]) rfl rfl hl.1 rfl (lv_room (Nat.le_of_ble_eq_true rfl)) dX7_bee_17 ⟨(Nat.le_of_ble_eq_true rfl), (Nat.le_of_ble_eq_true rfl)⟩) hS (fun H locs hP hS => ?_)
    refine lv_if_eq (tgt := 32) hx hb dX7_bee_20 (by decide) (fun c13 => ?_) (fun c13 => ?_)
    · have hF := g_t c13 hF
      exact HB32 _ _ _ _ _ hF hP hS (lv_sub hl [0] rfl)
    · have hF := g_f c13 hF
      refine lv_aload_n hx hb dX7_bee_23 rfl (lv_at hl 0 rfl) ?_
      refine lv_iload_n hx hb dX7_bee_24 rfl (lv_at hl 1 rfl) ?_
      refine lv_iload_n hx hb dX7_bee_25 rfl (lv_at hl 2 rfl) ?_
      obtain ⟨h15, hF⟩ := g_if hF
      obtain ⟨v17, g16, h14, hF⟩ := g_bind2 hF
      refine g_calli (va_runV (As := [.int x1, .int x2]) (rest := []) ⟨hx, hb, hml, hown, hts⟩ (k7_beeTold l D base g11 a0 x1 x2 v17 g16 h14) (cwV 2 hts gX7_bee_X7_beeTold rfl rfl rfl (by decide +kernel) ⟨Nat.le_of_ble_eq_true rfl, Nat.le_of_ble_eq_true rfl⟩) (gC.preV hE hP hS 7 rfl (by decide) h15 [.int x1, .int x2]) rfl rfl hl.1 rfl (lv_room (Nat.le_of_ble_eq_true rfl)) dX7_bee_26 ⟨(Nat.le_of_ble_eq_true rfl), (Nat.le_of_ble_eq_true rfl)⟩) hS (fun H locs hP hS => ?_)
      refine lv_goto (tgt := 37) hx hb dX7_bee_29 (by decide) ?_
      exact g_retI hx hb hr hlocks hF hP hS (Nat.le_of_ble_eq_true rfl) (Nat.le_of_ble_eq_true rfl) dX7_bee_37
set_option maxHeartbeats 4000000 in
set_option maxRecDepth 100000 in
theorem k7_letter (l : Launch) (D : va_G) (base : Nat) (g : g_H) (a0 : Nat) (x1 : Int32) (x2 : Int32) (rr : Int32) (gz : g_H) (hF : f7_letter g a0 x1 x2 = some (rr, gz)) : Met l yX7_letter wsX7_letter ({ frames := 2, cells := 0, slots := 0, locals := 43 } : Room) (va_Pc [.ref a0, .int x1, .int x2] (gC base D g)) (gQi base D rr gz) 0 0 (gA base) := by
  refine g_met (cc := cX7_letter) (maxL := 3) (ret := (some .int)) (lst := [(0, .ref a0), (1, .int x1), (2, .int x2)]) (by decide) rfl (Nat.le_of_ble_eq_true rfl) rfl ?_
  intro p e s m args below meth c ls hx hb hr hml hown hlocks hname hts hE hP hl
  have hown : s.vm.findClass RX7 = some m.cls := hown
  have hK := hE.1
  have hov := hE.2.2.2.2.2.2.2.1
  have hbz := hE.2.2.2.2.2.2.2.2.2.2.2.2
  have hS : va_S (gA base) s.heap s.heap [] := va_S.rf
  have hiX7 : ∀ w ∈ wsX70, w ∈ wsX7_letter := by decide +kernel
  have HB31 : ∀ (g : g_H) (a0 : Nat) (H : Heap) (locs : List Loc) (ls : Array Slot), f7_letter_31 g a0 = some (rr, gz) → gP base D s g H → va_S (gA base) s.heap H locs → lv_has ls 3 [(0, .ref a0)] → W p l e ({ frames := 2, cells := 0, slots := 0, locals := 43 } : Room) s m args below meth c H locs 0 0 (MQ below (gQi base D rr gz) args s 0 0 (gA base)) (F0 m 31 ls []) := by
    intro g a0 H locs ls hF hP hS hl
    unfold f7_letter_31 at hF
    refine lv_aload_n hx hb dX7_letter_31 rfl (lv_at hl 0 rfl) ?_
    refine lv_iconst (v := 1) hx hb dX7_letter_32 (by decide) ?_
    obtain ⟨h7, hF⟩ := g_if hF
    obtain ⟨v9, g8, h6, hF⟩ := g_bind2 hF
    refine g_calli (va_runV (As := [.int ((1 : Int32))]) (rest := []) ⟨hx, hb, hml, hown, hts⟩ (k7_fail l D base g a0 ((1 : Int32)) v9 g8 h6) (cwV 1 hts gX7_letter_X7_fail rfl rfl rfl (by decide +kernel) ⟨Nat.le_of_ble_eq_true rfl, Nat.le_of_ble_eq_true rfl⟩) (gC.preV hE hP hS 7 rfl (by decide) h7 [.int ((1 : Int32))]) rfl rfl hl.1 rfl (lv_room (Nat.le_of_ble_eq_true rfl)) dX7_letter_33 ⟨(Nat.le_of_ble_eq_true rfl), (Nat.le_of_ble_eq_true rfl)⟩) hS (fun H locs hP hS => ?_)
    exact g_retI hx hb hr hlocks hF hP hS (Nat.le_of_ble_eq_true rfl) (Nat.le_of_ble_eq_true rfl) dX7_letter_36
  unfold f7_letter at hF
  refine lv_aload_n hx hb dX7_letter_0 rfl (lv_at hl 0 rfl) ?_
  refine lv_iconst (v := 0) hx hb dX7_letter_1 (by decide) ?_
  obtain ⟨h1, hF⟩ := g_if hF
  refine g_puti hx hb hts hiX7 tyX7 tyX7_ok nmX7 hown hK hP hS 7 rfl (by decide) h1 0 (by decide) (hts (.fieldLink RX7 35 "CourierBeesModel" "thrown" "I") (by decide +kernel)) (fun _ h9 => h9) (Or.inl rfl) (Or.inl rfl) rfl rfl dX7_letter_2 (fun H locs hP hS => ?_)
  refine lv_aload_n hx hb dX7_letter_5 rfl (lv_at hl 0 rfl) ?_
  refine lv_iload_n hx hb dX7_letter_6 rfl (lv_at hl 1 rfl) ?_
  obtain ⟨v4, g3, h2, hF⟩ := g_bind2 hF
  refine g_calli (va_runV (As := [.int x1]) (rest := []) ⟨hx, hb, hml, hown, hts⟩ (k7_isLetter l D base (gPI g a0 0 ((0 : Int32))) a0 x1 v4 g3 h2) (cwV 1 hts gX7_letter_X7_isLetter rfl rfl rfl (by decide +kernel) ⟨Nat.le_of_ble_eq_true rfl, Nat.le_of_ble_eq_true rfl⟩) (gC.preV hE hP hS 7 rfl (by decide) h1 [.int x1]) rfl rfl hl.1 rfl (lv_room (Nat.le_of_ble_eq_true rfl)) dX7_letter_7 ⟨(Nat.le_of_ble_eq_true rfl), (Nat.le_of_ble_eq_true rfl)⟩) hS (fun H locs hP hS => ?_)
  refine lv_if_eq (tgt := 31) hx hb dX7_letter_10 (by decide) (fun c5 => ?_) (fun c5 => ?_)
  · have hF := g_t c5 hF
    exact HB31 _ _ _ _ _ hF hP hS (lv_sub hl [0] rfl)
  · have hF := g_f c5 hF
    refine lv_iload_n hx hb dX7_letter_13 rfl (lv_at hl 2 rfl) ?_
    refine lv_iconst (v := 0) hx hb dX7_letter_14 (by decide) ?_
    refine lv_iconst (v := 4) hx hb dX7_letter_15 (by decide) ?_
    obtain ⟨v12, g11, h10, hF⟩ := g_bind2 hF
    refine g_calli (va_runS (As := [.int x2, .int ((0 : Int32)), .int ((4 : Int32))]) (rest := []) ⟨hx, hb, hml, hown, hts⟩ (k7_isIn l D base g3 x2 ((0 : Int32)) ((4 : Int32)) v12 g11 h10) (va_cwS 3 hts gX7_letter_X7_isIn rfl rfl rfl (by decide +kernel) ⟨Nat.le_of_ble_eq_true rfl, Nat.le_of_ble_eq_true rfl⟩) (gC.preS hE hP hS [.int x2, .int ((0 : Int32)), .int ((4 : Int32))]) rfl rfl hl.1 rfl (lv_room (Nat.le_of_ble_eq_true rfl)) dX7_letter_16 ⟨(Nat.le_of_ble_eq_true rfl), (Nat.le_of_ble_eq_true rfl)⟩) hS (fun H locs hP hS => ?_)
    refine lv_if_eq (tgt := 31) hx hb dX7_letter_19 (by decide) (fun c13 => ?_) (fun c13 => ?_)
    · have hF := g_t c13 hF
      exact HB31 _ _ _ _ _ hF hP hS (lv_sub hl [0] rfl)
    · have hF := g_f c13 hF
      refine lv_aload_n hx hb dX7_letter_22 rfl (lv_at hl 0 rfl) ?_
      refine lv_iload_n hx hb dX7_letter_23 rfl (lv_at hl 1 rfl) ?_
      refine lv_iload_n hx hb dX7_letter_24 rfl (lv_at hl 2 rfl) ?_
      obtain ⟨h15, hF⟩ := g_if hF
      obtain ⟨v17, g16, h14, hF⟩ := g_bind2 hF
      refine g_calli (va_runV (As := [.int x1, .int x2]) (rest := []) ⟨hx, hb, hml, hown, hts⟩ (k7_le l D base g11 a0 x1 x2 v17 g16 h14) (cwV 2 hts gX7_letter_X7_le rfl rfl rfl (by decide +kernel) ⟨Nat.le_of_ble_eq_true rfl, Nat.le_of_ble_eq_true rfl⟩) (gC.preV hE hP hS 7 rfl (by decide) h15 [.int x1, .int x2]) rfl rfl hl.1 rfl (lv_room (Nat.le_of_ble_eq_true rfl)) dX7_letter_25 ⟨(Nat.le_of_ble_eq_true rfl), (Nat.le_of_ble_eq_true rfl)⟩) hS (fun H locs hP hS => ?_)
      refine lv_goto (tgt := 36) hx hb dX7_letter_28 (by decide) ?_
      exact g_retI hx hb hr hlocks hF hP hS (Nat.le_of_ble_eq_true rfl) (Nat.le_of_ble_eq_true rfl) dX7_letter_36
set_option maxHeartbeats 4000000 in
set_option maxRecDepth 100000 in
theorem k7_targetOf (l : Launch) (D : va_G) (base : Nat) (g : g_H) (a0 : Nat) (x1 : Int32) (x2 : Int32) (rr : Int32) (gz : g_H) (hF : f7_targetOf g a0 x1 x2 = some (rr, gz)) : Met l yX7_targetOf wsX7_targetOf ({ frames := 2, cells := 0, slots := 0, locals := 46 } : Room) (va_Pc [.ref a0, .int x1, .int x2] (gC base D g)) (gQi base D rr gz) 0 0 (gA base) := by
  refine g_met (cc := cX7_targetOf) (maxL := 6) (ret := (some .int)) (lst := [(0, .ref a0), (1, .int x1), (2, .int x2)]) (by decide) rfl (Nat.le_of_ble_eq_true rfl) rfl ?_
  intro p e s m args below meth c ls hx hb hr hml hown hlocks hname hts hE hP hl
  have hown : s.vm.findClass RX7 = some m.cls := hown
  have hK := hE.1
  have hov := hE.2.2.2.2.2.2.2.1
  have hbz := hE.2.2.2.2.2.2.2.2.2.2.2.2
  have hS : va_S (gA base) s.heap s.heap [] := va_S.rf
  have hiX7 : ∀ w ∈ wsX70, w ∈ wsX7_targetOf := by decide +kernel
  have HL5 : ∀ (n5 : Nat), ∀ (g : g_H) (a0 : Nat) (x1 : Int32) (x2 : Int32) (x3 : Int32) (x4 : Int32) (H : Heap) (locs : List Loc) (ls : Array Slot), f7_targetOf_5 n5 g a0 x1 x2 x3 x4 = some (rr, gz) → gP base D s g H → va_S (gA base) s.heap H locs → lv_has ls 6 [(0, .ref a0), (1, .int x1), (2, .int x2), (3, .int x3), (4, .int x4)] → W p l e ({ frames := 2, cells := 0, slots := 0, locals := 46 } : Room) s m args below meth c H locs 0 0 (MQ below (gQi base D rr gz) args s 0 0 (gA base)) (F0 m 5 ls []) := by
    intro n5
    induction n5 with
    | zero => intro g a0 x1 x2 x3 x4 H locs ls hF hP hS hl; exact g_no hF
    | succ n5 ih5 =>
      have HB60 : ∀ (g : g_H) (a0 : Nat) (x1 : Int32) (x2 : Int32) (x3 : Int32) (x4 : Int32) (H : Heap) (locs : List Loc) (ls : Array Slot), f7_targetOf_60 (f7_targetOf_5 n5) g a0 x1 x2 x3 x4 = some (rr, gz) → gP base D s g H → va_S (gA base) s.heap H locs → lv_has ls 6 [(0, .ref a0), (1, .int x1), (2, .int x2), (3, .int x3), (4, .int x4)] → W p l e ({ frames := 2, cells := 0, slots := 0, locals := 46 } : Room) s m args below meth c H locs 0 0 (MQ below (gQi base D rr gz) args s 0 0 (gA base)) (F0 m 60 ls []) := by
        intro g a0 x1 x2 x3 x4 H locs ls hF hP hS hl
        unfold f7_targetOf_60 at hF
        refine lv_iinc (v := x4 + (1 : Int32)) (lv' := [(4, .int (x4 + (1 : Int32))), (0, .ref a0), (1, .int x1), (2, .int x2), (3, .int x3)]) hx hb dX7_targetOf_60 hl (k := 4) rfl rfl (by decide) rfl (fun ls hl => ?_)
        refine lv_goto (tgt := 5) hx hb dX7_targetOf_63 (by decide) ?_
        exact ih5 _ _ _ _ _ _ _ _ _ hF hP hS (lv_sub hl [1, 2, 3, 4, 0] rfl)
      have HB54 : ∀ (g : g_H) (a0 : Nat) (x1 : Int32) (x2 : Int32) (x3 : Int32) (x4 : Int32) (x5 : Int32) (s0 : Int32) (s1 : Int32) (H : Heap) (locs : List Loc) (ls : Array Slot), f7_targetOf_54 (f7_targetOf_5 n5) g a0 x1 x2 x3 x4 x5 s0 s1 = some (rr, gz) → gP base D s g H → va_S (gA base) s.heap H locs → lv_has ls 6 [(0, .ref a0), (1, .int x1), (2, .int x2), (3, .int x3), (4, .int x4), (5, .int x5)] → W p l e ({ frames := 2, cells := 0, slots := 0, locals := 46 } : Room) s m args below meth c H locs 0 0 (MQ below (gQi base D rr gz) args s 0 0 (gA base)) (F0 m 54 ls [.int s1, .int s0]) := by
        intro g a0 x1 x2 x3 x4 x5 s0 s1 H locs ls hF hP hS hl
        unfold f7_targetOf_54 at hF
        refine lv_icmp_ge (tgt := 60) hx hb dX7_targetOf_54 (by decide) (fun c19 => ?_) (fun c19 => ?_)
        · have hF := g_t c19 hF
          exact HB60 _ _ _ _ _ _ _ _ _ hF hP hS (lv_sub hl [0, 1, 2, 3, 4] rfl)
        · have hF := g_f c19 hF
          refine lv_iload hx hb dX7_targetOf_57 (lv_at hl 5 rfl) ?_
          refine lv_istore_n (lv' := [(3, .int x5), (0, .ref a0), (1, .int x1), (2, .int x2), (4, .int x4), (5, .int x5)]) hx hb dX7_targetOf_59 rfl hl (by decide) rfl (fun ls hl => ?_)
          exact HB60 _ _ _ _ _ _ _ _ _ hF hP hS (lv_sub hl [1, 2, 3, 0, 4] rfl)
      intro g a0 x1 x2 x3 x4 H locs ls hF hP hS hl
      have hF : f7_targetOf_5b (f7_targetOf_5 n5) g a0 x1 x2 x3 x4 = some (rr, gz) := hF
      unfold f7_targetOf_5b at hF
      refine lv_iload hx hb dX7_targetOf_5 (lv_at hl 4 rfl) ?_
      refine lv_aload_n hx hb dX7_targetOf_7 rfl (lv_at hl 0 rfl) ?_
      refine lv_iload_n hx hb dX7_targetOf_8 rfl (lv_at hl 1 rfl) ?_
      refine lv_iconst (v := 5) hx hb dX7_targetOf_9 (by decide) ?_
      obtain ⟨h2, hF⟩ := g_if hF
      obtain ⟨v4, g3, h1, hF⟩ := g_bind2 hF
      refine g_calli (va_runV (As := [.int x1, .int ((5 : Int32))]) (rest := [.int x4]) ⟨hx, hb, hml, hown, hts⟩ (k7_be l D base g a0 x1 ((5 : Int32)) v4 g3 h1) (cwV 2 hts gX7_targetOf_X7_be rfl rfl rfl (by decide +kernel) ⟨Nat.le_of_ble_eq_true rfl, Nat.le_of_ble_eq_true rfl⟩) (gC.preV hE hP hS 7 rfl (by decide) h2 [.int x1, .int ((5 : Int32))]) rfl rfl hl.1 rfl (lv_room (Nat.le_of_ble_eq_true rfl)) dX7_targetOf_10 ⟨(Nat.le_of_ble_eq_true rfl), (Nat.le_of_ble_eq_true rfl)⟩) hS (fun H locs hP hS => ?_)
      refine lv_icmp_ge (tgt := 66) hx hb dX7_targetOf_13 (by decide) (fun c5 => ?_) (fun c5 => ?_)
      · have hF := g_t c5 hF
        refine lv_iload_n hx hb dX7_targetOf_66 rfl (lv_at hl 3 rfl) ?_
        exact g_retI hx hb hr hlocks hF hP hS (Nat.le_of_ble_eq_true rfl) (Nat.le_of_ble_eq_true rfl) dX7_targetOf_67
      · have hF := g_f c5 hF
        refine lv_aload_n hx hb dX7_targetOf_16 rfl (lv_at hl 0 rfl) ?_
        obtain ⟨h6, hF⟩ := g_if hF
        obtain ⟨q7, hq8, hF⟩ := g_bind hF
        refine g_get hx hb hts hiX7 hown hK hP 7 rfl (by decide) h6 8 (by decide) (hts (.fieldLink RX7 23 "CourierBeesModel" "routes" "[I") (by decide +kernel)) (fun _ h9 => h9) ((gFv_r (by decide)).trans (congrArg va_rf hq8)) dX7_targetOf_17 ?_
        refine lv_bipush (v := 7) hx hb dX7_targetOf_20 (by decide) ?_
        refine lv_iload_n hx hb dX7_targetOf_22 rfl (lv_at hl 1 rfl) ?_
        refine lv_imul hx hb dX7_targetOf_23 ?_
        refine lv_iload hx hb dX7_targetOf_24 (lv_at hl 4 rfl) ?_
        refine lv_iadd hx hb dX7_targetOf_26 ?_
        obtain ⟨h9, hF⟩ := g_if hF
        obtain ⟨h10, hF⟩ := g_if hF
        refine g_iald hx hb hP (g_pr h9) h10 dX7_targetOf_27 ?_
        refine lv_istore (lv' := [(5, .int (gI g3 q7 (Int32.toNatClampNeg ((((7 : Int32)) * x1) + x4)))), (0, .ref a0), (1, .int x1), (2, .int x2), (3, .int x3), (4, .int x4)]) hx hb dX7_targetOf_28 hl (by decide) rfl (fun ls hl => ?_)
        refine lv_aload_n hx hb dX7_targetOf_30 rfl (lv_at hl 1 rfl) ?_
        refine lv_iload hx hb dX7_targetOf_31 (lv_at hl 0 rfl) ?_
        refine lv_iload_n hx hb dX7_targetOf_33 rfl (lv_at hl 3 rfl) ?_
        obtain ⟨v13, g12, h11, hF⟩ := g_bind2 hF
        refine g_calli (va_runV (As := [.int (gI g3 q7 (Int32.toNatClampNeg ((((7 : Int32)) * x1) + x4))), .int x2]) (rest := []) ⟨hx, hb, hml, hown, hts⟩ (k7_away l D base g3 a0 (gI g3 q7 (Int32.toNatClampNeg ((((7 : Int32)) * x1) + x4))) x2 v13 g12 h11) (cwV 2 hts gX7_targetOf_X7_away rfl rfl rfl (by decide +kernel) ⟨Nat.le_of_ble_eq_true rfl, Nat.le_of_ble_eq_true rfl⟩) (gC.preV hE hP hS 7 rfl (by decide) h6 [.int (gI g3 q7 (Int32.toNatClampNeg ((((7 : Int32)) * x1) + x4))), .int x2]) rfl rfl hl.1 rfl (lv_room (Nat.le_of_ble_eq_true rfl)) dX7_targetOf_34 ⟨(Nat.le_of_ble_eq_true rfl), (Nat.le_of_ble_eq_true rfl)⟩) hS (fun H locs hP hS => ?_)
        refine lv_iload_n hx hb dX7_targetOf_37 rfl (lv_at hl 4 rfl) ?_
        refine lv_iconst (v := (-1)) hx hb dX7_targetOf_38 (by decide) ?_
        refine lv_icmp_ne (tgt := 48) hx hb dX7_targetOf_39 (by decide) (fun c14 => ?_) (fun c14 => ?_)
        · have hF := g_f c14 hF
          refine lv_aload_n hx hb dX7_targetOf_48 rfl (lv_at hl 1 rfl) ?_
          refine lv_iload_n hx hb dX7_targetOf_49 rfl (lv_at hl 4 rfl) ?_
          refine lv_iload_n hx hb dX7_targetOf_50 rfl (lv_at hl 3 rfl) ?_
          obtain ⟨h16, hF⟩ := g_if hF
          obtain ⟨v18, g17, h15, hF⟩ := g_bind2 hF
          refine g_calli (va_runV (As := [.int x3, .int x2]) (rest := [.int v13]) ⟨hx, hb, hml, hown, hts⟩ (k7_away l D base g12 a0 x3 x2 v18 g17 h15) (cwV 2 hts gX7_targetOf_X7_away rfl rfl rfl (by decide +kernel) ⟨Nat.le_of_ble_eq_true rfl, Nat.le_of_ble_eq_true rfl⟩) (gC.preV hE hP hS 7 rfl (by decide) h16 [.int x3, .int x2]) rfl rfl hl.1 rfl (lv_room (Nat.le_of_ble_eq_true rfl)) dX7_targetOf_51 ⟨(Nat.le_of_ble_eq_true rfl), (Nat.le_of_ble_eq_true rfl)⟩) hS (fun H locs hP hS => ?_)
          exact HB54 _ _ _ _ _ _ _ _ _ _ _ _ hF hP hS (lv_sub hl [1, 2, 3, 4, 5, 0] rfl)
        · have hF := g_t c14 hF
          refine lv_sipush (v := 9999) hx hb dX7_targetOf_42 (by decide) ?_
          refine lv_goto (tgt := 54) hx hb dX7_targetOf_45 (by decide) ?_
          exact HB54 _ _ _ _ _ _ _ _ _ _ _ _ hF hP hS (lv_sub hl [1, 2, 3, 4, 5, 0] rfl)
  unfold f7_targetOf at hF
  refine lv_iconst (v := (-1)) hx hb dX7_targetOf_0 (by decide) ?_
  refine lv_istore_n (lv' := [(3, .int ((-1 : Int32))), (0, .ref a0), (1, .int x1), (2, .int x2)]) hx hb dX7_targetOf_1 rfl hl (by decide) rfl (fun ls hl => ?_)
  refine lv_iconst (v := 0) hx hb dX7_targetOf_2 (by decide) ?_
  refine lv_istore (lv' := [(4, .int ((0 : Int32))), (3, .int ((-1 : Int32))), (0, .ref a0), (1, .int x1), (2, .int x2)]) hx hb dX7_targetOf_3 hl (by decide) rfl (fun ls hl => ?_)
  exact HL5 300 _ _ _ _ _ _ _ _ _ hF hP hS (lv_sub hl [2, 3, 4, 1, 0] rfl)
set_option maxHeartbeats 4000000 in
set_option maxRecDepth 100000 in
theorem k7_target (l : Launch) (D : va_G) (base : Nat) (g : g_H) (a0 : Nat) (x1 : Int32) (x2 : Int32) (rr : Int32) (gz : g_H) (hF : f7_target g a0 x1 x2 = some (rr, gz)) : Met l yX7_target wsX7_target ({ frames := 3, cells := 0, slots := 0, locals := 71 } : Room) (va_Pc [.ref a0, .int x1, .int x2] (gC base D g)) (gQi base D rr gz) 0 0 (gA base) := by
  refine g_met (cc := cX7_target) (maxL := 3) (ret := (some .int)) (lst := [(0, .ref a0), (1, .int x1), (2, .int x2)]) (by decide) rfl (Nat.le_of_ble_eq_true rfl) rfl ?_
  intro p e s m args below meth c ls hx hb hr hml hown hlocks hname hts hE hP hl
  have hown : s.vm.findClass RX7 = some m.cls := hown
  have hK := hE.1
  have hov := hE.2.2.2.2.2.2.2.1
  have hbz := hE.2.2.2.2.2.2.2.2.2.2.2.2
  have hS : va_S (gA base) s.heap s.heap [] := va_S.rf
  have hiX7 : ∀ w ∈ wsX70, w ∈ wsX7_target := by decide +kernel
  have HB30 : ∀ (g : g_H) (a0 : Nat) (H : Heap) (locs : List Loc) (ls : Array Slot), f7_target_30 g a0 = some (rr, gz) → gP base D s g H → va_S (gA base) s.heap H locs → lv_has ls 3 [(0, .ref a0)] → W p l e ({ frames := 3, cells := 0, slots := 0, locals := 71 } : Room) s m args below meth c H locs 0 0 (MQ below (gQi base D rr gz) args s 0 0 (gA base)) (F0 m 30 ls []) := by
    intro g a0 H locs ls hF hP hS hl
    unfold f7_target_30 at hF
    refine lv_aload_n hx hb dX7_target_30 rfl (lv_at hl 0 rfl) ?_
    refine lv_iconst (v := 1) hx hb dX7_target_31 (by decide) ?_
    obtain ⟨h7, hF⟩ := g_if hF
    obtain ⟨v9, g8, h6, hF⟩ := g_bind2 hF
    refine g_calli (va_runV (As := [.int ((1 : Int32))]) (rest := []) ⟨hx, hb, hml, hown, hts⟩ (k7_fail l D base g a0 ((1 : Int32)) v9 g8 h6) (cwV 1 hts gX7_target_X7_fail rfl rfl rfl (by decide +kernel) ⟨Nat.le_of_ble_eq_true rfl, Nat.le_of_ble_eq_true rfl⟩) (gC.preV hE hP hS 7 rfl (by decide) h7 [.int ((1 : Int32))]) rfl rfl hl.1 rfl (lv_room (Nat.le_of_ble_eq_true rfl)) dX7_target_32 ⟨(Nat.le_of_ble_eq_true rfl), (Nat.le_of_ble_eq_true rfl)⟩) hS (fun H locs hP hS => ?_)
    exact g_retI hx hb hr hlocks hF hP hS (Nat.le_of_ble_eq_true rfl) (Nat.le_of_ble_eq_true rfl) dX7_target_35
  unfold f7_target at hF
  refine lv_aload_n hx hb dX7_target_0 rfl (lv_at hl 0 rfl) ?_
  refine lv_iconst (v := 0) hx hb dX7_target_1 (by decide) ?_
  obtain ⟨h1, hF⟩ := g_if hF
  refine g_puti hx hb hts hiX7 tyX7 tyX7_ok nmX7 hown hK hP hS 7 rfl (by decide) h1 0 (by decide) (hts (.fieldLink RX7 35 "CourierBeesModel" "thrown" "I") (by decide +kernel)) (fun _ h9 => h9) (Or.inl rfl) (Or.inl rfl) rfl rfl dX7_target_2 (fun H locs hP hS => ?_)
  refine lv_aload_n hx hb dX7_target_5 rfl (lv_at hl 0 rfl) ?_
  refine lv_iload_n hx hb dX7_target_6 rfl (lv_at hl 1 rfl) ?_
  obtain ⟨v4, g3, h2, hF⟩ := g_bind2 hF
  refine g_calli (va_runV (As := [.int x1]) (rest := []) ⟨hx, hb, hml, hown, hts⟩ (k7_isBee l D base (gPI g a0 0 ((0 : Int32))) a0 x1 v4 g3 h2) (cwV 1 hts gX7_target_X7_isBee rfl rfl rfl (by decide +kernel) ⟨Nat.le_of_ble_eq_true rfl, Nat.le_of_ble_eq_true rfl⟩) (gC.preV hE hP hS 7 rfl (by decide) h1 [.int x1]) rfl rfl hl.1 rfl (lv_room (Nat.le_of_ble_eq_true rfl)) dX7_target_7 ⟨(Nat.le_of_ble_eq_true rfl), (Nat.le_of_ble_eq_true rfl)⟩) hS (fun H locs hP hS => ?_)
  refine lv_if_eq (tgt := 30) hx hb dX7_target_10 (by decide) (fun c5 => ?_) (fun c5 => ?_)
  · have hF := g_t c5 hF
    exact HB30 _ _ _ _ _ hF hP hS (lv_sub hl [0] rfl)
  · have hF := g_f c5 hF
    refine lv_aload_n hx hb dX7_target_13 rfl (lv_at hl 0 rfl) ?_
    refine lv_iload_n hx hb dX7_target_14 rfl (lv_at hl 2 rfl) ?_
    obtain ⟨h11, hF⟩ := g_if hF
    obtain ⟨v13, g12, h10, hF⟩ := g_bind2 hF
    refine g_calli (va_runV (As := [.int x2]) (rest := []) ⟨hx, hb, hml, hown, hts⟩ (k7_isHouse l D base g3 a0 x2 v13 g12 h10) (cwV 1 hts gX7_target_X7_isHouse rfl rfl rfl (by decide +kernel) ⟨Nat.le_of_ble_eq_true rfl, Nat.le_of_ble_eq_true rfl⟩) (gC.preV hE hP hS 7 rfl (by decide) h11 [.int x2]) rfl rfl hl.1 rfl (lv_room (Nat.le_of_ble_eq_true rfl)) dX7_target_15 ⟨(Nat.le_of_ble_eq_true rfl), (Nat.le_of_ble_eq_true rfl)⟩) hS (fun H locs hP hS => ?_)
    refine lv_if_eq (tgt := 30) hx hb dX7_target_18 (by decide) (fun c14 => ?_) (fun c14 => ?_)
    · have hF := g_t c14 hF
      exact HB30 _ _ _ _ _ hF hP hS (lv_sub hl [0] rfl)
    · have hF := g_f c14 hF
      refine lv_aload_n hx hb dX7_target_21 rfl (lv_at hl 0 rfl) ?_
      refine lv_iload_n hx hb dX7_target_22 rfl (lv_at hl 1 rfl) ?_
      refine lv_iload_n hx hb dX7_target_23 rfl (lv_at hl 2 rfl) ?_
      obtain ⟨h16, hF⟩ := g_if hF
      obtain ⟨v18, g17, h15, hF⟩ := g_bind2 hF
      refine g_calli (va_runV (As := [.int x1, .int x2]) (rest := []) ⟨hx, hb, hml, hown, hts⟩ (k7_targetOf l D base g12 a0 x1 x2 v18 g17 h15) (cwV 2 hts gX7_target_X7_targetOf rfl rfl rfl (by decide +kernel) ⟨Nat.le_of_ble_eq_true rfl, Nat.le_of_ble_eq_true rfl⟩) (gC.preV hE hP hS 7 rfl (by decide) h16 [.int x1, .int x2]) rfl rfl hl.1 rfl (lv_room (Nat.le_of_ble_eq_true rfl)) dX7_target_24 ⟨(Nat.le_of_ble_eq_true rfl), (Nat.le_of_ble_eq_true rfl)⟩) hS (fun H locs hP hS => ?_)
      refine lv_goto (tgt := 35) hx hb dX7_target_27 (by decide) ?_
      exact g_retI hx hb hr hlocks hF hP hS (Nat.le_of_ble_eq_true rfl) (Nat.le_of_ble_eq_true rfl) dX7_target_35
set_option maxHeartbeats 4000000 in
set_option maxRecDepth 100000 in
theorem k7_deal (l : Launch) (D : va_G) (base : Nat) (g : g_H) (a0 : Nat) (x1 : Int32) (rr : Int32) (gz : g_H) (hF : f7_deal g a0 x1 = some (rr, gz)) : Met l yX7_deal wsX7_deal ({ frames := 3, cells := 0, slots := 0, locals := 71 } : Room) (va_Pc [.ref a0, .int x1] (gC base D g)) (gQi base D rr gz) 0 0 (gA base) := by
  refine g_met (cc := cX7_deal) (maxL := 6) (ret := (some .int)) (lst := [(0, .ref a0), (1, .int x1)]) (by decide) rfl (Nat.le_of_ble_eq_true rfl) rfl ?_
  intro p e s m args below meth c ls hx hb hr hml hown hlocks hname hts hE hP hl
  have hown : s.vm.findClass RX7 = some m.cls := hown
  have hK := hE.1
  have hov := hE.2.2.2.2.2.2.2.1
  have hbz := hE.2.2.2.2.2.2.2.2.2.2.2.2
  have hS : va_S (gA base) s.heap s.heap [] := va_S.rf
  have hiX7 : ∀ w ∈ wsX70, w ∈ wsX7_deal := by decide +kernel
  have HL147 : ∀ (n147 : Nat), ∀ (g : g_H) (a0 : Nat) (x1 : Int32) (x2 : Int32) (x3 : Int32) (x4 : Int32) (H : Heap) (locs : List Loc) (ls : Array Slot), f7_deal_147 n147 g a0 x1 x2 x3 x4 = some (rr, gz) → gP base D s g H → va_S (gA base) s.heap H locs → lv_has ls 6 [(0, .ref a0), (1, .int x1), (2, .int x2), (3, .int x3), (4, .int x4)] → W p l e ({ frames := 3, cells := 0, slots := 0, locals := 71 } : Room) s m args below meth c H locs 0 0 (MQ below (gQi base D rr gz) args s 0 0 (gA base)) (F0 m 147 ls []) := by
    intro n147
    induction n147 with
    | zero => intro g a0 x1 x2 x3 x4 H locs ls hF hP hS hl; exact g_no hF
    | succ n147 ih147 =>
      have HB234 : ∀ (g : g_H) (a0 : Nat) (x1 : Int32) (x2 : Int32) (x3 : Int32) (x4 : Int32) (H : Heap) (locs : List Loc) (ls : Array Slot), f7_deal_234 (f7_deal_147 n147) g a0 x1 x2 x3 x4 = some (rr, gz) → gP base D s g H → va_S (gA base) s.heap H locs → lv_has ls 6 [(0, .ref a0), (1, .int x1), (2, .int x2), (3, .int x3), (4, .int x4)] → W p l e ({ frames := 3, cells := 0, slots := 0, locals := 71 } : Room) s m args below meth c H locs 0 0 (MQ below (gQi base D rr gz) args s 0 0 (gA base)) (F0 m 234 ls []) := by
        intro g a0 x1 x2 x3 x4 H locs ls hF hP hS hl
        unfold f7_deal_234 at hF
        refine lv_iinc (v := x4 + (1 : Int32)) (lv' := [(4, .int (x4 + (1 : Int32))), (0, .ref a0), (1, .int x1), (2, .int x2), (3, .int x3)]) hx hb dX7_deal_234 hl (k := 4) rfl rfl (by decide) rfl (fun ls hl => ?_)
        refine lv_goto (tgt := 147) hx hb dX7_deal_237 (by decide) ?_
        exact ih147 _ _ _ _ _ _ _ _ _ hF hP hS (lv_sub hl [1, 2, 3, 4, 0] rfl)
      intro g a0 x1 x2 x3 x4 H locs ls hF hP hS hl
      have hF : f7_deal_147b (f7_deal_147 n147) g a0 x1 x2 x3 x4 = some (rr, gz) := hF
      unfold f7_deal_147b at hF
      refine lv_iload hx hb dX7_deal_147 (lv_at hl 4 rfl) ?_
      refine lv_aload_n hx hb dX7_deal_149 rfl (lv_at hl 0 rfl) ?_
      obtain ⟨h14, hF⟩ := g_if hF
      refine g_get hx hb hts hiX7 hown hK hP 7 rfl (by decide) h14 9 (by decide) (hts (.fieldLink RX7 52 "CourierBeesModel" "letters" "I") (by decide +kernel)) (fun _ h9 => h9) (gFv_i (Or.inl rfl)) dX7_deal_150 ?_
      refine lv_icmp_ge (tgt := 240) hx hb dX7_deal_153 (by decide) (fun c15 => ?_) (fun c15 => ?_)
      · have hF := g_t c15 hF
        refine lv_iload_n hx hb dX7_deal_240 rfl (lv_at hl 2 rfl) ?_
        exact g_retI hx hb hr hlocks hF hP hS (Nat.le_of_ble_eq_true rfl) (Nat.le_of_ble_eq_true rfl) dX7_deal_241
      · have hF := g_f c15 hF
        refine lv_aload_n hx hb dX7_deal_156 rfl (lv_at hl 0 rfl) ?_
        refine lv_iload hx hb dX7_deal_157 (lv_at hl 4 rfl) ?_
        refine lv_iconst (v := 1) hx hb dX7_deal_159 (by decide) ?_
        obtain ⟨v18, g17, h16, hF⟩ := g_bind2 hF
        refine g_calli (va_runV (As := [.int x4, .int ((1 : Int32))]) (rest := []) ⟨hx, hb, hml, hown, hts⟩ (k7_le l D base g a0 x4 ((1 : Int32)) v18 g17 h16) (cwV 2 hts gX7_deal_X7_le rfl rfl rfl (by decide +kernel) ⟨Nat.le_of_ble_eq_true rfl, Nat.le_of_ble_eq_true rfl⟩) (gC.preV hE hP hS 7 rfl (by decide) h14 [.int x4, .int ((1 : Int32))]) rfl rfl hl.1 rfl (lv_room (Nat.le_of_ble_eq_true rfl)) dX7_deal_160 ⟨(Nat.le_of_ble_eq_true rfl), (Nat.le_of_ble_eq_true rfl)⟩) hS (fun H locs hP hS => ?_)
        refine lv_iload_n hx hb dX7_deal_163 rfl (lv_at hl 3 rfl) ?_
        refine lv_icmp_ne (tgt := 234) hx hb dX7_deal_164 (by decide) (fun c19 => ?_) (fun c19 => ?_)
        · have hF := g_f c19 hF
          exact HB234 _ _ _ _ _ _ _ _ _ hF hP hS (lv_sub hl [0, 1, 2, 3, 4] rfl)
        · have hF := g_t c19 hF
          refine lv_aload_n hx hb dX7_deal_167 rfl (lv_at hl 0 rfl) ?_
          refine lv_iload_n hx hb dX7_deal_168 rfl (lv_at hl 1 rfl) ?_
          obtain ⟨h21, hF⟩ := g_if hF
          obtain ⟨v23, g22, h20, hF⟩ := g_bind2 hF
          refine g_calli (va_runV (As := [.int x1]) (rest := []) ⟨hx, hb, hml, hown, hts⟩ (k7_carries l D base g17 a0 x1 v23 g22 h20) (cwV 1 hts gX7_deal_X7_carries rfl rfl rfl (by decide +kernel) ⟨Nat.le_of_ble_eq_true rfl, Nat.le_of_ble_eq_true rfl⟩) (gC.preV hE hP hS 7 rfl (by decide) h21 [.int x1]) rfl rfl hl.1 rfl (lv_room (Nat.le_of_ble_eq_true rfl)) dX7_deal_169 ⟨(Nat.le_of_ble_eq_true rfl), (Nat.le_of_ble_eq_true rfl)⟩) hS (fun H locs hP hS => ?_)
          refine lv_iconst (v := 3) hx hb dX7_deal_172 (by decide) ?_
          refine lv_icmp_ne (tgt := 179) hx hb dX7_deal_173 (by decide) (fun c24 => ?_) (fun c24 => ?_)
          · have hF := g_f c24 hF
            refine lv_aload_n hx hb dX7_deal_179 rfl (lv_at hl 0 rfl) ?_
            refine lv_iload_n hx hb dX7_deal_180 rfl (lv_at hl 1 rfl) ?_
            refine lv_aload_n hx hb dX7_deal_181 rfl (lv_at hl 0 rfl) ?_
            refine lv_iload hx hb dX7_deal_182 (lv_at hl 4 rfl) ?_
            refine lv_iconst (v := 0) hx hb dX7_deal_184 (by decide) ?_
            obtain ⟨h26, hF⟩ := g_if hF
            obtain ⟨v28, g27, h25, hF⟩ := g_bind2 hF
            refine g_calli (va_runV (As := [.int x4, .int ((0 : Int32))]) (rest := [.int x1, .ref a0]) ⟨hx, hb, hml, hown, hts⟩ (k7_le l D base g22 a0 x4 ((0 : Int32)) v28 g27 h25) (cwV 2 hts gX7_deal_X7_le rfl rfl rfl (by decide +kernel) ⟨Nat.le_of_ble_eq_true rfl, Nat.le_of_ble_eq_true rfl⟩) (gC.preV hE hP hS 7 rfl (by decide) h26 [.int x4, .int ((0 : Int32))]) rfl rfl hl.1 rfl (lv_room (Nat.le_of_ble_eq_true rfl)) dX7_deal_185 ⟨(Nat.le_of_ble_eq_true rfl), (Nat.le_of_ble_eq_true rfl)⟩) hS (fun H locs hP hS => ?_)
            obtain ⟨h30, hF⟩ := g_if hF
            obtain ⟨v32, g31, h29, hF⟩ := g_bind2 hF
            refine g_calli (va_runV (As := [.int x1, .int v28]) (rest := []) ⟨hx, hb, hml, hown, hts⟩ (k7_targetOf l D base g27 a0 x1 v28 v32 g31 h29) (cwV 2 hts gX7_deal_X7_targetOf rfl rfl rfl (by decide +kernel) ⟨Nat.le_of_ble_eq_true rfl, Nat.le_of_ble_eq_true rfl⟩) (gC.preV hE hP hS 7 rfl (by decide) h30 [.int x1, .int v28]) rfl rfl hl.1 rfl (lv_room (Nat.le_of_ble_eq_true rfl)) dX7_deal_188 ⟨(Nat.le_of_ble_eq_true rfl), (Nat.le_of_ble_eq_true rfl)⟩) hS (fun H locs hP hS => ?_)
            refine lv_istore (lv' := [(5, .int v32), (0, .ref a0), (1, .int x1), (2, .int x2), (3, .int x3), (4, .int x4)]) hx hb dX7_deal_191 hl (by decide) rfl (fun ls hl => ?_)
            refine lv_iload hx hb dX7_deal_193 (lv_at hl 0 rfl) ?_
            refine lv_iconst (v := (-1)) hx hb dX7_deal_195 (by decide) ?_
            refine lv_icmp_eq (tgt := 234) hx hb dX7_deal_196 (by decide) (fun c33 => ?_) (fun c33 => ?_)
            · have hF := g_t c33 hF
              exact HB234 _ _ _ _ _ _ _ _ _ hF hP hS (lv_sub hl [1, 2, 3, 4, 5] rfl)
            · have hF := g_f c33 hF
              refine lv_aload_n hx hb dX7_deal_199 rfl (lv_at hl 1 rfl) ?_
              refine lv_iload hx hb dX7_deal_200 (lv_at hl 0 rfl) ?_
              refine lv_aload_n hx hb dX7_deal_202 rfl (lv_at hl 1 rfl) ?_
              refine lv_iload hx hb dX7_deal_203 (lv_at hl 5 rfl) ?_
              refine lv_iconst (v := 0) hx hb dX7_deal_205 (by decide) ?_
              obtain ⟨h35, hF⟩ := g_if hF
              obtain ⟨v37, g36, h34, hF⟩ := g_bind2 hF
              refine g_calli (va_runV (As := [.int x4, .int ((0 : Int32))]) (rest := [.int v32, .ref a0]) ⟨hx, hb, hml, hown, hts⟩ (k7_le l D base g31 a0 x4 ((0 : Int32)) v37 g36 h34) (cwV 2 hts gX7_deal_X7_le rfl rfl rfl (by decide +kernel) ⟨Nat.le_of_ble_eq_true rfl, Nat.le_of_ble_eq_true rfl⟩) (gC.preV hE hP hS 7 rfl (by decide) h35 [.int x4, .int ((0 : Int32))]) rfl rfl hl.1 rfl (lv_room (Nat.le_of_ble_eq_true rfl)) dX7_deal_206 ⟨(Nat.le_of_ble_eq_true rfl), (Nat.le_of_ble_eq_true rfl)⟩) hS (fun H locs hP hS => ?_)
              obtain ⟨h39, hF⟩ := g_if hF
              obtain ⟨v41, g40, h38, hF⟩ := g_bind2 hF
              refine g_calli (va_runV (As := [.int v32, .int v37]) (rest := []) ⟨hx, hb, hml, hown, hts⟩ (k7_away l D base g36 a0 v32 v37 v41 g40 h38) (cwV 2 hts gX7_deal_X7_away rfl rfl rfl (by decide +kernel) ⟨Nat.le_of_ble_eq_true rfl, Nat.le_of_ble_eq_true rfl⟩) (gC.preV hE hP hS 7 rfl (by decide) h39 [.int v32, .int v37]) rfl rfl hl.1 rfl (lv_room (Nat.le_of_ble_eq_true rfl)) dX7_deal_209 ⟨(Nat.le_of_ble_eq_true rfl), (Nat.le_of_ble_eq_true rfl)⟩) hS (fun H locs hP hS => ?_)
              refine lv_aload_n hx hb dX7_deal_212 rfl (lv_at hl 1 rfl) ?_
              refine lv_iload_n hx hb dX7_deal_213 rfl (lv_at hl 4 rfl) ?_
              refine lv_aload_n hx hb dX7_deal_214 rfl (lv_at hl 1 rfl) ?_
              refine lv_iload hx hb dX7_deal_215 (lv_at hl 5 rfl) ?_
              refine lv_iconst (v := 0) hx hb dX7_deal_217 (by decide) ?_
              obtain ⟨h43, hF⟩ := g_if hF
              obtain ⟨v45, g44, h42, hF⟩ := g_bind2 hF
              refine g_calli (va_runV (As := [.int x4, .int ((0 : Int32))]) (rest := [.int x3, .ref a0, .int v41]) ⟨hx, hb, hml, hown, hts⟩ (k7_le l D base g40 a0 x4 ((0 : Int32)) v45 g44 h42) (cwV 2 hts gX7_deal_X7_le rfl rfl rfl (by decide +kernel) ⟨Nat.le_of_ble_eq_true rfl, Nat.le_of_ble_eq_true rfl⟩) (gC.preV hE hP hS 7 rfl (by decide) h43 [.int x4, .int ((0 : Int32))]) rfl rfl hl.1 rfl (lv_room (Nat.le_of_ble_eq_true rfl)) dX7_deal_218 ⟨(Nat.le_of_ble_eq_true rfl), (Nat.le_of_ble_eq_true rfl)⟩) hS (fun H locs hP hS => ?_)
              obtain ⟨h47, hF⟩ := g_if hF
              obtain ⟨v49, g48, h46, hF⟩ := g_bind2 hF
              refine g_calli (va_runV (As := [.int x3, .int v45]) (rest := [.int v41]) ⟨hx, hb, hml, hown, hts⟩ (k7_away l D base g44 a0 x3 v45 v49 g48 h46) (cwV 2 hts gX7_deal_X7_away rfl rfl rfl (by decide +kernel) ⟨Nat.le_of_ble_eq_true rfl, Nat.le_of_ble_eq_true rfl⟩) (gC.preV hE hP hS 7 rfl (by decide) h47 [.int x3, .int v45]) rfl rfl hl.1 rfl (lv_room (Nat.le_of_ble_eq_true rfl)) dX7_deal_221 ⟨(Nat.le_of_ble_eq_true rfl), (Nat.le_of_ble_eq_true rfl)⟩) hS (fun H locs hP hS => ?_)
              refine lv_icmp_ge (tgt := 234) hx hb dX7_deal_224 (by decide) (fun c50 => ?_) (fun c50 => ?_)
              · have hF := g_t c50 hF
                exact HB234 _ _ _ _ _ _ _ _ _ hF hP hS (lv_sub hl [1, 2, 3, 4, 5] rfl)
              · have hF := g_f c50 hF
                refine lv_aload_n hx hb dX7_deal_227 rfl (lv_at hl 1 rfl) ?_
                refine lv_iload_n hx hb dX7_deal_228 rfl (lv_at hl 2 rfl) ?_
                refine lv_iload hx hb dX7_deal_229 (lv_at hl 5 rfl) ?_
                obtain ⟨h52, hF⟩ := g_if hF
                obtain ⟨g53, h51, hF⟩ := g_bind hF
                refine g_callv (va_runV (As := [.int x1, .int x4]) (rest := []) ⟨hx, hb, hml, hown, hts⟩ (k7_take l D base g48 a0 x1 x4 g53 h51) (cwV 2 hts gX7_deal_X7_take rfl rfl rfl (by decide +kernel) ⟨Nat.le_of_ble_eq_true rfl, Nat.le_of_ble_eq_true rfl⟩) (gC.preV hE hP hS 7 rfl (by decide) h52 [.int x1, .int x4]) rfl rfl hl.1 rfl (lv_room (Nat.le_of_ble_eq_true rfl)) dX7_deal_231 ⟨(Nat.le_of_ble_eq_true rfl), (Nat.le_of_ble_eq_true rfl)⟩) hS (fun H locs hP hS => ?_)
                exact HB234 _ _ _ _ _ _ _ _ _ hF hP hS (lv_sub hl [1, 2, 3, 4, 5] rfl)
          · have hF := g_t c24 hF
            refine lv_goto (tgt := 234) hx hb dX7_deal_176 (by decide) ?_
            exact HB234 _ _ _ _ _ _ _ _ _ hF hP hS (lv_sub hl [0, 1, 2, 3, 4] rfl)
  have HL11 : ∀ (n11 : Nat), ∀ (g : g_H) (a0 : Nat) (x1 : Int32) (x2 : Int32) (x3 : Int32) (x4 : Int32) (H : Heap) (locs : List Loc) (ls : Array Slot), f7_deal_11 n11 g a0 x1 x2 x3 x4 = some (rr, gz) → gP base D s g H → va_S (gA base) s.heap H locs → lv_has ls 6 [(0, .ref a0), (1, .int x1), (2, .int x2), (3, .int x3), (4, .int x4)] → W p l e ({ frames := 3, cells := 0, slots := 0, locals := 71 } : Room) s m args below meth c H locs 0 0 (MQ below (gQi base D rr gz) args s 0 0 (gA base)) (F0 m 11 ls []) := by
    intro n11
    induction n11 with
    | zero => intro g a0 x1 x2 x3 x4 H locs ls hF hP hS hl; exact g_no hF
    | succ n11 ih11 =>
      have HB122 : ∀ (g : g_H) (a0 : Nat) (x1 : Int32) (x2 : Int32) (x3 : Int32) (x4 : Int32) (H : Heap) (locs : List Loc) (ls : Array Slot), f7_deal_122 (f7_deal_11 n11) g a0 x1 x2 x3 x4 = some (rr, gz) → gP base D s g H → va_S (gA base) s.heap H locs → lv_has ls 6 [(0, .ref a0), (1, .int x1), (2, .int x2), (3, .int x3), (4, .int x4)] → W p l e ({ frames := 3, cells := 0, slots := 0, locals := 71 } : Room) s m args below meth c H locs 0 0 (MQ below (gQi base D rr gz) args s 0 0 (gA base)) (F0 m 122 ls []) := by
        intro g a0 x1 x2 x3 x4 H locs ls hF hP hS hl
        unfold f7_deal_122 at hF
        refine lv_iinc (v := x4 + (1 : Int32)) (lv' := [(4, .int (x4 + (1 : Int32))), (0, .ref a0), (1, .int x1), (2, .int x2), (3, .int x3)]) hx hb dX7_deal_122 hl (k := 4) rfl rfl (by decide) rfl (fun ls hl => ?_)
        refine lv_goto (tgt := 11) hx hb dX7_deal_125 (by decide) ?_
        exact ih11 _ _ _ _ _ _ _ _ _ hF hP hS (lv_sub hl [1, 2, 3, 4, 0] rfl)
      have HB76 : ∀ (g : g_H) (a0 : Nat) (x1 : Int32) (x2 : Int32) (x3 : Int32) (x4 : Int32) (x5 : Int32) (H : Heap) (locs : List Loc) (ls : Array Slot), f7_deal_76 (f7_deal_11 n11) g a0 x1 x2 x3 x4 x5 = some (rr, gz) → gP base D s g H → va_S (gA base) s.heap H locs → lv_has ls 6 [(0, .ref a0), (1, .int x1), (2, .int x2), (3, .int x3), (4, .int x4), (5, .int x5)] → W p l e ({ frames := 3, cells := 0, slots := 0, locals := 71 } : Room) s m args below meth c H locs 0 0 (MQ below (gQi base D rr gz) args s 0 0 (gA base)) (F0 m 76 ls []) := by
        intro g a0 x1 x2 x3 x4 x5 H locs ls hF hP hS hl
        unfold f7_deal_76 at hF
        refine lv_aload_n hx hb dX7_deal_76 rfl (lv_at hl 0 rfl) ?_
        refine lv_iload hx hb dX7_deal_77 (lv_at hl 4 rfl) ?_
        refine lv_iconst (v := 2) hx hb dX7_deal_79 (by decide) ?_
        refine lv_iconst (v := (-1)) hx hb dX7_deal_80 (by decide) ?_
        obtain ⟨h66, hF⟩ := g_if hF
        obtain ⟨g67, h65, hF⟩ := g_bind hF
        refine g_callv (va_runV (As := [.int x4, .int ((2 : Int32)), .int ((-1 : Int32))]) (rest := []) ⟨hx, hb, hml, hown, hts⟩ (k7_setLe l D base g a0 x4 ((2 : Int32)) ((-1 : Int32)) g67 h65) (cwV 3 hts gX7_deal_X7_setLe rfl rfl rfl (by decide +kernel) ⟨Nat.le_of_ble_eq_true rfl, Nat.le_of_ble_eq_true rfl⟩) (gC.preV hE hP hS 7 rfl (by decide) h66 [.int x4, .int ((2 : Int32)), .int ((-1 : Int32))]) rfl rfl hl.1 rfl (lv_room (Nat.le_of_ble_eq_true rfl)) dX7_deal_81 ⟨(Nat.le_of_ble_eq_true rfl), (Nat.le_of_ble_eq_true rfl)⟩) hS (fun H locs hP hS => ?_)
        refine lv_iload hx hb dX7_deal_84 (lv_at hl 5 rfl) ?_
        refine lv_if_eq (tgt := 114) hx hb dX7_deal_86 (by decide) (fun c69 => ?_) (fun c69 => ?_)
        · have hF := g_t c69 hF
          refine lv_aload_n hx hb dX7_deal_114 rfl (lv_at hl 0 rfl) ?_
          refine lv_iload hx hb dX7_deal_115 (lv_at hl 4 rfl) ?_
          refine lv_iconst (v := 1) hx hb dX7_deal_117 (by decide) ?_
          refine lv_iload_n hx hb dX7_deal_118 rfl (lv_at hl 3 rfl) ?_
          obtain ⟨h71, hF⟩ := g_if hF
          obtain ⟨g72, h70, hF⟩ := g_bind hF
          refine g_callv (va_runV (As := [.int x4, .int ((1 : Int32)), .int x3]) (rest := []) ⟨hx, hb, hml, hown, hts⟩ (k7_setLe l D base g67 a0 x4 ((1 : Int32)) x3 g72 h70) (cwV 3 hts gX7_deal_X7_setLe rfl rfl rfl (by decide +kernel) ⟨Nat.le_of_ble_eq_true rfl, Nat.le_of_ble_eq_true rfl⟩) (gC.preV hE hP hS 7 rfl (by decide) h71 [.int x4, .int ((1 : Int32)), .int x3]) rfl rfl hl.1 rfl (lv_room (Nat.le_of_ble_eq_true rfl)) dX7_deal_119 ⟨(Nat.le_of_ble_eq_true rfl), (Nat.le_of_ble_eq_true rfl)⟩) hS (fun H locs hP hS => ?_)
          exact HB122 _ _ _ _ _ _ _ _ _ hF hP hS (lv_sub hl [0, 1, 2, 3, 4] rfl)
        · have hF := g_f c69 hF
          refine lv_aload_n hx hb dX7_deal_89 rfl (lv_at hl 0 rfl) ?_
          refine lv_iload hx hb dX7_deal_90 (lv_at hl 4 rfl) ?_
          refine lv_iconst (v := 3) hx hb dX7_deal_92 (by decide) ?_
          refine lv_aload_n hx hb dX7_deal_93 rfl (lv_at hl 0 rfl) ?_
          obtain ⟨h74, hF⟩ := g_if hF
          obtain ⟨q75, hq76, hF⟩ := g_bind hF
          refine g_get hx hb hts hiX7 hown hK hP 7 rfl (by decide) h74 11 (by decide) (hts (.fieldLink RX7 29 "CourierBeesModel" "quarter" "[I") (by decide +kernel)) (fun _ h9 => h9) ((gFv_r (by decide)).trans (congrArg va_rf hq76)) dX7_deal_94 ?_
          refine lv_iconst (v := 0) hx hb dX7_deal_97 (by decide) ?_
          obtain ⟨h77, hF⟩ := g_if hF
          obtain ⟨h78, hF⟩ := g_if hF
          refine g_iald hx hb hP (g_pr h77) h78 dX7_deal_98 ?_
          obtain ⟨g80, h79, hF⟩ := g_bind hF
          refine g_callv (va_runV (As := [.int x4, .int ((3 : Int32)), .int (gI g67 q75 (Int32.toNatClampNeg ((0 : Int32))))]) (rest := []) ⟨hx, hb, hml, hown, hts⟩ (k7_setLe l D base g67 a0 x4 ((3 : Int32)) (gI g67 q75 (Int32.toNatClampNeg ((0 : Int32)))) g80 h79) (cwV 3 hts gX7_deal_X7_setLe rfl rfl rfl (by decide +kernel) ⟨Nat.le_of_ble_eq_true rfl, Nat.le_of_ble_eq_true rfl⟩) (gC.preV hE hP hS 7 rfl (by decide) h74 [.int x4, .int ((3 : Int32)), .int (gI g67 q75 (Int32.toNatClampNeg ((0 : Int32))))]) rfl rfl hl.1 rfl (lv_room (Nat.le_of_ble_eq_true rfl)) dX7_deal_99 ⟨(Nat.le_of_ble_eq_true rfl), (Nat.le_of_ble_eq_true rfl)⟩) hS (fun H locs hP hS => ?_)
          refine lv_iinc (v := x2 + (1 : Int32)) (lv' := [(2, .int (x2 + (1 : Int32))), (0, .ref a0), (1, .int x1), (3, .int x3), (4, .int x4), (5, .int x5)]) hx hb dX7_deal_102 hl (k := 2) rfl rfl (by decide) rfl (fun ls hl => ?_)
          refine lv_aload_n hx hb dX7_deal_105 rfl (lv_at hl 1 rfl) ?_
          refine lv_iload_n hx hb dX7_deal_106 rfl (lv_at hl 2 rfl) ?_
          refine lv_iconst (v := 1) hx hb dX7_deal_107 (by decide) ?_
          obtain ⟨h83, hF⟩ := g_if hF
          obtain ⟨g84, h82, hF⟩ := g_bind hF
          refine g_callv (va_runV (As := [.int x1, .int ((1 : Int32))]) (rest := []) ⟨hx, hb, hml, hown, hts⟩ (k7_honour l D base g80 a0 x1 ((1 : Int32)) g84 h82) (cwV 2 hts gX7_deal_X7_honour rfl rfl rfl (by decide +kernel) ⟨Nat.le_of_ble_eq_true rfl, Nat.le_of_ble_eq_true rfl⟩) (gC.preV hE hP hS 7 rfl (by decide) h83 [.int x1, .int ((1 : Int32))]) rfl rfl hl.1 rfl (lv_room (Nat.le_of_ble_eq_true rfl)) dX7_deal_108 ⟨(Nat.le_of_ble_eq_true rfl), (Nat.le_of_ble_eq_true rfl)⟩) hS (fun H locs hP hS => ?_)
          refine lv_goto (tgt := 122) hx hb dX7_deal_111 (by decide) ?_
          exact HB122 _ _ _ _ _ _ _ _ _ hF hP hS (lv_sub hl [1, 2, 0, 3, 4] rfl)
      have HB50 : ∀ (g : g_H) (a0 : Nat) (x1 : Int32) (x2 : Int32) (x3 : Int32) (x4 : Int32) (s0 : Int32) (H : Heap) (locs : List Loc) (ls : Array Slot), f7_deal_50 (f7_deal_11 n11) g a0 x1 x2 x3 x4 s0 = some (rr, gz) → gP base D s g H → va_S (gA base) s.heap H locs → lv_has ls 6 [(0, .ref a0), (1, .int x1), (2, .int x2), (3, .int x3), (4, .int x4)] → W p l e ({ frames := 3, cells := 0, slots := 0, locals := 71 } : Room) s m args below meth c H locs 0 0 (MQ below (gQi base D rr gz) args s 0 0 (gA base)) (F0 m 50 ls [.int s0]) := by
        intro g a0 x1 x2 x3 x4 s0 H locs ls hF hP hS hl
        unfold f7_deal_50 at hF
        refine lv_istore (lv' := [(5, .int s0), (0, .ref a0), (1, .int x1), (2, .int x2), (3, .int x3), (4, .int x4)]) hx hb dX7_deal_50 hl (by decide) rfl (fun ls hl => ?_)
        refine lv_iload hx hb dX7_deal_52 (lv_at hl 0 rfl) ?_
        refine lv_if_ne (tgt := 76) hx hb dX7_deal_54 (by decide) (fun c64 => ?_) (fun c64 => ?_)
        · have hF := g_f c64 hF
          exact HB76 _ _ _ _ _ _ _ _ _ _ hF hP hS (lv_sub hl [1, 2, 3, 4, 5, 0] rfl)
        · have hF := g_t c64 hF
          refine lv_aload_n hx hb dX7_deal_57 rfl (lv_at hl 1 rfl) ?_
          refine lv_iload_n hx hb dX7_deal_58 rfl (lv_at hl 2 rfl) ?_
          refine lv_aload_n hx hb dX7_deal_59 rfl (lv_at hl 1 rfl) ?_
          refine lv_iload hx hb dX7_deal_60 (lv_at hl 5 rfl) ?_
          refine lv_iconst (v := 0) hx hb dX7_deal_62 (by decide) ?_
          obtain ⟨h87, hF⟩ := g_if hF
          obtain ⟨v89, g88, h86, hF⟩ := g_bind2 hF
          refine g_calli (va_runV (As := [.int x4, .int ((0 : Int32))]) (rest := [.int x1, .ref a0]) ⟨hx, hb, hml, hown, hts⟩ (k7_le l D base g a0 x4 ((0 : Int32)) v89 g88 h86) (cwV 2 hts gX7_deal_X7_le rfl rfl rfl (by decide +kernel) ⟨Nat.le_of_ble_eq_true rfl, Nat.le_of_ble_eq_true rfl⟩) (gC.preV hE hP hS 7 rfl (by decide) h87 [.int x4, .int ((0 : Int32))]) rfl rfl hl.1 rfl (lv_room (Nat.le_of_ble_eq_true rfl)) dX7_deal_63 ⟨(Nat.le_of_ble_eq_true rfl), (Nat.le_of_ble_eq_true rfl)⟩) hS (fun H locs hP hS => ?_)
          obtain ⟨h91, hF⟩ := g_if hF
          obtain ⟨v93, g92, h90, hF⟩ := g_bind2 hF
          refine g_calli (va_runV (As := [.int x1, .int v89]) (rest := []) ⟨hx, hb, hml, hown, hts⟩ (k7_targetOf l D base g88 a0 x1 v89 v93 g92 h90) (cwV 2 hts gX7_deal_X7_targetOf rfl rfl rfl (by decide +kernel) ⟨Nat.le_of_ble_eq_true rfl, Nat.le_of_ble_eq_true rfl⟩) (gC.preV hE hP hS 7 rfl (by decide) h91 [.int x1, .int v89]) rfl rfl hl.1 rfl (lv_room (Nat.le_of_ble_eq_true rfl)) dX7_deal_66 ⟨(Nat.le_of_ble_eq_true rfl), (Nat.le_of_ble_eq_true rfl)⟩) hS (fun H locs hP hS => ?_)
          refine lv_iload_n hx hb dX7_deal_69 rfl (lv_at hl 4 rfl) ?_
          refine lv_icmp_eq (tgt := 76) hx hb dX7_deal_70 (by decide) (fun c94 => ?_) (fun c94 => ?_)
          · have hF := g_t c94 hF
            exact HB76 _ _ _ _ _ _ _ _ _ _ hF hP hS (lv_sub hl [1, 2, 3, 4, 5, 0] rfl)
          · have hF := g_f c94 hF
            refine lv_goto (tgt := 122) hx hb dX7_deal_73 (by decide) ?_
            exact HB122 _ _ _ _ _ _ _ _ _ hF hP hS (lv_sub hl [1, 2, 3, 4, 5] rfl)
      intro g a0 x1 x2 x3 x4 H locs ls hF hP hS hl
      have hF : f7_deal_11b (f7_deal_11 n11) g a0 x1 x2 x3 x4 = some (rr, gz) := hF
      unfold f7_deal_11b at hF
      refine lv_iload hx hb dX7_deal_11 (lv_at hl 4 rfl) ?_
      refine lv_aload_n hx hb dX7_deal_13 rfl (lv_at hl 0 rfl) ?_
      obtain ⟨h5, hF⟩ := g_if hF
      refine g_get hx hb hts hiX7 hown hK hP 7 rfl (by decide) h5 9 (by decide) (hts (.fieldLink RX7 52 "CourierBeesModel" "letters" "I") (by decide +kernel)) (fun _ h9 => h9) (gFv_i (Or.inl rfl)) dX7_deal_14 ?_
      refine lv_icmp_ge (tgt := 128) hx hb dX7_deal_17 (by decide) (fun c6 => ?_) (fun c6 => ?_)
      · have hF := g_t c6 hF
        refine lv_aload_n hx hb dX7_deal_128 rfl (lv_at hl 0 rfl) ?_
        refine lv_iload_n hx hb dX7_deal_129 rfl (lv_at hl 1 rfl) ?_
        refine lv_bipush (v := 6) hx hb dX7_deal_130 (by decide) ?_
        refine lv_aload_n hx hb dX7_deal_132 rfl (lv_at hl 0 rfl) ?_
        refine lv_iload_n hx hb dX7_deal_133 rfl (lv_at hl 1 rfl) ?_
        refine lv_bipush (v := 6) hx hb dX7_deal_134 (by decide) ?_
        obtain ⟨v9, g8, h7, hF⟩ := g_bind2 hF
        refine g_calli (va_runV (As := [.int x1, .int ((6 : Int32))]) (rest := [.int ((6 : Int32)), .int x1, .ref a0]) ⟨hx, hb, hml, hown, hts⟩ (k7_be l D base g a0 x1 ((6 : Int32)) v9 g8 h7) (cwV 2 hts gX7_deal_X7_be rfl rfl rfl (by decide +kernel) ⟨Nat.le_of_ble_eq_true rfl, Nat.le_of_ble_eq_true rfl⟩) (gC.preV hE hP hS 7 rfl (by decide) h5 [.int x1, .int ((6 : Int32))]) rfl rfl hl.1 rfl (lv_room (Nat.le_of_ble_eq_true rfl)) dX7_deal_136 ⟨(Nat.le_of_ble_eq_true rfl), (Nat.le_of_ble_eq_true rfl)⟩) hS (fun H locs hP hS => ?_)
        refine lv_iload_n hx hb dX7_deal_139 rfl (lv_at hl 2 rfl) ?_
        refine lv_iadd hx hb dX7_deal_140 ?_
        obtain ⟨h11, hF⟩ := g_if hF
        obtain ⟨g12, h10, hF⟩ := g_bind hF
        refine g_callv (va_runV (As := [.int x1, .int ((6 : Int32)), .int (v9 + x2)]) (rest := []) ⟨hx, hb, hml, hown, hts⟩ (k7_setBe l D base g8 a0 x1 ((6 : Int32)) (v9 + x2) g12 h10) (cwV 3 hts gX7_deal_X7_setBe rfl rfl rfl (by decide +kernel) ⟨Nat.le_of_ble_eq_true rfl, Nat.le_of_ble_eq_true rfl⟩) (gC.preV hE hP hS 7 rfl (by decide) h11 [.int x1, .int ((6 : Int32)), .int (v9 + x2)]) rfl rfl hl.1 rfl (lv_room (Nat.le_of_ble_eq_true rfl)) dX7_deal_141 ⟨(Nat.le_of_ble_eq_true rfl), (Nat.le_of_ble_eq_true rfl)⟩) hS (fun H locs hP hS => ?_)
        refine lv_iconst (v := 0) hx hb dX7_deal_144 (by decide) ?_
        refine lv_istore (lv' := [(4, .int ((0 : Int32))), (0, .ref a0), (1, .int x1), (2, .int x2), (3, .int x3)]) hx hb dX7_deal_145 hl (by decide) rfl (fun ls hl => ?_)
        exact HL147 300 _ _ _ _ _ _ _ _ _ hF hP hS (lv_sub hl [1, 2, 3, 4, 0] rfl)
      · have hF := g_f c6 hF
        refine lv_aload_n hx hb dX7_deal_20 rfl (lv_at hl 0 rfl) ?_
        refine lv_iload hx hb dX7_deal_21 (lv_at hl 4 rfl) ?_
        refine lv_iconst (v := 2) hx hb dX7_deal_23 (by decide) ?_
        obtain ⟨v57, g56, h55, hF⟩ := g_bind2 hF
        refine g_calli (va_runV (As := [.int x4, .int ((2 : Int32))]) (rest := []) ⟨hx, hb, hml, hown, hts⟩ (k7_le l D base g a0 x4 ((2 : Int32)) v57 g56 h55) (cwV 2 hts gX7_deal_X7_le rfl rfl rfl (by decide +kernel) ⟨Nat.le_of_ble_eq_true rfl, Nat.le_of_ble_eq_true rfl⟩) (gC.preV hE hP hS 7 rfl (by decide) h5 [.int x4, .int ((2 : Int32))]) rfl rfl hl.1 rfl (lv_room (Nat.le_of_ble_eq_true rfl)) dX7_deal_24 ⟨(Nat.le_of_ble_eq_true rfl), (Nat.le_of_ble_eq_true rfl)⟩) hS (fun H locs hP hS => ?_)
        refine lv_iload_n hx hb dX7_deal_27 rfl (lv_at hl 1 rfl) ?_
        refine lv_icmp_eq (tgt := 34) hx hb dX7_deal_28 (by decide) (fun c58 => ?_) (fun c58 => ?_)
        · have hF := g_t c58 hF
          refine lv_aload_n hx hb dX7_deal_34 rfl (lv_at hl 0 rfl) ?_
          refine lv_iload hx hb dX7_deal_35 (lv_at hl 4 rfl) ?_
          refine lv_iconst (v := 0) hx hb dX7_deal_37 (by decide) ?_
          obtain ⟨h60, hF⟩ := g_if hF
          obtain ⟨v62, g61, h59, hF⟩ := g_bind2 hF
          refine g_calli (va_runV (As := [.int x4, .int ((0 : Int32))]) (rest := []) ⟨hx, hb, hml, hown, hts⟩ (k7_le l D base g56 a0 x4 ((0 : Int32)) v62 g61 h59) (cwV 2 hts gX7_deal_X7_le rfl rfl rfl (by decide +kernel) ⟨Nat.le_of_ble_eq_true rfl, Nat.le_of_ble_eq_true rfl⟩) (gC.preV hE hP hS 7 rfl (by decide) h60 [.int x4, .int ((0 : Int32))]) rfl rfl hl.1 rfl (lv_room (Nat.le_of_ble_eq_true rfl)) dX7_deal_38 ⟨(Nat.le_of_ble_eq_true rfl), (Nat.le_of_ble_eq_true rfl)⟩) hS (fun H locs hP hS => ?_)
          refine lv_iload_n hx hb dX7_deal_41 rfl (lv_at hl 3 rfl) ?_
          refine lv_icmp_ne (tgt := 49) hx hb dX7_deal_42 (by decide) (fun c63 => ?_) (fun c63 => ?_)
          · have hF := g_f c63 hF
            refine lv_iconst (v := 0) hx hb dX7_deal_49 (by decide) ?_
            exact HB50 _ _ _ _ _ _ _ _ _ _ hF hP hS (lv_sub hl [0, 1, 2, 3, 4] rfl)
          · have hF := g_t c63 hF
            refine lv_iconst (v := 1) hx hb dX7_deal_45 (by decide) ?_
            refine lv_goto (tgt := 50) hx hb dX7_deal_46 (by decide) ?_
            exact HB50 _ _ _ _ _ _ _ _ _ _ hF hP hS (lv_sub hl [0, 1, 2, 3, 4] rfl)
        · have hF := g_f c58 hF
          refine lv_goto (tgt := 122) hx hb dX7_deal_31 (by decide) ?_
          exact HB122 _ _ _ _ _ _ _ _ _ hF hP hS (lv_sub hl [0, 1, 2, 3, 4] rfl)
  unfold f7_deal at hF
  refine lv_iconst (v := 0) hx hb dX7_deal_0 (by decide) ?_
  refine lv_istore_n (lv' := [(2, .int ((0 : Int32))), (0, .ref a0), (1, .int x1)]) hx hb dX7_deal_1 rfl hl (by decide) rfl (fun ls hl => ?_)
  refine lv_aload_n hx hb dX7_deal_2 rfl (lv_at hl 1 rfl) ?_
  refine lv_iload_n hx hb dX7_deal_3 rfl (lv_at hl 2 rfl) ?_
  obtain ⟨h2, hF⟩ := g_if hF
  obtain ⟨v4, g3, h1, hF⟩ := g_bind2 hF
  refine g_calli (va_runV (As := [.int x1]) (rest := []) ⟨hx, hb, hml, hown, hts⟩ (k7_house l D base g a0 x1 v4 g3 h1) (cwV 1 hts gX7_deal_X7_house rfl rfl rfl (by decide +kernel) ⟨Nat.le_of_ble_eq_true rfl, Nat.le_of_ble_eq_true rfl⟩) (gC.preV hE hP hS 7 rfl (by decide) h2 [.int x1]) rfl rfl hl.1 rfl (lv_room (Nat.le_of_ble_eq_true rfl)) dX7_deal_4 ⟨(Nat.le_of_ble_eq_true rfl), (Nat.le_of_ble_eq_true rfl)⟩) hS (fun H locs hP hS => ?_)
  refine lv_istore_n (lv' := [(3, .int v4), (2, .int ((0 : Int32))), (0, .ref a0), (1, .int x1)]) hx hb dX7_deal_7 rfl hl (by decide) rfl (fun ls hl => ?_)
  refine lv_iconst (v := 0) hx hb dX7_deal_8 (by decide) ?_
  refine lv_istore (lv' := [(4, .int ((0 : Int32))), (3, .int v4), (2, .int ((0 : Int32))), (0, .ref a0), (1, .int x1)]) hx hb dX7_deal_9 hl (by decide) rfl (fun ls hl => ?_)
  exact HL11 300 _ _ _ _ _ _ _ _ _ hF hP hS (lv_sub hl [3, 4, 2, 1, 0] rfl)
set_option maxHeartbeats 4000000 in
set_option maxRecDepth 100000 in
theorem k7_isOpen (l : Launch) (D : va_G) (base : Nat) (g : g_H) (a0 : Nat) (x1 : Int32) (rr : Int32) (gz : g_H) (hF : f7_isOpen g a0 x1 = some (rr, gz)) : Met l yX7_isOpen wsX7_isOpen ({ frames := 1, cells := 0, slots := 0, locals := 22 } : Room) (va_Pc [.ref a0, .int x1] (gC base D g)) (gQi base D rr gz) 0 0 (gA base) := by
  refine g_met (cc := cX7_isOpen) (maxL := 2) (ret := (some .boolean)) (lst := [(0, .ref a0), (1, .int x1)]) (by decide) rfl (Nat.le_of_ble_eq_true rfl) rfl ?_
  intro p e s m args below meth c ls hx hb hr hml hown hlocks hname hts hE hP hl
  have hown : s.vm.findClass RX7 = some m.cls := hown
  have hK := hE.1
  have hov := hE.2.2.2.2.2.2.2.1
  have hbz := hE.2.2.2.2.2.2.2.2.2.2.2.2
  have hS : va_S (gA base) s.heap s.heap [] := va_S.rf
  have hiX7 : ∀ w ∈ wsX70, w ∈ wsX7_isOpen := by decide +kernel
  unfold f7_isOpen at hF
  refine lv_aload_n hx hb dX7_isOpen_0 rfl (lv_at hl 0 rfl) ?_
  obtain ⟨h1, hF⟩ := g_if hF
  obtain ⟨q2, hq3, hF⟩ := g_bind hF
  refine g_get hx hb hts hiX7 hown hK hP 7 rfl (by decide) h1 11 (by decide) (hts (.fieldLink RX7 29 "CourierBeesModel" "quarter" "[I") (by decide +kernel)) (fun _ h9 => h9) ((gFv_r (by decide)).trans (congrArg va_rf hq3)) dX7_isOpen_1 ?_
  refine lv_iconst (v := 0) hx hb dX7_isOpen_4 (by decide) ?_
  obtain ⟨h4, hF⟩ := g_if hF
  obtain ⟨h5, hF⟩ := g_if hF
  refine g_iald hx hb hP (g_pr h4) h5 dX7_isOpen_5 ?_
  refine lv_bipush (v := 24) hx hb dX7_isOpen_6 (by decide) ?_
  refine lv_irem hx hb dX7_isOpen_8 (by decide) ?_
  refine lv_aload_n hx hb dX7_isOpen_9 rfl (lv_at hl 0 rfl) ?_
  refine lv_iload_n hx hb dX7_isOpen_10 rfl (lv_at hl 1 rfl) ?_
  refine lv_iconst (v := 3) hx hb dX7_isOpen_11 (by decide) ?_
  obtain ⟨v8, g7, h6, hF⟩ := g_bind2 hF
  refine g_calli (va_runV (As := [.int x1, .int ((3 : Int32))]) (rest := [.int ((gI g q2 (Int32.toNatClampNeg ((0 : Int32)))) - (gI g q2 (Int32.toNatClampNeg ((0 : Int32)))) / (24 : Int32) * (24 : Int32))]) ⟨hx, hb, hml, hown, hts⟩ (k7_ro l D base g a0 x1 ((3 : Int32)) v8 g7 h6) (cwV 2 hts gX7_isOpen_X7_ro rfl rfl rfl (by decide +kernel) ⟨Nat.le_of_ble_eq_true rfl, Nat.le_of_ble_eq_true rfl⟩) (gC.preV hE hP hS 7 rfl (by decide) h1 [.int x1, .int ((3 : Int32))]) rfl rfl hl.1 rfl (lv_room (Nat.le_of_ble_eq_true rfl)) dX7_isOpen_12 ⟨(Nat.le_of_ble_eq_true rfl), (Nat.le_of_ble_eq_true rfl)⟩) hS (fun H locs hP hS => ?_)
  refine lv_aload_n hx hb dX7_isOpen_15 rfl (lv_at hl 0 rfl) ?_
  refine lv_iload_n hx hb dX7_isOpen_16 rfl (lv_at hl 1 rfl) ?_
  refine lv_iconst (v := 4) hx hb dX7_isOpen_17 (by decide) ?_
  obtain ⟨h10, hF⟩ := g_if hF
  obtain ⟨v12, g11, h9, hF⟩ := g_bind2 hF
  refine g_calli (va_runV (As := [.int x1, .int ((4 : Int32))]) (rest := [.int v8, .int ((gI g q2 (Int32.toNatClampNeg ((0 : Int32)))) - (gI g q2 (Int32.toNatClampNeg ((0 : Int32)))) / (24 : Int32) * (24 : Int32))]) ⟨hx, hb, hml, hown, hts⟩ (k7_ro l D base g7 a0 x1 ((4 : Int32)) v12 g11 h9) (cwV 2 hts gX7_isOpen_X7_ro rfl rfl rfl (by decide +kernel) ⟨Nat.le_of_ble_eq_true rfl, Nat.le_of_ble_eq_true rfl⟩) (gC.preV hE hP hS 7 rfl (by decide) h10 [.int x1, .int ((4 : Int32))]) rfl rfl hl.1 rfl (lv_room (Nat.le_of_ble_eq_true rfl)) dX7_isOpen_18 ⟨(Nat.le_of_ble_eq_true rfl), (Nat.le_of_ble_eq_true rfl)⟩) hS (fun H locs hP hS => ?_)
  refine lv_iconst (v := 1) hx hb dX7_isOpen_21 (by decide) ?_
  refine lv_isub hx hb dX7_isOpen_22 ?_
  obtain ⟨v15, g14, h13, hF⟩ := g_bind2 hF
  refine g_calli (va_runS (As := [.int ((gI g q2 (Int32.toNatClampNeg ((0 : Int32)))) - (gI g q2 (Int32.toNatClampNeg ((0 : Int32)))) / (24 : Int32) * (24 : Int32)), .int v8, .int (v12 - ((1 : Int32)))]) (rest := []) ⟨hx, hb, hml, hown, hts⟩ (k7_isIn l D base g11 ((gI g q2 (Int32.toNatClampNeg ((0 : Int32)))) - (gI g q2 (Int32.toNatClampNeg ((0 : Int32)))) / (24 : Int32) * (24 : Int32)) v8 (v12 - ((1 : Int32))) v15 g14 h13) (va_cwS 3 hts gX7_isOpen_X7_isIn rfl rfl rfl (by decide +kernel) ⟨Nat.le_of_ble_eq_true rfl, Nat.le_of_ble_eq_true rfl⟩) (gC.preS hE hP hS [.int ((gI g q2 (Int32.toNatClampNeg ((0 : Int32)))) - (gI g q2 (Int32.toNatClampNeg ((0 : Int32)))) / (24 : Int32) * (24 : Int32)), .int v8, .int (v12 - ((1 : Int32)))]) rfl rfl hl.1 rfl (lv_room (Nat.le_of_ble_eq_true rfl)) dX7_isOpen_23 ⟨(Nat.le_of_ble_eq_true rfl), (Nat.le_of_ble_eq_true rfl)⟩) hS (fun H locs hP hS => ?_)
  obtain ⟨h16, hF⟩ := g_if hF
  exact g_retZ hx hb hr h16 hlocks hF hP hS (Nat.le_of_ble_eq_true rfl) (Nat.le_of_ble_eq_true rfl) dX7_isOpen_26
