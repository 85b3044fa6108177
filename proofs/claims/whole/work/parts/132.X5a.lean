set_option maxHeartbeats 4000000 in
set_option maxRecDepth 100000 in
theorem k5_hasHouse (l : Launch) (D : va_G) (base : Nat) (g : g_H) (a0 : Nat) (x1 : Int32) (rr : Int32) (gz : g_H) (hF : f5_hasHouse g a0 x1 = some (rr, gz)) : Met l yX5_hasHouse wsX5_hasHouse ({ frames := 0, cells := 0, slots := 0, locals := 0 } : Room) (va_Pc [.ref a0, .int x1] (gC base D g)) (gQi base D rr gz) 0 0 (gA base) := by
  refine g_met (cc := cX5_hasHouse) (maxL := 2) (ret := (some .boolean)) (lst := [(0, .ref a0), (1, .int x1)]) (by decide) rfl (Nat.le_of_ble_eq_true rfl) rfl ?_
  intro p e s m args below meth c ls hx hb hr hml hown hlocks hname hts hE hP hl
  have hown : s.vm.findClass RX5 = some m.cls := hown
  have hK := hE.1
  have hov := hE.2.2.2.2.2.2.2.1
  have hbz := hE.2.2.2.2.2.2.2.2.2.2.2.2
  have hS : va_S (gA base) s.heap s.heap [] := va_S.rf
  have hiX5 : ∀ w ∈ wsX50, w ∈ wsX5_hasHouse := by decide +kernel
  unfold f5_hasHouse at hF
  refine lv_iload_n hx hb dX5_hasHouse_0 rfl (lv_at hl 1 rfl) ?_
  refine lv_if_lt (tgt := 16) hx hb dX5_hasHouse_1 (by decide) (fun c1 => ?_) (fun c1 => ?_)
  · have hF := g_t c1 hF
    refine lv_iconst (v := 0) hx hb dX5_hasHouse_16 (by decide) ?_
    exact g_retZ hx hb hr (Or.inl rfl) hlocks hF hP hS (Nat.le_of_ble_eq_true rfl) (Nat.le_of_ble_eq_true rfl) dX5_hasHouse_17
  · have hF := g_f c1 hF
    refine lv_iload_n hx hb dX5_hasHouse_4 rfl (lv_at hl 1 rfl) ?_
    refine lv_aload_n hx hb dX5_hasHouse_5 rfl (lv_at hl 0 rfl) ?_
    obtain ⟨h2, hF⟩ := g_if hF
    refine g_get hx hb hts hiX5 hown hK hP 5 rfl (by decide) h2 0 (by decide) (hts (.fieldLink RX5 27 "CourierBees$Town" "houseCount" "I") (by decide +kernel)) (fun _ h9 => h9) (gFv_i (Or.inl rfl)) dX5_hasHouse_6 ?_
    refine lv_icmp_ge (tgt := 16) hx hb dX5_hasHouse_9 (by decide) (fun c3 => ?_) (fun c3 => ?_)
    · have hF := g_t c3 hF
      refine lv_iconst (v := 0) hx hb dX5_hasHouse_16 (by decide) ?_
      exact g_retZ hx hb hr (Or.inl rfl) hlocks hF hP hS (Nat.le_of_ble_eq_true rfl) (Nat.le_of_ble_eq_true rfl) dX5_hasHouse_17
    · have hF := g_f c3 hF
      refine lv_iconst (v := 1) hx hb dX5_hasHouse_12 (by decide) ?_
      refine lv_goto (tgt := 17) hx hb dX5_hasHouse_13 (by decide) ?_
      exact g_retZ hx hb hr (Or.inr rfl) hlocks hF hP hS (Nat.le_of_ble_eq_true rfl) (Nat.le_of_ble_eq_true rfl) dX5_hasHouse_17
set_option maxHeartbeats 4000000 in
set_option maxRecDepth 100000 in
theorem k5_wayBetween (l : Launch) (D : va_G) (base : Nat) (g : g_H) (a0 : Nat) (x1 : Int32) (x2 : Int32) (rr : Int32) (gz : g_H) (hF : f5_wayBetween g a0 x1 x2 = some (rr, gz)) : Met l yX5_wayBetween wsX5_wayBetween ({ frames := 1, cells := 0, slots := 0, locals := 21 } : Room) (va_Pc [.ref a0, .int x1, .int x2] (gC base D g)) (gQi base D rr gz) 0 0 (gA base) := by
  refine g_met (cc := cX5_wayBetween) (maxL := 3) (ret := (some .int)) (lst := [(0, .ref a0), (1, .int x1), (2, .int x2)]) (by decide) rfl (Nat.le_of_ble_eq_true rfl) rfl ?_
  intro p e s m args below meth c ls hx hb hr hml hown hlocks hname hts hE hP hl
  have hown : s.vm.findClass RX5 = some m.cls := hown
  have hK := hE.1
  have hov := hE.2.2.2.2.2.2.2.1
  have hbz := hE.2.2.2.2.2.2.2.2.2.2.2.2
  have hS : va_S (gA base) s.heap s.heap [] := va_S.rf
  have hiX5 : ∀ w ∈ wsX50, w ∈ wsX5_wayBetween := by decide +kernel
  unfold f5_wayBetween at hF
  refine lv_aload_n hx hb dX5_wayBetween_0 rfl (lv_at hl 0 rfl) ?_
  refine lv_iload_n hx hb dX5_wayBetween_1 rfl (lv_at hl 1 rfl) ?_
  obtain ⟨h2, hF⟩ := g_if hF
  obtain ⟨v4, g3, h1, hF⟩ := g_bind2 hF
  refine g_calli (va_runV (As := [.int x1]) (rest := []) ⟨hx, hb, hml, hown, hts⟩ (k5_hasHouse l D base g a0 x1 v4 g3 h1) (cwV 1 hts gX5_wayBetween_X5_hasHouse rfl rfl rfl (by decide +kernel) ⟨Nat.le_of_ble_eq_true rfl, Nat.le_of_ble_eq_true rfl⟩) (gC.preV hE hP hS 5 rfl (by decide) h2 [.int x1]) rfl rfl hl.1 rfl (lv_room (Nat.le_of_ble_eq_true rfl)) dX5_wayBetween_2 ⟨(Nat.le_of_ble_eq_true rfl), (Nat.le_of_ble_eq_true rfl)⟩) hS (fun H locs hP hS => ?_)
  refine lv_if_eq (tgt := 27) hx hb dX5_wayBetween_5 (by decide) (fun c5 => ?_) (fun c5 => ?_)
  · have hF := g_t c5 hF
    refine lv_sipush (v := 1000) hx hb dX5_wayBetween_27 (by decide) ?_
    exact g_retI hx hb hr hlocks hF hP hS (Nat.le_of_ble_eq_true rfl) (Nat.le_of_ble_eq_true rfl) dX5_wayBetween_30
  · have hF := g_f c5 hF
    refine lv_aload_n hx hb dX5_wayBetween_8 rfl (lv_at hl 0 rfl) ?_
    refine lv_iload_n hx hb dX5_wayBetween_9 rfl (lv_at hl 2 rfl) ?_
    obtain ⟨h7, hF⟩ := g_if hF
    obtain ⟨v9, g8, h6, hF⟩ := g_bind2 hF
    refine g_calli (va_runV (As := [.int x2]) (rest := []) ⟨hx, hb, hml, hown, hts⟩ (k5_hasHouse l D base g3 a0 x2 v9 g8 h6) (cwV 1 hts gX5_wayBetween_X5_hasHouse rfl rfl rfl (by decide +kernel) ⟨Nat.le_of_ble_eq_true rfl, Nat.le_of_ble_eq_true rfl⟩) (gC.preV hE hP hS 5 rfl (by decide) h7 [.int x2]) rfl rfl hl.1 rfl (lv_room (Nat.le_of_ble_eq_true rfl)) dX5_wayBetween_10 ⟨(Nat.le_of_ble_eq_true rfl), (Nat.le_of_ble_eq_true rfl)⟩) hS (fun H locs hP hS => ?_)
    refine lv_if_eq (tgt := 27) hx hb dX5_wayBetween_13 (by decide) (fun c10 => ?_) (fun c10 => ?_)
    · have hF := g_t c10 hF
      refine lv_sipush (v := 1000) hx hb dX5_wayBetween_27 (by decide) ?_
      exact g_retI hx hb hr hlocks hF hP hS (Nat.le_of_ble_eq_true rfl) (Nat.le_of_ble_eq_true rfl) dX5_wayBetween_30
    · have hF := g_f c10 hF
      refine lv_aload_n hx hb dX5_wayBetween_16 rfl (lv_at hl 0 rfl) ?_
      obtain ⟨h11, hF⟩ := g_if hF
      obtain ⟨q12, hq13, hF⟩ := g_bind hF
      refine g_get hx hb hts hiX5 hown hK hP 5 rfl (by decide) h11 4 (by decide) (hts (.fieldLink RX5 24 "CourierBees$Town" "ways" "[[I") (by decide +kernel)) (fun _ h9 => h9) ((gFv_r (by decide)).trans (congrArg va_rf hq13)) dX5_wayBetween_17 ?_
      refine lv_iload_n hx hb dX5_wayBetween_20 rfl (lv_at hl 1 rfl) ?_
      obtain ⟨h14, hF⟩ := g_if hF
      obtain ⟨h15, hF⟩ := g_if hF
      obtain ⟨q16, hq17, hF⟩ := g_bind hF
      refine g_aald hx hb hP (g_pr h14) (by decide) h15 hq17 dX5_wayBetween_21 ?_
      refine lv_iload_n hx hb dX5_wayBetween_22 rfl (lv_at hl 2 rfl) ?_
      obtain ⟨h18, hF⟩ := g_if hF
      obtain ⟨h19, hF⟩ := g_if hF
      refine g_iald hx hb hP (g_pr h18) h19 dX5_wayBetween_23 ?_
      refine lv_goto (tgt := 30) hx hb dX5_wayBetween_24 (by decide) ?_
      exact g_retI hx hb hr hlocks hF hP hS (Nat.le_of_ble_eq_true rfl) (Nat.le_of_ble_eq_true rfl) dX5_wayBetween_30
set_option maxHeartbeats 4000000 in
set_option maxRecDepth 100000 in
theorem k5_hasHive (l : Launch) (D : va_G) (base : Nat) (g : g_H) (a0 : Nat) (x1 : Int32) (rr : Int32) (gz : g_H) (hF : f5_hasHive g a0 x1 = some (rr, gz)) : Met l yX5_hasHive wsX5_hasHive ({ frames := 1, cells := 0, slots := 0, locals := 21 } : Room) (va_Pc [.ref a0, .int x1] (gC base D g)) (gQi base D rr gz) 0 0 (gA base) := by
  refine g_met (cc := cX5_hasHive) (maxL := 2) (ret := (some .boolean)) (lst := [(0, .ref a0), (1, .int x1)]) (by decide) rfl (Nat.le_of_ble_eq_true rfl) rfl ?_
  intro p e s m args below meth c ls hx hb hr hml hown hlocks hname hts hE hP hl
  have hown : s.vm.findClass RX5 = some m.cls := hown
  have hK := hE.1
  have hov := hE.2.2.2.2.2.2.2.1
  have hbz := hE.2.2.2.2.2.2.2.2.2.2.2.2
  have hS : va_S (gA base) s.heap s.heap [] := va_S.rf
  have hiX5 : ∀ w ∈ wsX50, w ∈ wsX5_hasHive := by decide +kernel
  unfold f5_hasHive at hF
  refine lv_aload_n hx hb dX5_hasHive_0 rfl (lv_at hl 0 rfl) ?_
  refine lv_iload_n hx hb dX5_hasHive_1 rfl (lv_at hl 1 rfl) ?_
  obtain ⟨h2, hF⟩ := g_if hF
  obtain ⟨v4, g3, h1, hF⟩ := g_bind2 hF
  refine g_calli (va_runV (As := [.int x1]) (rest := []) ⟨hx, hb, hml, hown, hts⟩ (k5_hasHouse l D base g a0 x1 v4 g3 h1) (cwV 1 hts gX5_hasHive_X5_hasHouse rfl rfl rfl (by decide +kernel) ⟨Nat.le_of_ble_eq_true rfl, Nat.le_of_ble_eq_true rfl⟩) (gC.preV hE hP hS 5 rfl (by decide) h2 [.int x1]) rfl rfl hl.1 rfl (lv_room (Nat.le_of_ble_eq_true rfl)) dX5_hasHive_2 ⟨(Nat.le_of_ble_eq_true rfl), (Nat.le_of_ble_eq_true rfl)⟩) hS (fun H locs hP hS => ?_)
  refine lv_if_eq (tgt := 21) hx hb dX5_hasHive_5 (by decide) (fun c5 => ?_) (fun c5 => ?_)
  · have hF := g_t c5 hF
    refine lv_iconst (v := 0) hx hb dX5_hasHive_21 (by decide) ?_
    exact g_retZ hx hb hr (Or.inl rfl) hlocks hF hP hS (Nat.le_of_ble_eq_true rfl) (Nat.le_of_ble_eq_true rfl) dX5_hasHive_22
  · have hF := g_f c5 hF
    refine lv_aload_n hx hb dX5_hasHive_8 rfl (lv_at hl 0 rfl) ?_
    obtain ⟨h6, hF⟩ := g_if hF
    obtain ⟨q7, hq8, hF⟩ := g_bind hF
    refine g_get hx hb hts hiX5 hown hK hP 5 rfl (by decide) h6 2 (by decide) (hts (.fieldLink RX5 9 "CourierBees$Town" "hives" "[Z") (by decide +kernel)) (fun _ h9 => h9) ((gFv_r (by decide)).trans (congrArg va_rf hq8)) dX5_hasHive_9 ?_
    refine lv_iload_n hx hb dX5_hasHive_12 rfl (lv_at hl 1 rfl) ?_
    obtain ⟨h9, hF⟩ := g_if hF
    obtain ⟨h10, hF⟩ := g_if hF
    refine g_zald hx hb hP (g_pr h9) h10 dX5_hasHive_13 ?_
    refine lv_if_eq (tgt := 21) hx hb dX5_hasHive_14 (by decide) (fun c11 => ?_) (fun c11 => ?_)
    · have hF := g_t c11 hF
      refine lv_iconst (v := 0) hx hb dX5_hasHive_21 (by decide) ?_
      exact g_retZ hx hb hr (Or.inl rfl) hlocks hF hP hS (Nat.le_of_ble_eq_true rfl) (Nat.le_of_ble_eq_true rfl) dX5_hasHive_22
    · have hF := g_f c11 hF
      refine lv_iconst (v := 1) hx hb dX5_hasHive_17 (by decide) ?_
      refine lv_goto (tgt := 22) hx hb dX5_hasHive_18 (by decide) ?_
      exact g_retZ hx hb hr (Or.inr rfl) hlocks hF hP hS (Nat.le_of_ble_eq_true rfl) (Nat.le_of_ble_eq_true rfl) dX5_hasHive_22
set_option maxHeartbeats 4000000 in
set_option maxRecDepth 100000 in
theorem k5_hasLane (l : Launch) (D : va_G) (base : Nat) (g : g_H) (a0 : Nat) (x1 : Int32) (rr : Int32) (gz : g_H) (hF : f5_hasLane g a0 x1 = some (rr, gz)) : Met l yX5_hasLane wsX5_hasLane ({ frames := 0, cells := 0, slots := 0, locals := 0 } : Room) (va_Pc [.ref a0, .int x1] (gC base D g)) (gQi base D rr gz) 0 0 (gA base) := by
  refine g_met (cc := cX5_hasLane) (maxL := 2) (ret := (some .boolean)) (lst := [(0, .ref a0), (1, .int x1)]) (by decide) rfl (Nat.le_of_ble_eq_true rfl) rfl ?_
  intro p e s m args below meth c ls hx hb hr hml hown hlocks hname hts hE hP hl
  have hown : s.vm.findClass RX5 = some m.cls := hown
  have hK := hE.1
  have hov := hE.2.2.2.2.2.2.2.1
  have hbz := hE.2.2.2.2.2.2.2.2.2.2.2.2
  have hS : va_S (gA base) s.heap s.heap [] := va_S.rf
  have hiX5 : ∀ w ∈ wsX50, w ∈ wsX5_hasLane := by decide +kernel
  unfold f5_hasLane at hF
  refine lv_iload_n hx hb dX5_hasLane_0 rfl (lv_at hl 1 rfl) ?_
  refine lv_if_lt (tgt := 16) hx hb dX5_hasLane_1 (by decide) (fun c1 => ?_) (fun c1 => ?_)
  · have hF := g_t c1 hF
    refine lv_iconst (v := 0) hx hb dX5_hasLane_16 (by decide) ?_
    exact g_retZ hx hb hr (Or.inl rfl) hlocks hF hP hS (Nat.le_of_ble_eq_true rfl) (Nat.le_of_ble_eq_true rfl) dX5_hasLane_17
  · have hF := g_f c1 hF
    refine lv_iload_n hx hb dX5_hasLane_4 rfl (lv_at hl 1 rfl) ?_
    refine lv_aload_n hx hb dX5_hasLane_5 rfl (lv_at hl 0 rfl) ?_
    obtain ⟨h2, hF⟩ := g_if hF
    refine g_get hx hb hts hiX5 hown hK hP 5 rfl (by decide) h2 1 (by decide) (hts (.fieldLink RX5 31 "CourierBees$Town" "laneCount" "I") (by decide +kernel)) (fun _ h9 => h9) (gFv_i (Or.inl rfl)) dX5_hasLane_6 ?_
    refine lv_icmp_ge (tgt := 16) hx hb dX5_hasLane_9 (by decide) (fun c3 => ?_) (fun c3 => ?_)
    · have hF := g_t c3 hF
      refine lv_iconst (v := 0) hx hb dX5_hasLane_16 (by decide) ?_
      exact g_retZ hx hb hr (Or.inl rfl) hlocks hF hP hS (Nat.le_of_ble_eq_true rfl) (Nat.le_of_ble_eq_true rfl) dX5_hasLane_17
    · have hF := g_f c3 hF
      refine lv_iconst (v := 1) hx hb dX5_hasLane_12 (by decide) ?_
      refine lv_goto (tgt := 17) hx hb dX5_hasLane_13 (by decide) ?_
      exact g_retZ hx hb hr (Or.inr rfl) hlocks hF hP hS (Nat.le_of_ble_eq_true rfl) (Nat.le_of_ble_eq_true rfl) dX5_hasLane_17
set_option maxHeartbeats 4000000 in
set_option maxRecDepth 100000 in
theorem k5_isOpen (l : Launch) (D : va_G) (base : Nat) (g : g_H) (a0 : Nat) (x1 : Int32) (x2 : Int32) (rr : Int32) (gz : g_H) (hF : f5_isOpen g a0 x1 x2 = some (rr, gz)) : Met l yX5_isOpen wsX5_isOpen ({ frames := 1, cells := 0, slots := 0, locals := 22 } : Room) (va_Pc [.ref a0, .int x1, .int x2] (gC base D g)) (gQi base D rr gz) 0 0 (gA base) := by
  refine g_met (cc := cX5_isOpen) (maxL := 3) (ret := (some .boolean)) (lst := [(0, .ref a0), (1, .int x1), (2, .int x2)]) (by decide) rfl (Nat.le_of_ble_eq_true rfl) rfl ?_
  intro p e s m args below meth c ls hx hb hr hml hown hlocks hname hts hE hP hl
  have hown : s.vm.findClass RX5 = some m.cls := hown
  have hK := hE.1
  have hov := hE.2.2.2.2.2.2.2.1
  have hbz := hE.2.2.2.2.2.2.2.2.2.2.2.2
  have hS : va_S (gA base) s.heap s.heap [] := va_S.rf
  have hiX5 : ∀ w ∈ wsX50, w ∈ wsX5_isOpen := by decide +kernel
  unfold f5_isOpen at hF
  refine lv_aload_n hx hb dX5_isOpen_0 rfl (lv_at hl 0 rfl) ?_
  refine lv_iload_n hx hb dX5_isOpen_1 rfl (lv_at hl 1 rfl) ?_
  obtain ⟨h2, hF⟩ := g_if hF
  obtain ⟨v4, g3, h1, hF⟩ := g_bind2 hF
  refine g_calli (va_runV (As := [.int x1]) (rest := []) ⟨hx, hb, hml, hown, hts⟩ (k5_hasLane l D base g a0 x1 v4 g3 h1) (cwV 1 hts gX5_isOpen_X5_hasLane rfl rfl rfl (by decide +kernel) ⟨Nat.le_of_ble_eq_true rfl, Nat.le_of_ble_eq_true rfl⟩) (gC.preV hE hP hS 5 rfl (by decide) h2 [.int x1]) rfl rfl hl.1 rfl (lv_room (Nat.le_of_ble_eq_true rfl)) dX5_isOpen_2 ⟨(Nat.le_of_ble_eq_true rfl), (Nat.le_of_ble_eq_true rfl)⟩) hS (fun H locs hP hS => ?_)
  refine lv_if_eq (tgt := 25) hx hb dX5_isOpen_5 (by decide) (fun c5 => ?_) (fun c5 => ?_)
  · have hF := g_t c5 hF
    refine lv_iconst (v := 0) hx hb dX5_isOpen_25 (by decide) ?_
    exact g_retZ hx hb hr (Or.inl rfl) hlocks hF hP hS (Nat.le_of_ble_eq_true rfl) (Nat.le_of_ble_eq_true rfl) dX5_isOpen_26
  · have hF := g_f c5 hF
    refine lv_aload_n hx hb dX5_isOpen_8 rfl (lv_at hl 0 rfl) ?_
    obtain ⟨h6, hF⟩ := g_if hF
    obtain ⟨q7, hq8, hF⟩ := g_bind hF
    refine g_get hx hb hts hiX5 hown hK hP 5 rfl (by decide) h6 3 (by decide) (hts (.fieldLink RX5 17 "CourierBees$Town" "lanes" "[LCourierBees$Lane;") (by decide +kernel)) (fun _ h9 => h9) ((gFv_r (by decide)).trans (congrArg va_rf hq8)) dX5_isOpen_9 ?_
    refine lv_iload_n hx hb dX5_isOpen_12 rfl (lv_at hl 1 rfl) ?_
    obtain ⟨h9, hF⟩ := g_if hF
    obtain ⟨h10, hF⟩ := g_if hF
    obtain ⟨q11, hq12, hF⟩ := g_bind hF
    refine g_aald hx hb hP (g_pr h9) (by decide) h10 hq12 dX5_isOpen_13 ?_
    refine lv_iload_n hx hb dX5_isOpen_14 rfl (lv_at hl 2 rfl) ?_
    obtain ⟨h14, hF⟩ := g_if hF
    obtain ⟨v16, g15, h13, hF⟩ := g_bind2 hF
    refine g_calli (va_runV (As := [.int x2]) (rest := []) ⟨hx, hb, hml, hown, hts⟩ (k2_isOpen l D base g3 q11 x2 v16 g15 h13) (cwV 1 hts gX5_isOpen_X2_isOpen rfl rfl rfl (by decide +kernel) ⟨Nat.le_of_ble_eq_true rfl, Nat.le_of_ble_eq_true rfl⟩) (gC.preV hE hP hS 2 rfl (by decide) h14 [.int x2]) rfl rfl hl.1 rfl (lv_room (Nat.le_of_ble_eq_true rfl)) dX5_isOpen_15 ⟨(Nat.le_of_ble_eq_true rfl), (Nat.le_of_ble_eq_true rfl)⟩) hS (fun H locs hP hS => ?_)
    refine lv_if_eq (tgt := 25) hx hb dX5_isOpen_18 (by decide) (fun c17 => ?_) (fun c17 => ?_)
    · have hF := g_t c17 hF
      refine lv_iconst (v := 0) hx hb dX5_isOpen_25 (by decide) ?_
      exact g_retZ hx hb hr (Or.inl rfl) hlocks hF hP hS (Nat.le_of_ble_eq_true rfl) (Nat.le_of_ble_eq_true rfl) dX5_isOpen_26
    · have hF := g_f c17 hF
      refine lv_iconst (v := 1) hx hb dX5_isOpen_21 (by decide) ?_
      refine lv_goto (tgt := 26) hx hb dX5_isOpen_22 (by decide) ?_
      exact g_retZ hx hb hr (Or.inr rfl) hlocks hF hP hS (Nat.le_of_ble_eq_true rfl) (Nat.le_of_ble_eq_true rfl) dX5_isOpen_26
set_option maxHeartbeats 4000000 in
set_option maxRecDepth 100000 in
theorem k5_lengthOf (l : Launch) (D : va_G) (base : Nat) (g : g_H) (a0 : Nat) (x1 : Int32) (rr : Int32) (gz : g_H) (hF : f5_lengthOf g a0 x1 = some (rr, gz)) : Met l yX5_lengthOf wsX5_lengthOf ({ frames := 1, cells := 0, slots := 0, locals := 21 } : Room) (va_Pc [.ref a0, .int x1] (gC base D g)) (gQi base D rr gz) 0 0 (gA base) := by
  refine g_met (cc := cX5_lengthOf) (maxL := 2) (ret := (some .int)) (lst := [(0, .ref a0), (1, .int x1)]) (by decide) rfl (Nat.le_of_ble_eq_true rfl) rfl ?_
  intro p e s m args below meth c ls hx hb hr hml hown hlocks hname hts hE hP hl
  have hown : s.vm.findClass RX5 = some m.cls := hown
  have hK := hE.1
  have hov := hE.2.2.2.2.2.2.2.1
  have hbz := hE.2.2.2.2.2.2.2.2.2.2.2.2
  have hS : va_S (gA base) s.heap s.heap [] := va_S.rf
  have hiX2 : ∀ w ∈ wsX20, w ∈ wsX5_lengthOf := by decide +kernel
  have hiX5 : ∀ w ∈ wsX50, w ∈ wsX5_lengthOf := by decide +kernel
  unfold f5_lengthOf at hF
  refine lv_aload_n hx hb dX5_lengthOf_0 rfl (lv_at hl 0 rfl) ?_
  refine lv_iload_n hx hb dX5_lengthOf_1 rfl (lv_at hl 1 rfl) ?_
  obtain ⟨h2, hF⟩ := g_if hF
  obtain ⟨v4, g3, h1, hF⟩ := g_bind2 hF
  refine g_calli (va_runV (As := [.int x1]) (rest := []) ⟨hx, hb, hml, hown, hts⟩ (k5_hasLane l D base g a0 x1 v4 g3 h1) (cwV 1 hts gX5_lengthOf_X5_hasLane rfl rfl rfl (by decide +kernel) ⟨Nat.le_of_ble_eq_true rfl, Nat.le_of_ble_eq_true rfl⟩) (gC.preV hE hP hS 5 rfl (by decide) h2 [.int x1]) rfl rfl hl.1 rfl (lv_room (Nat.le_of_ble_eq_true rfl)) dX5_lengthOf_2 ⟨(Nat.le_of_ble_eq_true rfl), (Nat.le_of_ble_eq_true rfl)⟩) hS (fun H locs hP hS => ?_)
  refine lv_if_eq (tgt := 20) hx hb dX5_lengthOf_5 (by decide) (fun c5 => ?_) (fun c5 => ?_)
  · have hF := g_t c5 hF
    refine lv_sipush (v := 1000) hx hb dX5_lengthOf_20 (by decide) ?_
    exact g_retI hx hb hr hlocks hF hP hS (Nat.le_of_ble_eq_true rfl) (Nat.le_of_ble_eq_true rfl) dX5_lengthOf_23
  · have hF := g_f c5 hF
    refine lv_aload_n hx hb dX5_lengthOf_8 rfl (lv_at hl 0 rfl) ?_
    obtain ⟨h6, hF⟩ := g_if hF
    obtain ⟨q7, hq8, hF⟩ := g_bind hF
    refine g_get hx hb hts hiX5 hown hK hP 5 rfl (by decide) h6 3 (by decide) (hts (.fieldLink RX5 17 "CourierBees$Town" "lanes" "[LCourierBees$Lane;") (by decide +kernel)) (fun _ h9 => h9) ((gFv_r (by decide)).trans (congrArg va_rf hq8)) dX5_lengthOf_9 ?_
    refine lv_iload_n hx hb dX5_lengthOf_12 rfl (lv_at hl 1 rfl) ?_
    obtain ⟨h9, hF⟩ := g_if hF
    obtain ⟨h10, hF⟩ := g_if hF
    obtain ⟨q11, hq12, hF⟩ := g_bind hF
    refine g_aald hx hb hP (g_pr h9) (by decide) h10 hq12 dX5_lengthOf_13 ?_
    obtain ⟨h13, hF⟩ := g_if hF
    refine g_get hx hb hts hiX2 hown hK hP 2 rfl (by decide) h13 2 (by decide) (hts (.fieldLink RX5 44 "CourierBees$Lane" "length" "I") (by decide +kernel)) (fun _ h9 => h9) (gFv_i (Or.inl rfl)) dX5_lengthOf_14 ?_
    refine lv_goto (tgt := 23) hx hb dX5_lengthOf_17 (by decide) ?_
    exact g_retI hx hb hr hlocks hF hP hS (Nat.le_of_ble_eq_true rfl) (Nat.le_of_ble_eq_true rfl) dX5_lengthOf_23
set_option maxHeartbeats 4000000 in
set_option maxRecDepth 100000 in
theorem k5_shortestLane (l : Launch) (D : va_G) (base : Nat) (g : g_H) (a0 : Nat) (x1 : Int32) (x2 : Int32) (rr : Int32) (gz : g_H) (hF : f5_shortestLane g a0 x1 x2 = some (rr, gz)) : Met l yX5_shortestLane wsX5_shortestLane ({ frames := 2, cells := 0, slots := 0, locals := 42 } : Room) (va_Pc [.ref a0, .int x1, .int x2] (gC base D g)) (gQi base D rr gz) 0 0 (gA base) := by
  refine g_met (cc := cX5_shortestLane) (maxL := 5) (ret := (some .int)) (lst := [(0, .ref a0), (1, .int x1), (2, .int x2)]) (by decide) rfl (Nat.le_of_ble_eq_true rfl) rfl ?_
  intro p e s m args below meth c ls hx hb hr hml hown hlocks hname hts hE hP hl
  have hown : s.vm.findClass RX5 = some m.cls := hown
  have hK := hE.1
  have hov := hE.2.2.2.2.2.2.2.1
  have hbz := hE.2.2.2.2.2.2.2.2.2.2.2.2
  have hS : va_S (gA base) s.heap s.heap [] := va_S.rf
  have hiX2 : ∀ w ∈ wsX20, w ∈ wsX5_shortestLane := by decide +kernel
  have hiX5 : ∀ w ∈ wsX50, w ∈ wsX5_shortestLane := by decide +kernel
  have HL5 : ∀ (n5 : Nat), ∀ (g : g_H) (a0 : Nat) (x1 : Int32) (x2 : Int32) (x3 : Int32) (x4 : Int32) (H : Heap) (locs : List Loc) (ls : Array Slot), f5_shortestLane_5 n5 g a0 x1 x2 x3 x4 = some (rr, gz) → gP base D s g H → va_S (gA base) s.heap H locs → lv_has ls 5 [(0, .ref a0), (1, .int x1), (2, .int x2), (3, .int x3), (4, .int x4)] → W p l e ({ frames := 2, cells := 0, slots := 0, locals := 42 } : Room) s m args below meth c H locs 0 0 (MQ below (gQi base D rr gz) args s 0 0 (gA base)) (F0 m 5 ls []) := by
    intro n5
    induction n5 with
    | zero => intro g a0 x1 x2 x3 x4 H locs ls hF hP hS hl; exact g_no hF
    | succ n5 ih5 =>
      have HB55 : ∀ (g : g_H) (a0 : Nat) (x1 : Int32) (x2 : Int32) (x3 : Int32) (x4 : Int32) (H : Heap) (locs : List Loc) (ls : Array Slot), f5_shortestLane_55 (f5_shortestLane_5 n5) g a0 x1 x2 x3 x4 = some (rr, gz) → gP base D s g H → va_S (gA base) s.heap H locs → lv_has ls 5 [(0, .ref a0), (1, .int x1), (2, .int x2), (3, .int x3), (4, .int x4)] → W p l e ({ frames := 2, cells := 0, slots := 0, locals := 42 } : Room) s m args below meth c H locs 0 0 (MQ below (gQi base D rr gz) args s 0 0 (gA base)) (F0 m 55 ls []) := by
        intro g a0 x1 x2 x3 x4 H locs ls hF hP hS hl
        unfold f5_shortestLane_55 at hF
        refine lv_iinc (v := x4 + (1 : Int32)) (lv' := [(4, .int (x4 + (1 : Int32))), (0, .ref a0), (1, .int x1), (2, .int x2), (3, .int x3)]) hx hb dX5_shortestLane_55 hl (k := 4) rfl rfl (by decide) rfl (fun ls hl => ?_)
        refine lv_goto (tgt := 5) hx hb dX5_shortestLane_58 (by decide) ?_
        exact ih5 _ _ _ _ _ _ _ _ _ hF hP hS (lv_sub hl [1, 2, 3, 4, 0] rfl)
      have HB52 : ∀ (g : g_H) (a0 : Nat) (x1 : Int32) (x2 : Int32) (x4 : Int32) (H : Heap) (locs : List Loc) (ls : Array Slot), f5_shortestLane_52 (f5_shortestLane_5 n5) g a0 x1 x2 x4 = some (rr, gz) → gP base D s g H → va_S (gA base) s.heap H locs → lv_has ls 5 [(0, .ref a0), (1, .int x1), (2, .int x2), (4, .int x4)] → W p l e ({ frames := 2, cells := 0, slots := 0, locals := 42 } : Room) s m args below meth c H locs 0 0 (MQ below (gQi base D rr gz) args s 0 0 (gA base)) (F0 m 52 ls []) := by
        intro g a0 x1 x2 x4 H locs ls hF hP hS hl
        unfold f5_shortestLane_52 at hF
        refine lv_iload hx hb dX5_shortestLane_52 (lv_at hl 3 rfl) ?_
        refine lv_istore_n (lv' := [(3, .int x4), (0, .ref a0), (1, .int x1), (2, .int x2), (4, .int x4)]) hx hb dX5_shortestLane_54 rfl hl (by decide) rfl (fun ls hl => ?_)
        exact HB55 _ _ _ _ _ _ _ _ _ hF hP hS (lv_sub hl [1, 2, 3, 0, 4] rfl)
      intro g a0 x1 x2 x3 x4 H locs ls hF hP hS hl
      have hF : f5_shortestLane_5b (f5_shortestLane_5 n5) g a0 x1 x2 x3 x4 = some (rr, gz) := hF
      unfold f5_shortestLane_5b at hF
      refine lv_iload hx hb dX5_shortestLane_5 (lv_at hl 4 rfl) ?_
      refine lv_aload_n hx hb dX5_shortestLane_7 rfl (lv_at hl 0 rfl) ?_
      obtain ⟨h1, hF⟩ := g_if hF
      refine g_get hx hb hts hiX5 hown hK hP 5 rfl (by decide) h1 1 (by decide) (hts (.fieldLink RX5 31 "CourierBees$Town" "laneCount" "I") (by decide +kernel)) (fun _ h9 => h9) (gFv_i (Or.inl rfl)) dX5_shortestLane_8 ?_
      refine lv_icmp_ge (tgt := 61) hx hb dX5_shortestLane_11 (by decide) (fun c2 => ?_) (fun c2 => ?_)
      · have hF := g_t c2 hF
        refine lv_iload_n hx hb dX5_shortestLane_61 rfl (lv_at hl 3 rfl) ?_
        exact g_retI hx hb hr hlocks hF hP hS (Nat.le_of_ble_eq_true rfl) (Nat.le_of_ble_eq_true rfl) dX5_shortestLane_62
      · have hF := g_f c2 hF
        refine lv_aload_n hx hb dX5_shortestLane_14 rfl (lv_at hl 0 rfl) ?_
        obtain ⟨q3, hq4, hF⟩ := g_bind hF
        refine g_get hx hb hts hiX5 hown hK hP 5 rfl (by decide) h1 3 (by decide) (hts (.fieldLink RX5 17 "CourierBees$Town" "lanes" "[LCourierBees$Lane;") (by decide +kernel)) (fun _ h9 => h9) ((gFv_r (by decide)).trans (congrArg va_rf hq4)) dX5_shortestLane_15 ?_
        refine lv_iload hx hb dX5_shortestLane_18 (lv_at hl 4 rfl) ?_
        obtain ⟨h5, hF⟩ := g_if hF
        obtain ⟨h6, hF⟩ := g_if hF
        obtain ⟨q7, hq8, hF⟩ := g_bind hF
        refine g_aald hx hb hP (g_pr h5) (by decide) h6 hq8 dX5_shortestLane_20 ?_
        refine lv_iload_n hx hb dX5_shortestLane_21 rfl (lv_at hl 1 rfl) ?_
        refine lv_iload_n hx hb dX5_shortestLane_22 rfl (lv_at hl 2 rfl) ?_
        obtain ⟨h10, hF⟩ := g_if hF
        obtain ⟨v12, g11, h9, hF⟩ := g_bind2 hF
        refine g_calli (va_runV (As := [.int x1, .int x2]) (rest := []) ⟨hx, hb, hml, hown, hts⟩ (k2_joins l D base g q7 x1 x2 v12 g11 h9) (cwV 2 hts gX5_shortestLane_X2_joins rfl rfl rfl (by decide +kernel) ⟨Nat.le_of_ble_eq_true rfl, Nat.le_of_ble_eq_true rfl⟩) (gC.preV hE hP hS 2 rfl (by decide) h10 [.int x1, .int x2]) rfl rfl hl.1 rfl (lv_room (Nat.le_of_ble_eq_true rfl)) dX5_shortestLane_23 ⟨(Nat.le_of_ble_eq_true rfl), (Nat.le_of_ble_eq_true rfl)⟩) hS (fun H locs hP hS => ?_)
        refine lv_if_eq (tgt := 55) hx hb dX5_shortestLane_26 (by decide) (fun c13 => ?_) (fun c13 => ?_)
        · have hF := g_t c13 hF
          exact HB55 _ _ _ _ _ _ _ _ _ hF hP hS (lv_sub hl [0, 1, 2, 3, 4] rfl)
        · have hF := g_f c13 hF
          refine lv_iload_n hx hb dX5_shortestLane_29 rfl (lv_at hl 3 rfl) ?_
          refine lv_iconst (v := (-1)) hx hb dX5_shortestLane_30 (by decide) ?_
          refine lv_icmp_eq (tgt := 52) hx hb dX5_shortestLane_31 (by decide) (fun c14 => ?_) (fun c14 => ?_)
          · have hF := g_t c14 hF
            exact HB52 _ _ _ _ _ _ _ _ hF hP hS (lv_sub hl [0, 1, 2, 4] rfl)
          · have hF := g_f c14 hF
            refine lv_aload_n hx hb dX5_shortestLane_34 rfl (lv_at hl 0 rfl) ?_
            obtain ⟨h15, hF⟩ := g_if hF
            obtain ⟨q16, hq17, hF⟩ := g_bind hF
            refine g_get hx hb hts hiX5 hown hK hP 5 rfl (by decide) h15 3 (by decide) (hts (.fieldLink RX5 17 "CourierBees$Town" "lanes" "[LCourierBees$Lane;") (by decide +kernel)) (fun _ h9 => h9) ((gFv_r (by decide)).trans (congrArg va_rf hq17)) dX5_shortestLane_35 ?_
            refine lv_iload hx hb dX5_shortestLane_38 (lv_at hl 4 rfl) ?_
            obtain ⟨h18, hF⟩ := g_if hF
            obtain ⟨h19, hF⟩ := g_if hF
            obtain ⟨q20, hq21, hF⟩ := g_bind hF
            refine g_aald hx hb hP (g_pr h18) (by decide) h19 hq21 dX5_shortestLane_40 ?_
            obtain ⟨h22, hF⟩ := g_if hF
            refine g_get hx hb hts hiX2 hown hK hP 2 rfl (by decide) h22 2 (by decide) (hts (.fieldLink RX5 44 "CourierBees$Lane" "length" "I") (by decide +kernel)) (fun _ h9 => h9) (gFv_i (Or.inl rfl)) dX5_shortestLane_41 ?_
            refine lv_aload_n hx hb dX5_shortestLane_44 rfl (lv_at hl 0 rfl) ?_
            refine lv_iload_n hx hb dX5_shortestLane_45 rfl (lv_at hl 3 rfl) ?_
            obtain ⟨v25, g24, h23, hF⟩ := g_bind2 hF
            refine g_calli (va_runV (As := [.int x3]) (rest := [.int (gI g11 q20 2)]) ⟨hx, hb, hml, hown, hts⟩ (k5_lengthOf l D base g11 a0 x3 v25 g24 h23) (cwV 1 hts gX5_shortestLane_X5_lengthOf rfl rfl rfl (by decide +kernel) ⟨Nat.le_of_ble_eq_true rfl, Nat.le_of_ble_eq_true rfl⟩) (gC.preV hE hP hS 5 rfl (by decide) h15 [.int x3]) rfl rfl hl.1 rfl (lv_room (Nat.le_of_ble_eq_true rfl)) dX5_shortestLane_46 ⟨(Nat.le_of_ble_eq_true rfl), (Nat.le_of_ble_eq_true rfl)⟩) hS (fun H locs hP hS => ?_)
            refine lv_icmp_ge (tgt := 55) hx hb dX5_shortestLane_49 (by decide) (fun c26 => ?_) (fun c26 => ?_)
            · have hF := g_t c26 hF
              exact HB55 _ _ _ _ _ _ _ _ _ hF hP hS (lv_sub hl [0, 1, 2, 3, 4] rfl)
            · have hF := g_f c26 hF
              exact HB52 _ _ _ _ _ _ _ _ hF hP hS (lv_sub hl [0, 1, 2, 4] rfl)
  unfold f5_shortestLane at hF
  refine lv_iconst (v := (-1)) hx hb dX5_shortestLane_0 (by decide) ?_
  refine lv_istore_n (lv' := [(3, .int ((-1 : Int32))), (0, .ref a0), (1, .int x1), (2, .int x2)]) hx hb dX5_shortestLane_1 rfl hl (by decide) rfl (fun ls hl => ?_)
  refine lv_iconst (v := 0) hx hb dX5_shortestLane_2 (by decide) ?_
  refine lv_istore (lv' := [(4, .int ((0 : Int32))), (3, .int ((-1 : Int32))), (0, .ref a0), (1, .int x1), (2, .int x2)]) hx hb dX5_shortestLane_3 hl (by decide) rfl (fun ls hl => ?_)
  exact HL5 300 _ _ _ _ _ _ _ _ _ hF hP hS (lv_sub hl [2, 3, 4, 1, 0] rfl)
set_option maxHeartbeats 4000000 in
set_option maxRecDepth 100000 in
theorem k5_join (l : Launch) (D : va_G) (base : Nat) (g : g_H) (a0 : Nat) (x1 : Int32) (x2 : Int32) (x3 : Int32) (rr : Int32) (gz : g_H) (hF : f5_join g a0 x1 x2 x3 = some (rr, gz)) : Met l yX5_join wsX5_join ({ frames := 1, cells := 0, slots := 0, locals := 24 } : Room) (va_Pc [.ref a0, .int x1, .int x2, .int x3] (gC base D g)) (gQi base D rr gz) 0 0 (gA base) := by
  refine g_met (cc := cX5_join) (maxL := 8) (ret := (some .int)) (lst := [(0, .ref a0), (1, .int x1), (2, .int x2), (3, .int x3)]) (by decide) rfl (Nat.le_of_ble_eq_true rfl) rfl ?_
  intro p e s m args below meth c ls hx hb hr hml hown hlocks hname hts hE hP hl
  have hown : s.vm.findClass RX5 = some m.cls := hown
  have hK := hE.1
  have hov := hE.2.2.2.2.2.2.2.1
  have hbz := hE.2.2.2.2.2.2.2.2.2.2.2.2
  have hS : va_S (gA base) s.heap s.heap [] := va_S.rf
  have hiX5 : ∀ w ∈ wsX50, w ∈ wsX5_join := by decide +kernel
  have HL18 : ∀ (n18 : Nat), ∀ (g : g_H) (a0 : Nat) (x1 : Int32) (x2 : Int32) (x3 : Int32) (x4 : Int32) (H : Heap) (locs : List Loc) (ls : Array Slot), f5_join_18 n18 g a0 x1 x2 x3 x4 = some (rr, gz) → gP base D s g H → va_S (gA base) s.heap H locs → lv_has ls 8 [(0, .ref a0), (1, .int x1), (2, .int x2), (3, .int x3), (4, .int x4)] → W p l e ({ frames := 1, cells := 0, slots := 0, locals := 24 } : Room) s m args below meth c H locs 0 0 (MQ below (gQi base D rr gz) args s 0 0 (gA base)) (F0 m 18 ls []) := by
    intro n18
    induction n18 with
    | zero => intro g a0 x1 x2 x3 x4 H locs ls hF hP hS hl; exact g_no hF
    | succ n18 ih18 =>
      have HL30 : ∀ (n30 : Nat), ∀ (g : g_H) (a0 : Nat) (x1 : Int32) (x2 : Int32) (x3 : Int32) (x4 : Int32) (x5 : Int32) (H : Heap) (locs : List Loc) (ls : Array Slot), f5_join_30 (f5_join_18 n18) n30 g a0 x1 x2 x3 x4 x5 = some (rr, gz) → gP base D s g H → va_S (gA base) s.heap H locs → lv_has ls 8 [(0, .ref a0), (1, .int x1), (2, .int x2), (3, .int x3), (4, .int x4), (5, .int x5)] → W p l e ({ frames := 1, cells := 0, slots := 0, locals := 24 } : Room) s m args below meth c H locs 0 0 (MQ below (gQi base D rr gz) args s 0 0 (gA base)) (F0 m 30 ls []) := by
        intro n30
        induction n30 with
        | zero => intro g a0 x1 x2 x3 x4 x5 H locs ls hF hP hS hl; exact g_no hF
        | succ n30 ih30 =>
          intro g a0 x1 x2 x3 x4 x5 H locs ls hF hP hS hl
          have hF : f5_join_30b (f5_join_18 n18) (f5_join_30 (f5_join_18 n18) n30) g a0 x1 x2 x3 x4 x5 = some (rr, gz) := hF
          unfold f5_join_30b at hF
          refine lv_iload hx hb dX5_join_30 (lv_at hl 5 rfl) ?_
          refine lv_aload_n hx hb dX5_join_32 rfl (lv_at hl 0 rfl) ?_
          obtain ⟨h14, hF⟩ := g_if hF
          refine g_get hx hb hts hiX5 hown hK hP 5 rfl (by decide) h14 0 (by decide) (hts (.fieldLink RX5 27 "CourierBees$Town" "houseCount" "I") (by decide +kernel)) (fun _ h9 => h9) (gFv_i (Or.inl rfl)) dX5_join_33 ?_
          refine lv_icmp_ge (tgt := 121) hx hb dX5_join_36 (by decide) (fun c15 => ?_) (fun c15 => ?_)
          · have hF := g_t c15 hF
            refine lv_iinc (v := x4 + (1 : Int32)) (lv' := [(4, .int (x4 + (1 : Int32))), (0, .ref a0), (1, .int x1), (2, .int x2), (3, .int x3), (5, .int x5)]) hx hb dX5_join_121 hl (k := 4) rfl rfl (by decide) rfl (fun ls hl => ?_)
            refine lv_goto (tgt := 18) hx hb dX5_join_124 (by decide) ?_
            exact ih18 _ _ _ _ _ _ _ _ _ hF hP hS (lv_sub hl [1, 2, 3, 4, 0] rfl)
          · have hF := g_f c15 hF
            refine lv_aload_n hx hb dX5_join_39 rfl (lv_at hl 0 rfl) ?_
            obtain ⟨q16, hq17, hF⟩ := g_bind hF
            refine g_get hx hb hts hiX5 hown hK hP 5 rfl (by decide) h14 4 (by decide) (hts (.fieldLink RX5 24 "CourierBees$Town" "ways" "[[I") (by decide +kernel)) (fun _ h9 => h9) ((gFv_r (by decide)).trans (congrArg va_rf hq17)) dX5_join_40 ?_
            refine lv_iload hx hb dX5_join_43 (lv_at hl 4 rfl) ?_
            obtain ⟨h18, hF⟩ := g_if hF
            obtain ⟨h19, hF⟩ := g_if hF
            obtain ⟨q20, hq21, hF⟩ := g_bind hF
            refine g_aald hx hb hP (g_pr h18) (by decide) h19 hq21 dX5_join_45 ?_
            refine lv_iload_n hx hb dX5_join_46 rfl (lv_at hl 1 rfl) ?_
            obtain ⟨h22, hF⟩ := g_if hF
            obtain ⟨h23, hF⟩ := g_if hF
            refine g_iald hx hb hP (g_pr h22) h23 dX5_join_47 ?_
            refine lv_iload_n hx hb dX5_join_48 rfl (lv_at hl 3 rfl) ?_
            refine lv_iadd hx hb dX5_join_49 ?_
            refine lv_aload_n hx hb dX5_join_50 rfl (lv_at hl 0 rfl) ?_
            obtain ⟨q24, hq25, hF⟩ := g_bind hF
            refine g_get hx hb hts hiX5 hown hK hP 5 rfl (by decide) h14 4 (by decide) (hts (.fieldLink RX5 24 "CourierBees$Town" "ways" "[[I") (by decide +kernel)) (fun _ h9 => h9) ((gFv_r (by decide)).trans (congrArg va_rf hq25)) dX5_join_51 ?_
            refine lv_iload_n hx hb dX5_join_54 rfl (lv_at hl 2 rfl) ?_
            obtain ⟨h26, hF⟩ := g_if hF
            obtain ⟨h27, hF⟩ := g_if hF
            obtain ⟨q28, hq29, hF⟩ := g_bind hF
            refine g_aald hx hb hP (g_pr h26) (by decide) h27 hq29 dX5_join_55 ?_
            refine lv_iload hx hb dX5_join_56 (lv_at hl 5 rfl) ?_
            obtain ⟨h30, hF⟩ := g_if hF
            obtain ⟨h31, hF⟩ := g_if hF
            refine g_iald hx hb hP (g_pr h30) h31 dX5_join_58 ?_
            refine lv_iadd hx hb dX5_join_59 ?_
            refine lv_istore (lv' := [(6, .int (((gI g q20 (Int32.toNatClampNeg x1)) + x3) + (gI g q28 (Int32.toNatClampNeg x5)))), (0, .ref a0), (1, .int x1), (2, .int x2), (3, .int x3), (4, .int x4), (5, .int x5)]) hx hb dX5_join_60 hl (by decide) rfl (fun ls hl => ?_)
            refine lv_aload_n hx hb dX5_join_62 rfl (lv_at hl 1 rfl) ?_
            obtain ⟨q32, hq33, hF⟩ := g_bind hF
            refine g_get hx hb hts hiX5 hown hK hP 5 rfl (by decide) h14 4 (by decide) (hts (.fieldLink RX5 24 "CourierBees$Town" "ways" "[[I") (by decide +kernel)) (fun _ h9 => h9) ((gFv_r (by decide)).trans (congrArg va_rf hq33)) dX5_join_63 ?_
            refine lv_iload hx hb dX5_join_66 (lv_at hl 5 rfl) ?_
            obtain ⟨h34, hF⟩ := g_if hF
            obtain ⟨h35, hF⟩ := g_if hF
            obtain ⟨q36, hq37, hF⟩ := g_bind hF
            refine g_aald hx hb hP (g_pr h34) (by decide) h35 hq37 dX5_join_68 ?_
            refine lv_iload_n hx hb dX5_join_69 rfl (lv_at hl 3 rfl) ?_
            obtain ⟨h38, hF⟩ := g_if hF
            obtain ⟨h39, hF⟩ := g_if hF
            refine g_iald hx hb hP (g_pr h38) h39 dX5_join_70 ?_
            refine lv_iload_n hx hb dX5_join_71 rfl (lv_at hl 4 rfl) ?_
            refine lv_iadd hx hb dX5_join_72 ?_
            refine lv_aload_n hx hb dX5_join_73 rfl (lv_at hl 1 rfl) ?_
            obtain ⟨q40, hq41, hF⟩ := g_bind hF
            refine g_get hx hb hts hiX5 hown hK hP 5 rfl (by decide) h14 4 (by decide) (hts (.fieldLink RX5 24 "CourierBees$Town" "ways" "[[I") (by decide +kernel)) (fun _ h9 => h9) ((gFv_r (by decide)).trans (congrArg va_rf hq41)) dX5_join_74 ?_
            refine lv_iload_n hx hb dX5_join_77 rfl (lv_at hl 2 rfl) ?_
            obtain ⟨h42, hF⟩ := g_if hF
            obtain ⟨h43, hF⟩ := g_if hF
            obtain ⟨q44, hq45, hF⟩ := g_bind hF
            refine g_aald hx hb hP (g_pr h42) (by decide) h43 hq45 dX5_join_78 ?_
            refine lv_iload hx hb dX5_join_79 (lv_at hl 6 rfl) ?_
            obtain ⟨h46, hF⟩ := g_if hF
            obtain ⟨h47, hF⟩ := g_if hF
            refine g_iald hx hb hP (g_pr h46) h47 dX5_join_81 ?_
            refine lv_iadd hx hb dX5_join_82 ?_
            refine lv_istore (lv' := [(7, .int (((gI g q36 (Int32.toNatClampNeg x2)) + x3) + (gI g q44 (Int32.toNatClampNeg x5)))), (6, .int (((gI g q20 (Int32.toNatClampNeg x1)) + x3) + (gI g q28 (Int32.toNatClampNeg x5)))), (0, .ref a0), (1, .int x1), (2, .int x2), (3, .int x3), (4, .int x4), (5, .int x5)]) hx hb dX5_join_83 hl (by decide) rfl (fun ls hl => ?_)
            refine lv_aload_n hx hb dX5_join_85 rfl (lv_at hl 2 rfl) ?_
            obtain ⟨q48, hq49, hF⟩ := g_bind hF
            refine g_get hx hb hts hiX5 hown hK hP 5 rfl (by decide) h14 4 (by decide) (hts (.fieldLink RX5 24 "CourierBees$Town" "ways" "[[I") (by decide +kernel)) (fun _ h9 => h9) ((gFv_r (by decide)).trans (congrArg va_rf hq49)) dX5_join_86 ?_
            refine lv_iload hx hb dX5_join_89 (lv_at hl 6 rfl) ?_
            obtain ⟨h50, hF⟩ := g_if hF
            obtain ⟨h51, hF⟩ := g_if hF
            obtain ⟨q52, hq53, hF⟩ := g_bind hF
            refine g_aald hx hb hP (g_pr h50) (by decide) h51 hq53 dX5_join_91 ?_
            refine lv_iload hx hb dX5_join_92 (lv_at hl 7 rfl) ?_
            refine lv_aload_n hx hb dX5_join_94 rfl (lv_at hl 2 rfl) ?_
            obtain ⟨q54, hq55, hF⟩ := g_bind hF
            refine g_get hx hb hts hiX5 hown hK hP 5 rfl (by decide) h14 4 (by decide) (hts (.fieldLink RX5 24 "CourierBees$Town" "ways" "[[I") (by decide +kernel)) (fun _ h9 => h9) ((gFv_r (by decide)).trans (congrArg va_rf hq55)) dX5_join_95 ?_
            refine lv_iload hx hb dX5_join_98 (lv_at hl 6 rfl) ?_
            obtain ⟨h56, hF⟩ := g_if hF
            obtain ⟨h57, hF⟩ := g_if hF
            obtain ⟨q58, hq59, hF⟩ := g_bind hF
            refine g_aald hx hb hP (g_pr h56) (by decide) h57 hq59 dX5_join_100 ?_
            refine lv_iload hx hb dX5_join_101 (lv_at hl 7 rfl) ?_
            obtain ⟨h60, hF⟩ := g_if hF
            obtain ⟨h61, hF⟩ := g_if hF
            refine g_iald hx hb hP (g_pr h60) h61 dX5_join_103 ?_
            refine lv_iload hx hb dX5_join_104 (lv_at hl 1 rfl) ?_
            refine lv_iload hx hb dX5_join_106 (lv_at hl 0 rfl) ?_
            refine va_mmin hx hb (hml.trans hl.1.symm) hown (hts (.methodLink RX5 51 Lib.Math.min.name) (by decide +kernel)) (hts (.static Lib.Math.min.name) (by decide +kernel)) (hts (.initialized "java/lang/Math") (by decide +kernel)) (hts (.code Lib.Math.min.name Lib.Math.min.code 2 (some .int)) (by decide +kernel)) (Nat.le_of_ble_eq_true rfl) (Nat.le_of_ble_eq_true rfl) (Nat.le_of_ble_eq_true rfl) (Nat.le_of_ble_eq_true rfl) dX5_join_108 ?_
            refine va_mmin hx hb (hml.trans hl.1.symm) hown (hts (.methodLink RX5 51 Lib.Math.min.name) (by decide +kernel)) (hts (.static Lib.Math.min.name) (by decide +kernel)) (hts (.initialized "java/lang/Math") (by decide +kernel)) (hts (.code Lib.Math.min.name Lib.Math.min.code 2 (some .int)) (by decide +kernel)) (Nat.le_of_ble_eq_true rfl) (Nat.le_of_ble_eq_true rfl) (Nat.le_of_ble_eq_true rfl) (Nat.le_of_ble_eq_true rfl) dX5_join_111 ?_
            obtain ⟨y62, e63, hF⟩ := g_let hF
            rw [e63]
            obtain ⟨h64, hF⟩ := g_if hF
            obtain ⟨h65, hF⟩ := g_if hF
            refine g_iast hx hb hP hS (g_pr h64) h65 dX5_join_114 (fun H locs hP hS => ?_)
            refine lv_iinc (v := x5 + (1 : Int32)) (lv' := [(5, .int (x5 + (1 : Int32))), (7, .int (((gI g q36 (Int32.toNatClampNeg x2)) + x3) + (gI g q44 (Int32.toNatClampNeg x5)))), (6, .int (((gI g q20 (Int32.toNatClampNeg x1)) + x3) + (gI g q28 (Int32.toNatClampNeg x5)))), (0, .ref a0), (1, .int x1), (2, .int x2), (3, .int x3), (4, .int x4)]) hx hb dX5_join_115 hl (k := 7) rfl rfl (by decide) rfl (fun ls hl => ?_)
            refine lv_goto (tgt := 30) hx hb dX5_join_118 (by decide) ?_
            exact ih30 _ _ _ _ _ _ _ _ _ _ hF hP hS (lv_sub hl [3, 4, 5, 6, 7, 0] rfl)
      intro g a0 x1 x2 x3 x4 H locs ls hF hP hS hl
      have hF : f5_join_18b (f5_join_18 n18) g a0 x1 x2 x3 x4 = some (rr, gz) := hF
      unfold f5_join_18b at hF
      refine lv_iload hx hb dX5_join_18 (lv_at hl 4 rfl) ?_
      refine lv_aload_n hx hb dX5_join_20 rfl (lv_at hl 0 rfl) ?_
      obtain ⟨h12, hF⟩ := g_if hF
      refine g_get hx hb hts hiX5 hown hK hP 5 rfl (by decide) h12 0 (by decide) (hts (.fieldLink RX5 27 "CourierBees$Town" "houseCount" "I") (by decide +kernel)) (fun _ h9 => h9) (gFv_i (Or.inl rfl)) dX5_join_21 ?_
      refine lv_icmp_ge (tgt := 127) hx hb dX5_join_24 (by decide) (fun c13 => ?_) (fun c13 => ?_)
      · have hF := g_t c13 hF
        refine lv_aload_n hx hb dX5_join_127 rfl (lv_at hl 0 rfl) ?_
        refine lv_dup hx hb dX5_join_128 rfl ?_
        refine g_get hx hb hts hiX5 hown hK hP 5 rfl (by decide) h12 1 (by decide) (hts (.fieldLink RX5 31 "CourierBees$Town" "laneCount" "I") (by decide +kernel)) (fun _ h9 => h9) (gFv_i (Or.inl rfl)) dX5_join_129 ?_
        refine lv_dup_x1 hx hb dX5_join_132 rfl rfl ?_
        refine lv_iconst (v := 1) hx hb dX5_join_133 (by decide) ?_
        refine lv_iadd hx hb dX5_join_134 ?_
        refine g_puti hx hb hts hiX5 tyX5 tyX5_ok nmX5 hown hK hP hS 5 rfl (by decide) h12 1 (by decide) (hts (.fieldLink RX5 31 "CourierBees$Town" "laneCount" "I") (by decide +kernel)) (fun _ h9 => h9) (Or.inl rfl) (Or.inl rfl) rfl rfl dX5_join_135 (fun H locs hP hS => ?_)
        exact g_retI hx hb hr hlocks hF hP hS (Nat.le_of_ble_eq_true rfl) (Nat.le_of_ble_eq_true rfl) dX5_join_138
      · have hF := g_f c13 hF
        refine lv_iconst (v := 0) hx hb dX5_join_27 (by decide) ?_
        refine lv_istore (lv' := [(5, .int ((0 : Int32))), (0, .ref a0), (1, .int x1), (2, .int x2), (3, .int x3), (4, .int x4)]) hx hb dX5_join_28 hl (by decide) rfl (fun ls hl => ?_)
        exact HL30 300 _ _ _ _ _ _ _ _ _ _ hF hP hS (lv_sub hl [1, 2, 3, 4, 5, 0] rfl)
  unfold f5_join at hF
  refine lv_aload_n hx hb dX5_join_0 rfl (lv_at hl 0 rfl) ?_
  obtain ⟨h1, hF⟩ := g_if hF
  obtain ⟨q2, hq3, hF⟩ := g_bind hF
  refine g_get hx hb hts hiX5 hown hK hP 5 rfl (by decide) h1 3 (by decide) (hts (.fieldLink RX5 17 "CourierBees$Town" "lanes" "[LCourierBees$Lane;") (by decide +kernel)) (fun _ h9 => h9) ((gFv_r (by decide)).trans (congrArg va_rf hq3)) dX5_join_1 ?_
  refine lv_aload_n hx hb dX5_join_4 rfl (lv_at hl 0 rfl) ?_
  refine g_get hx hb hts hiX5 hown hK hP 5 rfl (by decide) h1 1 (by decide) (hts (.fieldLink RX5 31 "CourierBees$Town" "laneCount" "I") (by decide +kernel)) (fun _ h9 => h9) (gFv_i (Or.inl rfl)) dX5_join_5 ?_
  obtain ⟨h4, hF⟩ := g_if hF
  obtain ⟨h5, hF⟩ := g_if hF
  obtain ⟨q6, hq7, hF⟩ := g_bind hF
  refine g_aald hx hb hP (g_pr h4) (by decide) h5 hq7 dX5_join_8 ?_
  refine lv_iload_n hx hb dX5_join_9 rfl (lv_at hl 1 rfl) ?_
  refine lv_iload_n hx hb dX5_join_10 rfl (lv_at hl 2 rfl) ?_
  refine lv_iload_n hx hb dX5_join_11 rfl (lv_at hl 3 rfl) ?_
  obtain ⟨h9, hF⟩ := g_if hF
  obtain ⟨g10, h8, hF⟩ := g_bind hF
  refine g_callv (va_runV (As := [.int x1, .int x2, .int x3]) (rest := []) ⟨hx, hb, hml, hown, hts⟩ (k2_build l D base g q6 x1 x2 x3 g10 h8) (cwV 3 hts gX5_join_X2_build rfl rfl rfl (by decide +kernel) ⟨Nat.le_of_ble_eq_true rfl, Nat.le_of_ble_eq_true rfl⟩) (gC.preV hE hP hS 2 rfl (by decide) h9 [.int x1, .int x2, .int x3]) rfl rfl hl.1 rfl (lv_room (Nat.le_of_ble_eq_true rfl)) dX5_join_12 ⟨(Nat.le_of_ble_eq_true rfl), (Nat.le_of_ble_eq_true rfl)⟩) hS (fun H locs hP hS => ?_)
  refine lv_iconst (v := 0) hx hb dX5_join_15 (by decide) ?_
  refine lv_istore (lv' := [(4, .int ((0 : Int32))), (0, .ref a0), (1, .int x1), (2, .int x2), (3, .int x3)]) hx hb dX5_join_16 hl (by decide) rfl (fun ls hl => ?_)
  exact HL18 300 _ _ _ _ _ _ _ _ _ hF hP hS (lv_sub hl [1, 2, 3, 4, 0] rfl)
set_option maxHeartbeats 4000000 in
set_option maxRecDepth 100000 in
theorem k5_openGates (l : Launch) (D : va_G) (base : Nat) (g : g_H) (a0 : Nat) (x1 : Int32) (rr : Int32) (gz : g_H) (hF : f5_openGates g a0 x1 = some (rr, gz)) : Met l yX5_openGates wsX5_openGates ({ frames := 1, cells := 0, slots := 0, locals := 22 } : Room) (va_Pc [.ref a0, .int x1] (gC base D g)) (gQi base D rr gz) 0 0 (gA base) := by
  refine g_met (cc := cX5_openGates) (maxL := 4) (ret := (some .int)) (lst := [(0, .ref a0), (1, .int x1)]) (by decide) rfl (Nat.le_of_ble_eq_true rfl) rfl ?_
  intro p e s m args below meth c ls hx hb hr hml hown hlocks hname hts hE hP hl
  have hown : s.vm.findClass RX5 = some m.cls := hown
  have hK := hE.1
  have hov := hE.2.2.2.2.2.2.2.1
  have hbz := hE.2.2.2.2.2.2.2.2.2.2.2.2
  have hS : va_S (gA base) s.heap s.heap [] := va_S.rf
  have hiX5 : ∀ w ∈ wsX50, w ∈ wsX5_openGates := by decide +kernel
  have HL4 : ∀ (n4 : Nat), ∀ (g : g_H) (a0 : Nat) (x1 : Int32) (x2 : Int32) (x3 : Int32) (H : Heap) (locs : List Loc) (ls : Array Slot), f5_openGates_4 n4 g a0 x1 x2 x3 = some (rr, gz) → gP base D s g H → va_S (gA base) s.heap H locs → lv_has ls 4 [(0, .ref a0), (1, .int x1), (2, .int x2), (3, .int x3)] → W p l e ({ frames := 1, cells := 0, slots := 0, locals := 22 } : Room) s m args below meth c H locs 0 0 (MQ below (gQi base D rr gz) args s 0 0 (gA base)) (F0 m 4 ls []) := by
    intro n4
    induction n4 with
    | zero => intro g a0 x1 x2 x3 H locs ls hF hP hS hl; exact g_no hF
    | succ n4 ih4 =>
      have HB28 : ∀ (g : g_H) (a0 : Nat) (x1 : Int32) (x2 : Int32) (x3 : Int32) (H : Heap) (locs : List Loc) (ls : Array Slot), f5_openGates_28 (f5_openGates_4 n4) g a0 x1 x2 x3 = some (rr, gz) → gP base D s g H → va_S (gA base) s.heap H locs → lv_has ls 4 [(0, .ref a0), (1, .int x1), (2, .int x2), (3, .int x3)] → W p l e ({ frames := 1, cells := 0, slots := 0, locals := 22 } : Room) s m args below meth c H locs 0 0 (MQ below (gQi base D rr gz) args s 0 0 (gA base)) (F0 m 28 ls []) := by
        intro g a0 x1 x2 x3 H locs ls hF hP hS hl
        unfold f5_openGates_28 at hF
        refine lv_iinc (v := x3 + (1 : Int32)) (lv' := [(3, .int (x3 + (1 : Int32))), (0, .ref a0), (1, .int x1), (2, .int x2)]) hx hb dX5_openGates_28 hl (k := 3) rfl rfl (by decide) rfl (fun ls hl => ?_)
        refine lv_goto (tgt := 4) hx hb dX5_openGates_31 (by decide) ?_
        exact ih4 _ _ _ _ _ _ _ _ hF hP hS (lv_sub hl [1, 2, 3, 0] rfl)
      intro g a0 x1 x2 x3 H locs ls hF hP hS hl
      have hF : f5_openGates_4b (f5_openGates_4 n4) g a0 x1 x2 x3 = some (rr, gz) := hF
      unfold f5_openGates_4b at hF
      refine lv_iload_n hx hb dX5_openGates_4 rfl (lv_at hl 3 rfl) ?_
      refine lv_aload_n hx hb dX5_openGates_5 rfl (lv_at hl 0 rfl) ?_
      obtain ⟨h1, hF⟩ := g_if hF
      refine g_get hx hb hts hiX5 hown hK hP 5 rfl (by decide) h1 1 (by decide) (hts (.fieldLink RX5 31 "CourierBees$Town" "laneCount" "I") (by decide +kernel)) (fun _ h9 => h9) (gFv_i (Or.inl rfl)) dX5_openGates_6 ?_
      refine lv_icmp_ge (tgt := 34) hx hb dX5_openGates_9 (by decide) (fun c2 => ?_) (fun c2 => ?_)
      · have hF := g_t c2 hF
        refine lv_iload_n hx hb dX5_openGates_34 rfl (lv_at hl 2 rfl) ?_
        exact g_retI hx hb hr hlocks hF hP hS (Nat.le_of_ble_eq_true rfl) (Nat.le_of_ble_eq_true rfl) dX5_openGates_35
      · have hF := g_f c2 hF
        refine lv_aload_n hx hb dX5_openGates_12 rfl (lv_at hl 0 rfl) ?_
        obtain ⟨q3, hq4, hF⟩ := g_bind hF
        refine g_get hx hb hts hiX5 hown hK hP 5 rfl (by decide) h1 3 (by decide) (hts (.fieldLink RX5 17 "CourierBees$Town" "lanes" "[LCourierBees$Lane;") (by decide +kernel)) (fun _ h9 => h9) ((gFv_r (by decide)).trans (congrArg va_rf hq4)) dX5_openGates_13 ?_
        refine lv_iload_n hx hb dX5_openGates_16 rfl (lv_at hl 3 rfl) ?_
        obtain ⟨h5, hF⟩ := g_if hF
        obtain ⟨h6, hF⟩ := g_if hF
        obtain ⟨q7, hq8, hF⟩ := g_bind hF
        refine g_aald hx hb hP (g_pr h5) (by decide) h6 hq8 dX5_openGates_17 ?_
        refine lv_iload_n hx hb dX5_openGates_18 rfl (lv_at hl 1 rfl) ?_
        obtain ⟨h10, hF⟩ := g_if hF
        obtain ⟨v12, g11, h9, hF⟩ := g_bind2 hF
        refine g_calli (va_runV (As := [.int x1]) (rest := []) ⟨hx, hb, hml, hown, hts⟩ (k2_isOpen l D base g q7 x1 v12 g11 h9) (cwV 1 hts gX5_openGates_X2_isOpen rfl rfl rfl (by decide +kernel) ⟨Nat.le_of_ble_eq_true rfl, Nat.le_of_ble_eq_true rfl⟩) (gC.preV hE hP hS 2 rfl (by decide) h10 [.int x1]) rfl rfl hl.1 rfl (lv_room (Nat.le_of_ble_eq_true rfl)) dX5_openGates_19 ⟨(Nat.le_of_ble_eq_true rfl), (Nat.le_of_ble_eq_true rfl)⟩) hS (fun H locs hP hS => ?_)
        refine lv_if_eq (tgt := 28) hx hb dX5_openGates_22 (by decide) (fun c13 => ?_) (fun c13 => ?_)
        · have hF := g_t c13 hF
          exact HB28 _ _ _ _ _ _ _ _ hF hP hS (lv_sub hl [0, 1, 2, 3] rfl)
        · have hF := g_f c13 hF
          refine lv_iinc (v := x2 + (1 : Int32)) (lv' := [(2, .int (x2 + (1 : Int32))), (0, .ref a0), (1, .int x1), (3, .int x3)]) hx hb dX5_openGates_25 hl (k := 2) rfl rfl (by decide) rfl (fun ls hl => ?_)
          exact HB28 _ _ _ _ _ _ _ _ hF hP hS (lv_sub hl [1, 2, 0, 3] rfl)
  unfold f5_openGates at hF
  refine lv_iconst (v := 0) hx hb dX5_openGates_0 (by decide) ?_
  refine lv_istore_n (lv' := [(2, .int ((0 : Int32))), (0, .ref a0), (1, .int x1)]) hx hb dX5_openGates_1 rfl hl (by decide) rfl (fun ls hl => ?_)
  refine lv_iconst (v := 0) hx hb dX5_openGates_2 (by decide) ?_
  refine lv_istore_n (lv' := [(3, .int ((0 : Int32))), (2, .int ((0 : Int32))), (0, .ref a0), (1, .int x1)]) hx hb dX5_openGates_3 rfl hl (by decide) rfl (fun ls hl => ?_)
  exact HL4 300 _ _ _ _ _ _ _ _ hF hP hS (lv_sub hl [2, 3, 1, 0] rfl)
set_option maxHeartbeats 4000000 in
set_option maxRecDepth 100000 in
theorem k5_digestFrom (l : Launch) (D : va_G) (base : Nat) (g : g_H) (a0 : Nat) (j1 : Int64) (rr : Int64) (gz : g_H) (hF : f5_digestFrom g a0 j1 = some (rr, gz)) : Met l yX5_digestFrom wsX5_digestFrom ({ frames := 0, cells := 0, slots := 0, locals := 0 } : Room) (va_Pc [.ref a0, .long j1] (gC base D g)) (gQl base D rr gz) 0 0 (gA base) := by
  refine g_met (cc := cX5_digestFrom) (maxL := 6) (ret := (some .long)) (lst := [(0, .ref a0), (1, .long j1)]) (by decide) rfl (Nat.le_of_ble_eq_true rfl) rfl ?_
  intro p e s m args below meth c ls hx hb hr hml hown hlocks hname hts hE hP hl
  have hown : s.vm.findClass RX5 = some m.cls := hown
  have hK := hE.1
  have hov := hE.2.2.2.2.2.2.2.1
  have hbz := hE.2.2.2.2.2.2.2.2.2.2.2.2
  have hS : va_S (gA base) s.heap s.heap [] := va_S.rf
  have hiX2 : ∀ w ∈ wsX20, w ∈ wsX5_digestFrom := by decide +kernel
  have hiX5 : ∀ w ∈ wsX50, w ∈ wsX5_digestFrom := by decide +kernel
  have HL46 : ∀ (n46 : Nat), ∀ (g : g_H) (a0 : Nat) (j3 : Int64) (x5 : Int32) (H : Heap) (locs : List Loc) (ls : Array Slot), f5_digestFrom_46 n46 g a0 j3 x5 = some (rr, gz) → gP base D s g H → va_S (gA base) s.heap H locs → lv_has ls 6 [(0, .ref a0), (3, .long j3), (5, .int x5)] → W p l e ({ frames := 0, cells := 0, slots := 0, locals := 0 } : Room) s m args below meth c H locs 0 0 (MQ below (gQl base D rr gz) args s 0 0 (gA base)) (F0 m 46 ls []) := by
    intro n46
    induction n46 with
    | zero => intro g a0 j3 x5 H locs ls hF hP hS hl; exact g_no hF
    | succ n46 ih46 =>
      intro g a0 j3 x5 H locs ls hF hP hS hl
      have hF : f5_digestFrom_46b (f5_digestFrom_46 n46) g a0 j3 x5 = some (rr, gz) := hF
      unfold f5_digestFrom_46b at hF
      refine lv_iload hx hb dX5_digestFrom_46 (lv_at hl 2 rfl) ?_
      refine lv_aload_n hx hb dX5_digestFrom_48 rfl (lv_at hl 0 rfl) ?_
      obtain ⟨h3, hF⟩ := g_if hF
      refine g_get hx hb hts hiX5 hown hK hP 5 rfl (by decide) h3 1 (by decide) (hts (.fieldLink RX5 31 "CourierBees$Town" "laneCount" "I") (by decide +kernel)) (fun _ h9 => h9) (gFv_i (Or.inl rfl)) dX5_digestFrom_49 ?_
      refine lv_icmp_ge (tgt := 151) hx hb dX5_digestFrom_52 (by decide) (fun c4 => ?_) (fun c4 => ?_)
      · have hF := g_t c4 hF
        refine lv_lload_n hx hb dX5_digestFrom_151 rfl (lv_at hl 1 rfl) ?_
        exact g_retJ hx hb hr hlocks hF hP hS (Nat.le_of_ble_eq_true rfl) (Nat.le_of_ble_eq_true rfl) dX5_digestFrom_152
      · have hF := g_f c4 hF
        refine lv_lload_n hx hb dX5_digestFrom_55 rfl (lv_at hl 1 rfl) ?_
        refine lv_ldc2 (v := 31) hx hb hown (hts (.constantLong RX5 65 (31)) (by decide +kernel)) dX5_digestFrom_56 ?_
        refine lv_lmul hx hb dX5_digestFrom_59 ?_
        refine lv_aload_n hx hb dX5_digestFrom_60 rfl (lv_at hl 0 rfl) ?_
        obtain ⟨q5, hq6, hF⟩ := g_bind hF
        refine g_get hx hb hts hiX5 hown hK hP 5 rfl (by decide) h3 3 (by decide) (hts (.fieldLink RX5 17 "CourierBees$Town" "lanes" "[LCourierBees$Lane;") (by decide +kernel)) (fun _ h9 => h9) ((gFv_r (by decide)).trans (congrArg va_rf hq6)) dX5_digestFrom_61 ?_
        refine lv_iload hx hb dX5_digestFrom_64 (lv_at hl 2 rfl) ?_
        obtain ⟨h7, hF⟩ := g_if hF
        obtain ⟨h8, hF⟩ := g_if hF
        obtain ⟨q9, hq10, hF⟩ := g_bind hF
        refine g_aald hx hb hP (g_pr h7) (by decide) h8 hq10 dX5_digestFrom_66 ?_
        obtain ⟨h11, hF⟩ := g_if hF
        refine g_get hx hb hts hiX2 hown hK hP 2 rfl (by decide) h11 0 (by decide) (hts (.fieldLink RX5 67 "CourierBees$Lane" "a" "I") (by decide +kernel)) (fun _ h9 => h9) (gFv_i (Or.inl rfl)) dX5_digestFrom_67 ?_
        refine lv_i2l hx hb dX5_digestFrom_70 rfl ?_
        refine lv_ladd hx hb dX5_digestFrom_71 ?_
        refine lv_lstore_n (lv' := [(3, .long ((j3 * ((31 : Int64))) + (Int32.toInt64 (gI g q9 0)))), (0, .ref a0), (5, .int x5)]) hx hb dX5_digestFrom_72 rfl hl (by decide) rfl (fun ls hl => ?_)
        refine lv_lload_n hx hb dX5_digestFrom_73 rfl (lv_at hl 0 rfl) ?_
        refine lv_ldc2 (v := 31) hx hb hown (hts (.constantLong RX5 65 (31)) (by decide +kernel)) dX5_digestFrom_74 ?_
        refine lv_lmul hx hb dX5_digestFrom_77 ?_
        refine lv_aload_n hx hb dX5_digestFrom_78 rfl (lv_at hl 1 rfl) ?_
        obtain ⟨q12, hq13, hF⟩ := g_bind hF
        refine g_get hx hb hts hiX5 hown hK hP 5 rfl (by decide) h3 3 (by decide) (hts (.fieldLink RX5 17 "CourierBees$Town" "lanes" "[LCourierBees$Lane;") (by decide +kernel)) (fun _ h9 => h9) ((gFv_r (by decide)).trans (congrArg va_rf hq13)) dX5_digestFrom_79 ?_
        refine lv_iload hx hb dX5_digestFrom_82 (lv_at hl 2 rfl) ?_
        obtain ⟨h14, hF⟩ := g_if hF
        obtain ⟨h15, hF⟩ := g_if hF
        obtain ⟨q16, hq17, hF⟩ := g_bind hF
        refine g_aald hx hb hP (g_pr h14) (by decide) h15 hq17 dX5_digestFrom_84 ?_
        obtain ⟨h18, hF⟩ := g_if hF
        refine g_get hx hb hts hiX2 hown hK hP 2 rfl (by decide) h18 1 (by decide) (hts (.fieldLink RX5 70 "CourierBees$Lane" "b" "I") (by decide +kernel)) (fun _ h9 => h9) (gFv_i (Or.inl rfl)) dX5_digestFrom_85 ?_
        refine lv_i2l hx hb dX5_digestFrom_88 rfl ?_
        refine lv_ladd hx hb dX5_digestFrom_89 ?_
        refine lv_lstore_n (lv' := [(3, .long ((((j3 * ((31 : Int64))) + (Int32.toInt64 (gI g q9 0))) * ((31 : Int64))) + (Int32.toInt64 (gI g q16 1)))), (0, .ref a0), (5, .int x5)]) hx hb dX5_digestFrom_90 rfl hl (by decide) rfl (fun ls hl => ?_)
        refine lv_lload_n hx hb dX5_digestFrom_91 rfl (lv_at hl 0 rfl) ?_
        refine lv_ldc2 (v := 31) hx hb hown (hts (.constantLong RX5 65 (31)) (by decide +kernel)) dX5_digestFrom_92 ?_
        refine lv_lmul hx hb dX5_digestFrom_95 ?_
        refine lv_aload_n hx hb dX5_digestFrom_96 rfl (lv_at hl 1 rfl) ?_
        obtain ⟨q19, hq20, hF⟩ := g_bind hF
        refine g_get hx hb hts hiX5 hown hK hP 5 rfl (by decide) h3 3 (by decide) (hts (.fieldLink RX5 17 "CourierBees$Town" "lanes" "[LCourierBees$Lane;") (by decide +kernel)) (fun _ h9 => h9) ((gFv_r (by decide)).trans (congrArg va_rf hq20)) dX5_digestFrom_97 ?_
        refine lv_iload hx hb dX5_digestFrom_100 (lv_at hl 2 rfl) ?_
        obtain ⟨h21, hF⟩ := g_if hF
        obtain ⟨h22, hF⟩ := g_if hF
        obtain ⟨q23, hq24, hF⟩ := g_bind hF
        refine g_aald hx hb hP (g_pr h21) (by decide) h22 hq24 dX5_digestFrom_102 ?_
        obtain ⟨h25, hF⟩ := g_if hF
        refine g_get hx hb hts hiX2 hown hK hP 2 rfl (by decide) h25 2 (by decide) (hts (.fieldLink RX5 44 "CourierBees$Lane" "length" "I") (by decide +kernel)) (fun _ h9 => h9) (gFv_i (Or.inl rfl)) dX5_digestFrom_103 ?_
        refine lv_i2l hx hb dX5_digestFrom_106 rfl ?_
        refine lv_ladd hx hb dX5_digestFrom_107 ?_
        refine lv_lstore_n (lv' := [(3, .long ((((((j3 * ((31 : Int64))) + (Int32.toInt64 (gI g q9 0))) * ((31 : Int64))) + (Int32.toInt64 (gI g q16 1))) * ((31 : Int64))) + (Int32.toInt64 (gI g q23 2)))), (0, .ref a0), (5, .int x5)]) hx hb dX5_digestFrom_108 rfl hl (by decide) rfl (fun ls hl => ?_)
        refine lv_lload_n hx hb dX5_digestFrom_109 rfl (lv_at hl 0 rfl) ?_
        refine lv_ldc2 (v := 31) hx hb hown (hts (.constantLong RX5 65 (31)) (by decide +kernel)) dX5_digestFrom_110 ?_
        refine lv_lmul hx hb dX5_digestFrom_113 ?_
        refine lv_aload_n hx hb dX5_digestFrom_114 rfl (lv_at hl 1 rfl) ?_
        obtain ⟨q26, hq27, hF⟩ := g_bind hF
        refine g_get hx hb hts hiX5 hown hK hP 5 rfl (by decide) h3 3 (by decide) (hts (.fieldLink RX5 17 "CourierBees$Town" "lanes" "[LCourierBees$Lane;") (by decide +kernel)) (fun _ h9 => h9) ((gFv_r (by decide)).trans (congrArg va_rf hq27)) dX5_digestFrom_115 ?_
        refine lv_iload hx hb dX5_digestFrom_118 (lv_at hl 2 rfl) ?_
        obtain ⟨h28, hF⟩ := g_if hF
        obtain ⟨h29, hF⟩ := g_if hF
        obtain ⟨q30, hq31, hF⟩ := g_bind hF
        refine g_aald hx hb hP (g_pr h28) (by decide) h29 hq31 dX5_digestFrom_120 ?_
        obtain ⟨h32, hF⟩ := g_if hF
        refine g_get hx hb hts hiX2 hown hK hP 2 rfl (by decide) h32 3 (by decide) (hts (.fieldLink RX5 73 "CourierBees$Lane" "from" "I") (by decide +kernel)) (fun _ h9 => h9) (gFv_i (Or.inl rfl)) dX5_digestFrom_121 ?_
        refine lv_i2l hx hb dX5_digestFrom_124 rfl ?_
        refine lv_ladd hx hb dX5_digestFrom_125 ?_
        refine lv_lstore_n (lv' := [(3, .long ((((((((j3 * ((31 : Int64))) + (Int32.toInt64 (gI g q9 0))) * ((31 : Int64))) + (Int32.toInt64 (gI g q16 1))) * ((31 : Int64))) + (Int32.toInt64 (gI g q23 2))) * ((31 : Int64))) + (Int32.toInt64 (gI g q30 3)))), (0, .ref a0), (5, .int x5)]) hx hb dX5_digestFrom_126 rfl hl (by decide) rfl (fun ls hl => ?_)
        refine lv_lload_n hx hb dX5_digestFrom_127 rfl (lv_at hl 0 rfl) ?_
        refine lv_ldc2 (v := 31) hx hb hown (hts (.constantLong RX5 65 (31)) (by decide +kernel)) dX5_digestFrom_128 ?_
        refine lv_lmul hx hb dX5_digestFrom_131 ?_
        refine lv_aload_n hx hb dX5_digestFrom_132 rfl (lv_at hl 1 rfl) ?_
        obtain ⟨q33, hq34, hF⟩ := g_bind hF
        refine g_get hx hb hts hiX5 hown hK hP 5 rfl (by decide) h3 3 (by decide) (hts (.fieldLink RX5 17 "CourierBees$Town" "lanes" "[LCourierBees$Lane;") (by decide +kernel)) (fun _ h9 => h9) ((gFv_r (by decide)).trans (congrArg va_rf hq34)) dX5_digestFrom_133 ?_
        refine lv_iload hx hb dX5_digestFrom_136 (lv_at hl 2 rfl) ?_
        obtain ⟨h35, hF⟩ := g_if hF
        obtain ⟨h36, hF⟩ := g_if hF
        obtain ⟨q37, hq38, hF⟩ := g_bind hF
        refine g_aald hx hb hP (g_pr h35) (by decide) h36 hq38 dX5_digestFrom_138 ?_
        obtain ⟨h39, hF⟩ := g_if hF
        refine g_get hx hb hts hiX2 hown hK hP 2 rfl (by decide) h39 4 (by decide) (hts (.fieldLink RX5 76 "CourierBees$Lane" "till" "I") (by decide +kernel)) (fun _ h9 => h9) (gFv_i (Or.inl rfl)) dX5_digestFrom_139 ?_
        refine lv_i2l hx hb dX5_digestFrom_142 rfl ?_
        refine lv_ladd hx hb dX5_digestFrom_143 ?_
        refine lv_lstore_n (lv' := [(3, .long ((((((((((j3 * ((31 : Int64))) + (Int32.toInt64 (gI g q9 0))) * ((31 : Int64))) + (Int32.toInt64 (gI g q16 1))) * ((31 : Int64))) + (Int32.toInt64 (gI g q23 2))) * ((31 : Int64))) + (Int32.toInt64 (gI g q30 3))) * ((31 : Int64))) + (Int32.toInt64 (gI g q37 4)))), (0, .ref a0), (5, .int x5)]) hx hb dX5_digestFrom_144 rfl hl (by decide) rfl (fun ls hl => ?_)
        refine lv_iinc (v := x5 + (1 : Int32)) (lv' := [(5, .int (x5 + (1 : Int32))), (3, .long ((((((((((j3 * ((31 : Int64))) + (Int32.toInt64 (gI g q9 0))) * ((31 : Int64))) + (Int32.toInt64 (gI g q16 1))) * ((31 : Int64))) + (Int32.toInt64 (gI g q23 2))) * ((31 : Int64))) + (Int32.toInt64 (gI g q30 3))) * ((31 : Int64))) + (Int32.toInt64 (gI g q37 4)))), (0, .ref a0)]) hx hb dX5_digestFrom_145 hl (k := 2) rfl rfl (by decide) rfl (fun ls hl => ?_)
        refine lv_goto (tgt := 46) hx hb dX5_digestFrom_148 (by decide) ?_
        exact ih46 _ _ _ _ _ _ _ hF hP hS (lv_sub hl [2, 1, 0] rfl)
  have HL5 : ∀ (n5 : Nat), ∀ (g : g_H) (a0 : Nat) (j3 : Int64) (x5 : Int32) (H : Heap) (locs : List Loc) (ls : Array Slot), f5_digestFrom_5 n5 g a0 j3 x5 = some (rr, gz) → gP base D s g H → va_S (gA base) s.heap H locs → lv_has ls 6 [(0, .ref a0), (3, .long j3), (5, .int x5)] → W p l e ({ frames := 0, cells := 0, slots := 0, locals := 0 } : Room) s m args below meth c H locs 0 0 (MQ below (gQl base D rr gz) args s 0 0 (gA base)) (F0 m 5 ls []) := by
    intro n5
    induction n5 with
    | zero => intro g a0 j3 x5 H locs ls hF hP hS hl; exact g_no hF
    | succ n5 ih5 =>
      have HB34 : ∀ (g : g_H) (a0 : Nat) (x5 : Int32) (s0 : Int64) (s1 : Int32) (H : Heap) (locs : List Loc) (ls : Array Slot), f5_digestFrom_34 (f5_digestFrom_5 n5) g a0 x5 s0 s1 = some (rr, gz) → gP base D s g H → va_S (gA base) s.heap H locs → lv_has ls 6 [(0, .ref a0), (5, .int x5)] → W p l e ({ frames := 0, cells := 0, slots := 0, locals := 0 } : Room) s m args below meth c H locs 0 0 (MQ below (gQl base D rr gz) args s 0 0 (gA base)) (F0 m 34 ls [.int s1, .long s0]) := by
        intro g a0 x5 s0 s1 H locs ls hF hP hS hl
        unfold f5_digestFrom_34 at hF
        refine lv_i2l hx hb dX5_digestFrom_34 rfl ?_
        refine lv_ladd hx hb dX5_digestFrom_35 ?_
        refine lv_lstore_n (lv' := [(3, .long (s0 + (Int32.toInt64 s1))), (0, .ref a0), (5, .int x5)]) hx hb dX5_digestFrom_36 rfl hl (by decide) rfl (fun ls hl => ?_)
        refine lv_iinc (v := x5 + (1 : Int32)) (lv' := [(5, .int (x5 + (1 : Int32))), (3, .long (s0 + (Int32.toInt64 s1))), (0, .ref a0)]) hx hb dX5_digestFrom_37 hl (k := 2) rfl rfl (by decide) rfl (fun ls hl => ?_)
        refine lv_goto (tgt := 5) hx hb dX5_digestFrom_40 (by decide) ?_
        exact ih5 _ _ _ _ _ _ _ hF hP hS (lv_sub hl [2, 1, 0] rfl)
      intro g a0 j3 x5 H locs ls hF hP hS hl
      have hF : f5_digestFrom_5b (f5_digestFrom_5 n5) g a0 j3 x5 = some (rr, gz) := hF
      unfold f5_digestFrom_5b at hF
      refine lv_iload hx hb dX5_digestFrom_5 (lv_at hl 2 rfl) ?_
      refine lv_aload_n hx hb dX5_digestFrom_7 rfl (lv_at hl 0 rfl) ?_
      obtain ⟨h1, hF⟩ := g_if hF
      refine g_get hx hb hts hiX5 hown hK hP 5 rfl (by decide) h1 0 (by decide) (hts (.fieldLink RX5 27 "CourierBees$Town" "houseCount" "I") (by decide +kernel)) (fun _ h9 => h9) (gFv_i (Or.inl rfl)) dX5_digestFrom_8 ?_
      refine lv_icmp_ge (tgt := 43) hx hb dX5_digestFrom_11 (by decide) (fun c2 => ?_) (fun c2 => ?_)
      · have hF := g_t c2 hF
        refine lv_iconst (v := 0) hx hb dX5_digestFrom_43 (by decide) ?_
        refine lv_istore (lv' := [(5, .int ((0 : Int32))), (0, .ref a0), (3, .long j3)]) hx hb dX5_digestFrom_44 hl (by decide) rfl (fun ls hl => ?_)
        exact HL46 300 _ _ _ _ _ _ _ hF hP hS (lv_sub hl [1, 2, 0] rfl)
      · have hF := g_f c2 hF
        refine lv_lload_n hx hb dX5_digestFrom_14 rfl (lv_at hl 1 rfl) ?_
        refine lv_ldc2 (v := 31) hx hb hown (hts (.constantLong RX5 65 (31)) (by decide +kernel)) dX5_digestFrom_15 ?_
        refine lv_lmul hx hb dX5_digestFrom_18 ?_
        refine lv_aload_n hx hb dX5_digestFrom_19 rfl (lv_at hl 0 rfl) ?_
        obtain ⟨q40, hq41, hF⟩ := g_bind hF
        refine g_get hx hb hts hiX5 hown hK hP 5 rfl (by decide) h1 2 (by decide) (hts (.fieldLink RX5 9 "CourierBees$Town" "hives" "[Z") (by decide +kernel)) (fun _ h9 => h9) ((gFv_r (by decide)).trans (congrArg va_rf hq41)) dX5_digestFrom_20 ?_
        refine lv_iload hx hb dX5_digestFrom_23 (lv_at hl 2 rfl) ?_
        obtain ⟨h42, hF⟩ := g_if hF
        obtain ⟨h43, hF⟩ := g_if hF
        refine g_zald hx hb hP (g_pr h42) h43 dX5_digestFrom_25 ?_
        refine lv_if_eq (tgt := 33) hx hb dX5_digestFrom_26 (by decide) (fun c44 => ?_) (fun c44 => ?_)
        · have hF := g_t c44 hF
          refine lv_iconst (v := 0) hx hb dX5_digestFrom_33 (by decide) ?_
          exact HB34 _ _ _ _ _ _ _ _ hF hP hS (lv_sub hl [0, 2] rfl)
        · have hF := g_f c44 hF
          refine lv_iconst (v := 1) hx hb dX5_digestFrom_29 (by decide) ?_
          refine lv_goto (tgt := 34) hx hb dX5_digestFrom_30 (by decide) ?_
          exact HB34 _ _ _ _ _ _ _ _ hF hP hS (lv_sub hl [0, 2] rfl)
  unfold f5_digestFrom at hF
  refine lv_lload_n hx hb dX5_digestFrom_0 rfl (lv_at hl 1 rfl) ?_
  refine lv_lstore_n (lv' := [(3, .long j1), (0, .ref a0), (1, .long j1)]) hx hb dX5_digestFrom_1 rfl hl (by decide) rfl (fun ls hl => ?_)
  refine lv_iconst (v := 0) hx hb dX5_digestFrom_2 (by decide) ?_
  refine lv_istore (lv' := [(5, .int ((0 : Int32))), (3, .long j1), (0, .ref a0), (1, .long j1)]) hx hb dX5_digestFrom_3 hl (by decide) rfl (fun ls hl => ?_)
  exact HL5 300 _ _ _ _ _ _ _ hF hP hS (lv_sub hl [2, 1, 0] rfl)
