set_option maxHeartbeats 4000000 in
set_option maxRecDepth 100000 in
theorem k4_init (l : Launch) (D : va_G) (base : Nat) (g : g_H) (a0 : Nat) (gz : g_H) (hF : f4_init g a0 = some gz) : Met l yX4_init wsX4_init ({ frames := 1, cells := 3, slots := 28, locals := 22 } : Room) (va_Pc [.ref a0] (gC base D g)) (gQv base D gz) 3 28 (gA base) := by
  refine g_met (cc := cX4_init) (maxL := 1) (ret := none) (lst := [(0, .ref a0)]) (by decide) rfl (Nat.le_of_ble_eq_true rfl) rfl ?_
  intro p e s m args below meth c ls hx hb hr hml hown hlocks hname hts hE hP hl
  have hown : s.vm.findClass RX4 = some m.cls := hown
  have hK := hE.1
  have hov := hE.2.2.2.2.2.2.2.1
  have hbz := hE.2.2.2.2.2.2.2.2.2.2.2.2
  have hS : va_S (gA base) s.heap s.heap [] := va_S.rf
  have hiX4 : ∀ w ∈ wsX40, w ∈ wsX4_init := by decide +kernel
  unfold f4_init at hF
  refine lv_aload_n hx hb dX4_init_0 rfl (lv_at hl 0 rfl) ?_
  refine W.objInit hx hb hown (hts (.methodLink RX4 3 objectInit) (by decide +kernel)) (hts (.instanceMethod objectInit) (by decide +kernel)) (hts (.code objectInit ⟨#[0xb1]⟩ 1 none) (by decide +kernel)) rfl (by rw [hml]; exact hl.1) rfl dX4_init_1 (Nat.le_of_ble_eq_true rfl) (Nat.le_of_ble_eq_true rfl) ?_
  refine W.eq (g2 := F0 m 4 ls []) rfl ?_
  refine lv_aload_n hx hb dX4_init_4 rfl (lv_at hl 0 rfl) ?_
  refine lv_bipush (v := 7) hx hb dX4_init_5 (by decide) ?_
  obtain ⟨q1, g2, e3, e4, h5, hF⟩ := g_nw hF
  refine g_newa (atype := .int) hx hb (hts (.arrayClass .int) (by decide +kernel)) 11 rfl (by decide) rfl hP hS hbz (n := 7) (N' := 7) (by decide) (by decide) (Nat.le_of_ble_eq_true rfl) (Nat.le_of_ble_eq_true rfl) (Nat.le_of_ble_eq_true rfl) dX4_init_7 (fun H hP hS => ?_)
  rw [e4] at hP
  rw [e3]
  obtain ⟨h6, hF⟩ := g_if hF
  refine g_putr hx hb hts hiX4 tyX4 tyX4_ok nmX4 hown hK hP hS 4 rfl (by decide) h6 1 (by decide) (hts (.fieldLink RX4 9 "CourierBees$Route" "houses" "[I") (by decide +kernel)) (fun _ h9 => h9) (Or.inr ⟨rfl, hname, rfl⟩) (by decide) rfl rfl dX4_init_9 (fun H locs hP hS => ?_)
  refine lv_aload_n hx hb dX4_init_12 rfl (lv_at hl 0 rfl) ?_
  refine lv_bipush (v := 7) hx hb dX4_init_13 (by decide) ?_
  obtain ⟨q7, g8, e9, e10, h11, hF⟩ := g_nw hF
  refine g_newa (atype := .int) hx hb (hts (.arrayClass .int) (by decide +kernel)) 11 rfl (by decide) rfl hP hS hbz (n := 7) (N' := 7) (by decide) (by decide) (Nat.le_of_ble_eq_true rfl) (Nat.le_of_ble_eq_true rfl) (Nat.le_of_ble_eq_true rfl) dX4_init_15 (fun H hP hS => ?_)
  rw [e10] at hP
  rw [e9]
  obtain ⟨h12, hF⟩ := g_if hF
  refine g_putr hx hb hts hiX4 tyX4 tyX4_ok nmX4 hown hK hP hS 4 rfl (by decide) h12 2 (by decide) (hts (.fieldLink RX4 15 "CourierBees$Route" "lanes" "[I") (by decide +kernel)) (fun _ h9 => h9) (Or.inr ⟨rfl, hname, rfl⟩) (by decide) rfl rfl dX4_init_17 (fun H locs hP hS => ?_)
  refine lv_aload_n hx hb dX4_init_20 rfl (lv_at hl 0 rfl) ?_
  refine lv_bipush (v := 14) hx hb dX4_init_21 (by decide) ?_
  obtain ⟨q13, g14, e15, e16, h17, hF⟩ := g_nw hF
  refine g_newa (atype := .int) hx hb (hts (.arrayClass .int) (by decide +kernel)) 11 rfl (by decide) rfl hP hS hbz (n := 14) (N' := 14) (by decide) (by decide) (Nat.le_of_ble_eq_true rfl) (Nat.le_of_ble_eq_true rfl) (Nat.le_of_ble_eq_true rfl) dX4_init_23 (fun H hP hS => ?_)
  rw [e16] at hP
  rw [e15]
  obtain ⟨h18, hF⟩ := g_if hF
  refine g_putr hx hb hts hiX4 tyX4 tyX4_ok nmX4 hown hK hP hS 4 rfl (by decide) h18 3 (by decide) (hts (.fieldLink RX4 18 "CourierBees$Route" "targets" "[I") (by decide +kernel)) (fun _ h9 => h9) (Or.inr ⟨rfl, hname, rfl⟩) (by decide) rfl rfl dX4_init_25 (fun H locs hP hS => ?_)
  exact g_retV hx hb hr hlocks hF hP hS (Nat.le_of_ble_eq_true rfl) (Nat.le_of_ble_eq_true rfl) dX4_init_28
set_option maxHeartbeats 4000000 in
set_option maxRecDepth 100000 in
theorem k4_copyFrom (l : Launch) (D : va_G) (base : Nat) (g : g_H) (a0 : Nat) (a1 : Nat) (gz : g_H) (hF : f4_copyFrom g a0 a1 = some gz) : Met l yX4_copyFrom wsX4_copyFrom ({ frames := 1, cells := 0, slots := 0, locals := 30 } : Room) (va_Pc [.ref a0, .ref a1] (gC base D g)) (gQv base D gz) 0 0 (gA base) := by
  refine g_met (cc := cX4_copyFrom) (maxL := 2) (ret := none) (lst := [(0, .ref a0), (1, .ref a1)]) (by decide) rfl (Nat.le_of_ble_eq_true rfl) rfl ?_
  intro p e s m args below meth c ls hx hb hr hml hown hlocks hname hts hE hP hl
  have hown : s.vm.findClass RX4 = some m.cls := hown
  have hK := hE.1
  have hov := hE.2.2.2.2.2.2.2.1
  have hbz := hE.2.2.2.2.2.2.2.2.2.2.2.2
  have hS : va_S (gA base) s.heap s.heap [] := va_S.rf
  have hiX4 : ∀ w ∈ wsX40, w ∈ wsX4_copyFrom := by decide +kernel
  unfold f4_copyFrom at hF
  refine lv_aload_n hx hb dX4_copyFrom_0 rfl (lv_at hl 0 rfl) ?_
  refine lv_aload_n hx hb dX4_copyFrom_1 rfl (lv_at hl 1 rfl) ?_
  obtain ⟨h1, hF⟩ := g_if hF
  refine g_get hx hb hts hiX4 hown hK hP 4 rfl (by decide) h1 0 (by decide) (hts (.fieldLink RX4 21 "CourierBees$Route" "length" "I") (by decide +kernel)) (fun _ h9 => h9) (gFv_i (Or.inl rfl)) dX4_copyFrom_2 ?_
  obtain ⟨h2, hF⟩ := g_if hF
  refine g_puti hx hb hts hiX4 tyX4 tyX4_ok nmX4 hown hK hP hS 4 rfl (by decide) h2 0 (by decide) (hts (.fieldLink RX4 21 "CourierBees$Route" "length" "I") (by decide +kernel)) (fun _ h9 => h9) (Or.inl rfl) (Or.inl rfl) rfl rfl dX4_copyFrom_5 (fun H locs hP hS => ?_)
  refine lv_aload_n hx hb dX4_copyFrom_8 rfl (lv_at hl 1 rfl) ?_
  obtain ⟨q3, hq4, hF⟩ := g_bind hF
  refine g_get hx hb hts hiX4 hown hK hP 4 rfl (by decide) h1 1 (by decide) (hts (.fieldLink RX4 9 "CourierBees$Route" "houses" "[I") (by decide +kernel)) (fun _ h9 => h9) ((gFv_r (by decide)).trans (congrArg va_rf hq4)) dX4_copyFrom_9 ?_
  refine lv_iconst (v := 0) hx hb dX4_copyFrom_12 (by decide) ?_
  refine lv_aload_n hx hb dX4_copyFrom_13 rfl (lv_at hl 0 rfl) ?_
  obtain ⟨q5, hq6, hF⟩ := g_bind hF
  refine g_get hx hb hts hiX4 hown hK hP 4 rfl (by decide) h2 1 (by decide) (hts (.fieldLink RX4 9 "CourierBees$Route" "houses" "[I") (by decide +kernel)) (fun _ h9 => h9) ((gFv_r (by decide)).trans (congrArg va_rf hq6)) dX4_copyFrom_14 ?_
  refine lv_iconst (v := 0) hx hb dX4_copyFrom_17 (by decide) ?_
  refine lv_bipush (v := 7) hx hb dX4_copyFrom_18 (by decide) ?_
  obtain ⟨h7, hF⟩ := g_if hF
  obtain ⟨h8, hF⟩ := g_if hF
  obtain ⟨h9, hF⟩ := g_if hF
  refine g_copy hx hb (hml.trans hl.1.symm) hown (hts (.methodLink RX4 51 arraycopyName) (by decide +kernel)) (hts (.native arraycopyName) (by decide +kernel)) (hts (.static arraycopyName) (by decide +kernel)) (hts (.initialized "java/lang/System") (by decide +kernel)) hP hS (g_pr h7) (g_pr h8) h9.1 h9.2.1 h9.2.2.1 h9.2.2.2.1 h9.2.2.2.2 (Nat.le_of_ble_eq_true rfl) (by decide) dX4_copyFrom_20 (fun H locs hP hS => ?_)
  refine lv_aload_n hx hb dX4_copyFrom_23 rfl (lv_at hl 1 rfl) ?_
  obtain ⟨q10, hq11, hF⟩ := g_bind hF
  refine g_get hx hb hts hiX4 hown hK hP 4 rfl (by decide) h1 2 (by decide) (hts (.fieldLink RX4 15 "CourierBees$Route" "lanes" "[I") (by decide +kernel)) (fun _ h9 => h9) ((gFv_r (by decide)).trans (congrArg va_rf hq11)) dX4_copyFrom_24 ?_
  refine lv_iconst (v := 0) hx hb dX4_copyFrom_27 (by decide) ?_
  refine lv_aload_n hx hb dX4_copyFrom_28 rfl (lv_at hl 0 rfl) ?_
  obtain ⟨q12, hq13, hF⟩ := g_bind hF
  refine g_get hx hb hts hiX4 hown hK hP 4 rfl (by decide) h2 2 (by decide) (hts (.fieldLink RX4 15 "CourierBees$Route" "lanes" "[I") (by decide +kernel)) (fun _ h9 => h9) ((gFv_r (by decide)).trans (congrArg va_rf hq13)) dX4_copyFrom_29 ?_
  refine lv_iconst (v := 0) hx hb dX4_copyFrom_32 (by decide) ?_
  refine lv_bipush (v := 7) hx hb dX4_copyFrom_33 (by decide) ?_
  obtain ⟨h14, hF⟩ := g_if hF
  obtain ⟨h15, hF⟩ := g_if hF
  obtain ⟨h16, hF⟩ := g_if hF
  refine g_copy hx hb (hml.trans hl.1.symm) hown (hts (.methodLink RX4 51 arraycopyName) (by decide +kernel)) (hts (.native arraycopyName) (by decide +kernel)) (hts (.static arraycopyName) (by decide +kernel)) (hts (.initialized "java/lang/System") (by decide +kernel)) hP hS (g_pr h14) (g_pr h15) h16.1 h16.2.1 h16.2.2.1 h16.2.2.2.1 h16.2.2.2.2 (Nat.le_of_ble_eq_true rfl) (by decide) dX4_copyFrom_35 (fun H locs hP hS => ?_)
  obtain ⟨g17, e18, hF⟩ := g_let hF
  rw [e18] at hP
  have h19 : (gS g17 a1).1 = 5 := by rw [← e18]; exact h1
  have h20 : (gS g17 a0).1 = 5 := by rw [← e18]; exact h2
  have h21 : (gS g17 q3).1 = 11 := by rw [← e18]; exact h7
  have h22 : (gS g17 q5).1 = 11 := by rw [← e18]; exact h8
  have h23 : (gS g17 q10).1 = 11 := by rw [← e18]; exact h14
  have h24 : (gS g17 q12).1 = 11 := by rw [← e18]; exact h15
  refine lv_aload_n hx hb dX4_copyFrom_38 rfl (lv_at hl 1 rfl) ?_
  obtain ⟨q25, hq26, hF⟩ := g_bind hF
  refine g_get hx hb hts hiX4 hown hK hP 4 rfl (by decide) h19 3 (by decide) (hts (.fieldLink RX4 18 "CourierBees$Route" "targets" "[I") (by decide +kernel)) (fun _ h9 => h9) ((gFv_r (by decide)).trans (congrArg va_rf hq26)) dX4_copyFrom_39 ?_
  refine lv_iconst (v := 0) hx hb dX4_copyFrom_42 (by decide) ?_
  refine lv_aload_n hx hb dX4_copyFrom_43 rfl (lv_at hl 0 rfl) ?_
  obtain ⟨q27, hq28, hF⟩ := g_bind hF
  refine g_get hx hb hts hiX4 hown hK hP 4 rfl (by decide) h20 3 (by decide) (hts (.fieldLink RX4 18 "CourierBees$Route" "targets" "[I") (by decide +kernel)) (fun _ h9 => h9) ((gFv_r (by decide)).trans (congrArg va_rf hq28)) dX4_copyFrom_44 ?_
  refine lv_iconst (v := 0) hx hb dX4_copyFrom_47 (by decide) ?_
  refine lv_bipush (v := 14) hx hb dX4_copyFrom_48 (by decide) ?_
  obtain ⟨h29, hF⟩ := g_if hF
  obtain ⟨h30, hF⟩ := g_if hF
  obtain ⟨h31, hF⟩ := g_if hF
  refine g_copy hx hb (hml.trans hl.1.symm) hown (hts (.methodLink RX4 51 arraycopyName) (by decide +kernel)) (hts (.native arraycopyName) (by decide +kernel)) (hts (.static arraycopyName) (by decide +kernel)) (hts (.initialized "java/lang/System") (by decide +kernel)) hP hS (g_pr h29) (g_pr h30) h31.1 h31.2.1 h31.2.2.1 h31.2.2.2.1 h31.2.2.2.2 (Nat.le_of_ble_eq_true rfl) (by decide) dX4_copyFrom_50 (fun H locs hP hS => ?_)
  exact g_retV hx hb hr hlocks hF hP hS (Nat.le_of_ble_eq_true rfl) (Nat.le_of_ble_eq_true rfl) dX4_copyFrom_53
set_option maxHeartbeats 4000000 in
set_option maxRecDepth 100000 in
theorem k4_houseAt (l : Launch) (D : va_G) (base : Nat) (g : g_H) (a0 : Nat) (x1 : Int32) (rr : Int32) (gz : g_H) (hF : f4_houseAt g a0 x1 = some (rr, gz)) : Met l yX4_houseAt wsX4_houseAt ({ frames := 0, cells := 0, slots := 0, locals := 0 } : Room) (va_Pc [.ref a0, .int x1] (gC base D g)) (gQi base D rr gz) 0 0 (gA base) := by
  refine g_met (cc := cX4_houseAt) (maxL := 2) (ret := (some .int)) (lst := [(0, .ref a0), (1, .int x1)]) (by decide) rfl (Nat.le_of_ble_eq_true rfl) rfl ?_
  intro p e s m args below meth c ls hx hb hr hml hown hlocks hname hts hE hP hl
  have hown : s.vm.findClass RX4 = some m.cls := hown
  have hK := hE.1
  have hov := hE.2.2.2.2.2.2.2.1
  have hbz := hE.2.2.2.2.2.2.2.2.2.2.2.2
  have hS : va_S (gA base) s.heap s.heap [] := va_S.rf
  have hiX4 : ∀ w ∈ wsX40, w ∈ wsX4_houseAt := by decide +kernel
  unfold f4_houseAt at hF
  refine lv_iload_n hx hb dX4_houseAt_0 rfl (lv_at hl 1 rfl) ?_
  refine lv_if_lt (tgt := 21) hx hb dX4_houseAt_1 (by decide) (fun c1 => ?_) (fun c1 => ?_)
  · have hF := g_t c1 hF
    refine lv_iconst (v := (-1)) hx hb dX4_houseAt_21 (by decide) ?_
    exact g_retI hx hb hr hlocks hF hP hS (Nat.le_of_ble_eq_true rfl) (Nat.le_of_ble_eq_true rfl) dX4_houseAt_22
  · have hF := g_f c1 hF
    refine lv_iload_n hx hb dX4_houseAt_4 rfl (lv_at hl 1 rfl) ?_
    refine lv_aload_n hx hb dX4_houseAt_5 rfl (lv_at hl 0 rfl) ?_
    obtain ⟨h2, hF⟩ := g_if hF
    refine g_get hx hb hts hiX4 hown hK hP 4 rfl (by decide) h2 0 (by decide) (hts (.fieldLink RX4 21 "CourierBees$Route" "length" "I") (by decide +kernel)) (fun _ h9 => h9) (gFv_i (Or.inl rfl)) dX4_houseAt_6 ?_
    refine lv_icmp_ge (tgt := 21) hx hb dX4_houseAt_9 (by decide) (fun c3 => ?_) (fun c3 => ?_)
    · have hF := g_t c3 hF
      refine lv_iconst (v := (-1)) hx hb dX4_houseAt_21 (by decide) ?_
      exact g_retI hx hb hr hlocks hF hP hS (Nat.le_of_ble_eq_true rfl) (Nat.le_of_ble_eq_true rfl) dX4_houseAt_22
    · have hF := g_f c3 hF
      refine lv_aload_n hx hb dX4_houseAt_12 rfl (lv_at hl 0 rfl) ?_
      obtain ⟨q4, hq5, hF⟩ := g_bind hF
      refine g_get hx hb hts hiX4 hown hK hP 4 rfl (by decide) h2 1 (by decide) (hts (.fieldLink RX4 9 "CourierBees$Route" "houses" "[I") (by decide +kernel)) (fun _ h9 => h9) ((gFv_r (by decide)).trans (congrArg va_rf hq5)) dX4_houseAt_13 ?_
      refine lv_iload_n hx hb dX4_houseAt_16 rfl (lv_at hl 1 rfl) ?_
      obtain ⟨h6, hF⟩ := g_if hF
      obtain ⟨h7, hF⟩ := g_if hF
      refine g_iald hx hb hP (g_pr h6) h7 dX4_houseAt_17 ?_
      refine lv_goto (tgt := 22) hx hb dX4_houseAt_18 (by decide) ?_
      exact g_retI hx hb hr hlocks hF hP hS (Nat.le_of_ble_eq_true rfl) (Nat.le_of_ble_eq_true rfl) dX4_houseAt_22
set_option maxHeartbeats 4000000 in
set_option maxRecDepth 100000 in
theorem k4_length (l : Launch) (D : va_G) (base : Nat) (g : g_H) (a0 : Nat) (rr : Int32) (gz : g_H) (hF : f4_length g a0 = some (rr, gz)) : Met l yX4_length wsX4_length ({ frames := 0, cells := 0, slots := 0, locals := 0 } : Room) (va_Pc [.ref a0] (gC base D g)) (gQi base D rr gz) 0 0 (gA base) := by
  refine g_met (cc := cX4_length) (maxL := 1) (ret := (some .int)) (lst := [(0, .ref a0)]) (by decide) rfl (Nat.le_of_ble_eq_true rfl) rfl ?_
  intro p e s m args below meth c ls hx hb hr hml hown hlocks hname hts hE hP hl
  have hown : s.vm.findClass RX4 = some m.cls := hown
  have hK := hE.1
  have hov := hE.2.2.2.2.2.2.2.1
  have hbz := hE.2.2.2.2.2.2.2.2.2.2.2.2
  have hS : va_S (gA base) s.heap s.heap [] := va_S.rf
  have hiX4 : ∀ w ∈ wsX40, w ∈ wsX4_length := by decide +kernel
  unfold f4_length at hF
  refine lv_aload_n hx hb dX4_length_0 rfl (lv_at hl 0 rfl) ?_
  obtain ⟨h1, hF⟩ := g_if hF
  refine g_get hx hb hts hiX4 hown hK hP 4 rfl (by decide) h1 0 (by decide) (hts (.fieldLink RX4 21 "CourierBees$Route" "length" "I") (by decide +kernel)) (fun _ h9 => h9) (gFv_i (Or.inl rfl)) dX4_length_1 ?_
  exact g_retI hx hb hr hlocks hF hP hS (Nat.le_of_ble_eq_true rfl) (Nat.le_of_ble_eq_true rfl) dX4_length_4
set_option maxHeartbeats 4000000 in
set_option maxRecDepth 100000 in
theorem k4_laneAt (l : Launch) (D : va_G) (base : Nat) (g : g_H) (a0 : Nat) (x1 : Int32) (rr : Int32) (gz : g_H) (hF : f4_laneAt g a0 x1 = some (rr, gz)) : Met l yX4_laneAt wsX4_laneAt ({ frames := 0, cells := 0, slots := 0, locals := 0 } : Room) (va_Pc [.ref a0, .int x1] (gC base D g)) (gQi base D rr gz) 0 0 (gA base) := by
  refine g_met (cc := cX4_laneAt) (maxL := 2) (ret := (some .int)) (lst := [(0, .ref a0), (1, .int x1)]) (by decide) rfl (Nat.le_of_ble_eq_true rfl) rfl ?_
  intro p e s m args below meth c ls hx hb hr hml hown hlocks hname hts hE hP hl
  have hown : s.vm.findClass RX4 = some m.cls := hown
  have hK := hE.1
  have hov := hE.2.2.2.2.2.2.2.1
  have hbz := hE.2.2.2.2.2.2.2.2.2.2.2.2
  have hS : va_S (gA base) s.heap s.heap [] := va_S.rf
  have hiX4 : ∀ w ∈ wsX40, w ∈ wsX4_laneAt := by decide +kernel
  unfold f4_laneAt at hF
  refine lv_iload_n hx hb dX4_laneAt_0 rfl (lv_at hl 1 rfl) ?_
  refine lv_if_lt (tgt := 21) hx hb dX4_laneAt_1 (by decide) (fun c1 => ?_) (fun c1 => ?_)
  · have hF := g_t c1 hF
    refine lv_iconst (v := (-1)) hx hb dX4_laneAt_21 (by decide) ?_
    exact g_retI hx hb hr hlocks hF hP hS (Nat.le_of_ble_eq_true rfl) (Nat.le_of_ble_eq_true rfl) dX4_laneAt_22
  · have hF := g_f c1 hF
    refine lv_iload_n hx hb dX4_laneAt_4 rfl (lv_at hl 1 rfl) ?_
    refine lv_aload_n hx hb dX4_laneAt_5 rfl (lv_at hl 0 rfl) ?_
    obtain ⟨h2, hF⟩ := g_if hF
    refine g_get hx hb hts hiX4 hown hK hP 4 rfl (by decide) h2 0 (by decide) (hts (.fieldLink RX4 21 "CourierBees$Route" "length" "I") (by decide +kernel)) (fun _ h9 => h9) (gFv_i (Or.inl rfl)) dX4_laneAt_6 ?_
    refine lv_icmp_ge (tgt := 21) hx hb dX4_laneAt_9 (by decide) (fun c3 => ?_) (fun c3 => ?_)
    · have hF := g_t c3 hF
      refine lv_iconst (v := (-1)) hx hb dX4_laneAt_21 (by decide) ?_
      exact g_retI hx hb hr hlocks hF hP hS (Nat.le_of_ble_eq_true rfl) (Nat.le_of_ble_eq_true rfl) dX4_laneAt_22
    · have hF := g_f c3 hF
      refine lv_aload_n hx hb dX4_laneAt_12 rfl (lv_at hl 0 rfl) ?_
      obtain ⟨q4, hq5, hF⟩ := g_bind hF
      refine g_get hx hb hts hiX4 hown hK hP 4 rfl (by decide) h2 2 (by decide) (hts (.fieldLink RX4 15 "CourierBees$Route" "lanes" "[I") (by decide +kernel)) (fun _ h9 => h9) ((gFv_r (by decide)).trans (congrArg va_rf hq5)) dX4_laneAt_13 ?_
      refine lv_iload_n hx hb dX4_laneAt_16 rfl (lv_at hl 1 rfl) ?_
      obtain ⟨h6, hF⟩ := g_if hF
      obtain ⟨h7, hF⟩ := g_if hF
      refine g_iald hx hb hP (g_pr h6) h7 dX4_laneAt_17 ?_
      refine lv_goto (tgt := 22) hx hb dX4_laneAt_18 (by decide) ?_
      exact g_retI hx hb hr hlocks hF hP hS (Nat.le_of_ble_eq_true rfl) (Nat.le_of_ble_eq_true rfl) dX4_laneAt_22
set_option maxHeartbeats 4000000 in
set_option maxRecDepth 100000 in
theorem k4_targetFor (l : Launch) (D : va_G) (base : Nat) (g : g_H) (a0 : Nat) (x1 : Int32) (rr : Int32) (gz : g_H) (hF : f4_targetFor g a0 x1 = some (rr, gz)) : Met l yX4_targetFor wsX4_targetFor ({ frames := 0, cells := 0, slots := 0, locals := 0 } : Room) (va_Pc [.ref a0, .int x1] (gC base D g)) (gQi base D rr gz) 0 0 (gA base) := by
  refine g_met (cc := cX4_targetFor) (maxL := 2) (ret := (some .int)) (lst := [(0, .ref a0), (1, .int x1)]) (by decide) rfl (Nat.le_of_ble_eq_true rfl) rfl ?_
  intro p e s m args below meth c ls hx hb hr hml hown hlocks hname hts hE hP hl
  have hown : s.vm.findClass RX4 = some m.cls := hown
  have hK := hE.1
  have hov := hE.2.2.2.2.2.2.2.1
  have hbz := hE.2.2.2.2.2.2.2.2.2.2.2.2
  have hS : va_S (gA base) s.heap s.heap [] := va_S.rf
  have hiX4 : ∀ w ∈ wsX40, w ∈ wsX4_targetFor := by decide +kernel
  unfold f4_targetFor at hF
  refine lv_iload_n hx hb dX4_targetFor_0 rfl (lv_at hl 1 rfl) ?_
  refine lv_if_lt (tgt := 19) hx hb dX4_targetFor_1 (by decide) (fun c1 => ?_) (fun c1 => ?_)
  · have hF := g_t c1 hF
    refine lv_iconst (v := (-1)) hx hb dX4_targetFor_19 (by decide) ?_
    exact g_retI hx hb hr hlocks hF hP hS (Nat.le_of_ble_eq_true rfl) (Nat.le_of_ble_eq_true rfl) dX4_targetFor_20
  · have hF := g_f c1 hF
    refine lv_iload_n hx hb dX4_targetFor_4 rfl (lv_at hl 1 rfl) ?_
    refine lv_bipush (v := 14) hx hb dX4_targetFor_5 (by decide) ?_
    refine lv_icmp_ge (tgt := 19) hx hb dX4_targetFor_7 (by decide) (fun c2 => ?_) (fun c2 => ?_)
    · have hF := g_t c2 hF
      refine lv_iconst (v := (-1)) hx hb dX4_targetFor_19 (by decide) ?_
      exact g_retI hx hb hr hlocks hF hP hS (Nat.le_of_ble_eq_true rfl) (Nat.le_of_ble_eq_true rfl) dX4_targetFor_20
    · have hF := g_f c2 hF
      refine lv_aload_n hx hb dX4_targetFor_10 rfl (lv_at hl 0 rfl) ?_
      obtain ⟨h3, hF⟩ := g_if hF
      obtain ⟨q4, hq5, hF⟩ := g_bind hF
      refine g_get hx hb hts hiX4 hown hK hP 4 rfl (by decide) h3 3 (by decide) (hts (.fieldLink RX4 18 "CourierBees$Route" "targets" "[I") (by decide +kernel)) (fun _ h9 => h9) ((gFv_r (by decide)).trans (congrArg va_rf hq5)) dX4_targetFor_11 ?_
      refine lv_iload_n hx hb dX4_targetFor_14 rfl (lv_at hl 1 rfl) ?_
      obtain ⟨h6, hF⟩ := g_if hF
      obtain ⟨h7, hF⟩ := g_if hF
      refine g_iald hx hb hP (g_pr h6) h7 dX4_targetFor_15 ?_
      refine lv_goto (tgt := 20) hx hb dX4_targetFor_16 (by decide) ?_
      exact g_retI hx hb hr hlocks hF hP hS (Nat.le_of_ble_eq_true rfl) (Nat.le_of_ble_eq_true rfl) dX4_targetFor_20
set_option maxHeartbeats 4000000 in
set_option maxRecDepth 100000 in
theorem k4_placeOf (l : Launch) (D : va_G) (base : Nat) (g : g_H) (a0 : Nat) (x1 : Int32) (rr : Int32) (gz : g_H) (hF : f4_placeOf g a0 x1 = some (rr, gz)) : Met l yX4_placeOf wsX4_placeOf ({ frames := 0, cells := 0, slots := 0, locals := 0 } : Room) (va_Pc [.ref a0, .int x1] (gC base D g)) (gQi base D rr gz) 0 0 (gA base) := by
  refine g_met (cc := cX4_placeOf) (maxL := 3) (ret := (some .int)) (lst := [(0, .ref a0), (1, .int x1)]) (by decide) rfl (Nat.le_of_ble_eq_true rfl) rfl ?_
  intro p e s m args below meth c ls hx hb hr hml hown hlocks hname hts hE hP hl
  have hown : s.vm.findClass RX4 = some m.cls := hown
  have hK := hE.1
  have hov := hE.2.2.2.2.2.2.2.1
  have hbz := hE.2.2.2.2.2.2.2.2.2.2.2.2
  have hS : va_S (gA base) s.heap s.heap [] := va_S.rf
  have hiX4 : ∀ w ∈ wsX40, w ∈ wsX4_placeOf := by decide +kernel
  have HL2 : ∀ (n2 : Nat), ∀ (g : g_H) (a0 : Nat) (x1 : Int32) (x2 : Int32) (H : Heap) (locs : List Loc) (ls : Array Slot), f4_placeOf_2 n2 g a0 x1 x2 = some (rr, gz) → gP base D s g H → va_S (gA base) s.heap H locs → lv_has ls 3 [(0, .ref a0), (1, .int x1), (2, .int x2)] → W p l e ({ frames := 0, cells := 0, slots := 0, locals := 0 } : Room) s m args below meth c H locs 0 0 (MQ below (gQi base D rr gz) args s 0 0 (gA base)) (F0 m 2 ls []) := by
    intro n2
    induction n2 with
    | zero => intro g a0 x1 x2 H locs ls hF hP hS hl; exact g_no hF
    | succ n2 ih2 =>
      intro g a0 x1 x2 H locs ls hF hP hS hl
      have hF : f4_placeOf_2b (f4_placeOf_2 n2) g a0 x1 x2 = some (rr, gz) := hF
      unfold f4_placeOf_2b at hF
      refine lv_iload_n hx hb dX4_placeOf_2 rfl (lv_at hl 2 rfl) ?_
      refine lv_aload_n hx hb dX4_placeOf_3 rfl (lv_at hl 0 rfl) ?_
      obtain ⟨h1, hF⟩ := g_if hF
      refine g_get hx hb hts hiX4 hown hK hP 4 rfl (by decide) h1 0 (by decide) (hts (.fieldLink RX4 21 "CourierBees$Route" "length" "I") (by decide +kernel)) (fun _ h9 => h9) (gFv_i (Or.inl rfl)) dX4_placeOf_4 ?_
      refine lv_icmp_ge (tgt := 28) hx hb dX4_placeOf_7 (by decide) (fun c2 => ?_) (fun c2 => ?_)
      · have hF := g_t c2 hF
        refine lv_iconst (v := (-1)) hx hb dX4_placeOf_28 (by decide) ?_
        exact g_retI hx hb hr hlocks hF hP hS (Nat.le_of_ble_eq_true rfl) (Nat.le_of_ble_eq_true rfl) dX4_placeOf_29
      · have hF := g_f c2 hF
        refine lv_aload_n hx hb dX4_placeOf_10 rfl (lv_at hl 0 rfl) ?_
        obtain ⟨q3, hq4, hF⟩ := g_bind hF
        refine g_get hx hb hts hiX4 hown hK hP 4 rfl (by decide) h1 1 (by decide) (hts (.fieldLink RX4 9 "CourierBees$Route" "houses" "[I") (by decide +kernel)) (fun _ h9 => h9) ((gFv_r (by decide)).trans (congrArg va_rf hq4)) dX4_placeOf_11 ?_
        refine lv_iload_n hx hb dX4_placeOf_14 rfl (lv_at hl 2 rfl) ?_
        obtain ⟨h5, hF⟩ := g_if hF
        obtain ⟨h6, hF⟩ := g_if hF
        refine g_iald hx hb hP (g_pr h5) h6 dX4_placeOf_15 ?_
        refine lv_iload_n hx hb dX4_placeOf_16 rfl (lv_at hl 1 rfl) ?_
        refine lv_icmp_ne (tgt := 22) hx hb dX4_placeOf_17 (by decide) (fun c7 => ?_) (fun c7 => ?_)
        · have hF := g_f c7 hF
          refine lv_iinc (v := x2 + (1 : Int32)) (lv' := [(2, .int (x2 + (1 : Int32))), (0, .ref a0), (1, .int x1)]) hx hb dX4_placeOf_22 hl (k := 2) rfl rfl (by decide) rfl (fun ls hl => ?_)
          refine lv_goto (tgt := 2) hx hb dX4_placeOf_25 (by decide) ?_
          exact ih2 _ _ _ _ _ _ _ hF hP hS (lv_sub hl [1, 2, 0] rfl)
        · have hF := g_t c7 hF
          refine lv_iload_n hx hb dX4_placeOf_20 rfl (lv_at hl 2 rfl) ?_
          exact g_retI hx hb hr hlocks hF hP hS (Nat.le_of_ble_eq_true rfl) (Nat.le_of_ble_eq_true rfl) dX4_placeOf_21
  unfold f4_placeOf at hF
  refine lv_iconst (v := 0) hx hb dX4_placeOf_0 (by decide) ?_
  refine lv_istore_n (lv' := [(2, .int ((0 : Int32))), (0, .ref a0), (1, .int x1)]) hx hb dX4_placeOf_1 rfl hl (by decide) rfl (fun ls hl => ?_)
  exact HL2 300 _ _ _ _ _ _ _ hF hP hS (lv_sub hl [1, 2, 0] rfl)
set_option maxHeartbeats 4000000 in
set_option maxRecDepth 100000 in
theorem k4_append (l : Launch) (D : va_G) (base : Nat) (g : g_H) (a0 : Nat) (x1 : Int32) (a2 : Nat) (rr : Int32) (gz : g_H) (hF : f4_append g a0 x1 a2 = some (rr, gz)) : Met l yX4_append wsX4_append ({ frames := 3, cells := 0, slots := 0, locals := 66 } : Room) (va_Pc [.ref a0, .int x1, .ref a2] (gC base D g)) (gQi base D rr gz) 0 0 (gA base) := by
  refine g_met (cc := cX4_append) (maxL := 4) (ret := (some .boolean)) (lst := [(0, .ref a0), (1, .int x1), (2, .ref a2)]) (by decide) rfl (Nat.le_of_ble_eq_true rfl) rfl ?_
  intro p e s m args below meth c ls hx hb hr hml hown hlocks hname hts hE hP hl
  have hown : s.vm.findClass RX4 = some m.cls := hown
  have hK := hE.1
  have hov := hE.2.2.2.2.2.2.2.1
  have hbz := hE.2.2.2.2.2.2.2.2.2.2.2.2
  have hS : va_S (gA base) s.heap s.heap [] := va_S.rf
  have hiX4 : ∀ w ∈ wsX40, w ∈ wsX4_append := by decide +kernel
  have HB71 : ∀ (g : g_H) (a0 : Nat) (x1 : Int32) (H : Heap) (locs : List Loc) (ls : Array Slot), f4_append_71 g a0 x1 = some (rr, gz) → gP base D s g H → va_S (gA base) s.heap H locs → lv_has ls 4 [(0, .ref a0), (1, .int x1)] → W p l e ({ frames := 3, cells := 0, slots := 0, locals := 66 } : Room) s m args below meth c H locs 0 0 (MQ below (gQi base D rr gz) args s 0 0 (gA base)) (F0 m 71 ls []) := by
    intro g a0 x1 H locs ls hF hP hS hl
    unfold f4_append_71 at hF
    refine lv_aload_n hx hb dX4_append_71 rfl (lv_at hl 0 rfl) ?_
    obtain ⟨h14, hF⟩ := g_if hF
    obtain ⟨q15, hq16, hF⟩ := g_bind hF
    refine g_get hx hb hts hiX4 hown hK hP 4 rfl (by decide) h14 2 (by decide) (hts (.fieldLink RX4 15 "CourierBees$Route" "lanes" "[I") (by decide +kernel)) (fun _ h9 => h9) ((gFv_r (by decide)).trans (congrArg va_rf hq16)) dX4_append_72 ?_
    refine lv_aload_n hx hb dX4_append_75 rfl (lv_at hl 0 rfl) ?_
    refine g_get hx hb hts hiX4 hown hK hP 4 rfl (by decide) h14 0 (by decide) (hts (.fieldLink RX4 21 "CourierBees$Route" "length" "I") (by decide +kernel)) (fun _ h9 => h9) (gFv_i (Or.inl rfl)) dX4_append_76 ?_
    refine lv_iconst (v := (-1)) hx hb dX4_append_79 (by decide) ?_
    obtain ⟨h17, hF⟩ := g_if hF
    obtain ⟨h18, hF⟩ := g_if hF
    refine g_iast hx hb hP hS (g_pr h17) h18 dX4_append_80 (fun H locs hP hS => ?_)
    refine lv_aload_n hx hb dX4_append_81 rfl (lv_at hl 0 rfl) ?_
    obtain ⟨q19, hq20, hF⟩ := g_bind hF
    refine g_get hx hb hts hiX4 hown hK hP 4 rfl (by decide) h14 1 (by decide) (hts (.fieldLink RX4 9 "CourierBees$Route" "houses" "[I") (by decide +kernel)) (fun _ h9 => h9) ((gFv_r (by decide)).trans (congrArg va_rf hq20)) dX4_append_82 ?_
    refine lv_aload_n hx hb dX4_append_85 rfl (lv_at hl 0 rfl) ?_
    refine g_get hx hb hts hiX4 hown hK hP 4 rfl (by decide) h14 0 (by decide) (hts (.fieldLink RX4 21 "CourierBees$Route" "length" "I") (by decide +kernel)) (fun _ h9 => h9) (gFv_i (Or.inl rfl)) dX4_append_86 ?_
    refine lv_iload_n hx hb dX4_append_89 rfl (lv_at hl 1 rfl) ?_
    obtain ⟨h21, hF⟩ := g_if hF
    obtain ⟨h22, hF⟩ := g_if hF
    refine g_iast hx hb hP hS (g_pr h21) h22 dX4_append_90 (fun H locs hP hS => ?_)
    refine lv_aload_n hx hb dX4_append_91 rfl (lv_at hl 0 rfl) ?_
    refine lv_dup hx hb dX4_append_92 rfl ?_
    refine g_get hx hb hts hiX4 hown hK hP 4 rfl (by decide) h14 0 (by decide) (hts (.fieldLink RX4 21 "CourierBees$Route" "length" "I") (by decide +kernel)) (fun _ h9 => h9) (gFv_i (Or.inl rfl)) dX4_append_93 ?_
    refine lv_iconst (v := 1) hx hb dX4_append_96 (by decide) ?_
    refine lv_iadd hx hb dX4_append_97 ?_
    obtain ⟨y23, e24, hF⟩ := g_let hF
    rw [e24]
    refine g_puti hx hb hts hiX4 tyX4 tyX4_ok nmX4 hown hK hP hS 4 rfl (by decide) h14 0 (by decide) (hts (.fieldLink RX4 21 "CourierBees$Route" "length" "I") (by decide +kernel)) (fun _ h9 => h9) (Or.inl rfl) (Or.inl rfl) rfl rfl dX4_append_98 (fun H locs hP hS => ?_)
    refine lv_iconst (v := 1) hx hb dX4_append_101 (by decide) ?_
    exact g_retZ hx hb hr (Or.inr rfl) hlocks hF hP hS (Nat.le_of_ble_eq_true rfl) (Nat.le_of_ble_eq_true rfl) dX4_append_102
  unfold f4_append at hF
  refine lv_aload_n hx hb dX4_append_0 rfl (lv_at hl 2 rfl) ?_
  refine lv_iload_n hx hb dX4_append_1 rfl (lv_at hl 1 rfl) ?_
  obtain ⟨h2, hF⟩ := g_if hF
  obtain ⟨v4, g3, h1, hF⟩ := g_bind2 hF
  refine g_calli (va_runV (As := [.int x1]) (rest := []) ⟨hx, hb, hml, hown, hts⟩ (k5_hasHouse l D base g a2 x1 v4 g3 h1) (cwV 1 hts gX4_append_X5_hasHouse rfl rfl rfl (by decide +kernel) ⟨Nat.le_of_ble_eq_true rfl, Nat.le_of_ble_eq_true rfl⟩) (gC.preV hE hP hS 5 rfl (by decide) h2 [.int x1]) rfl rfl hl.1 rfl (lv_room (Nat.le_of_ble_eq_true rfl)) dX4_append_2 ⟨(Nat.le_of_ble_eq_true rfl), (Nat.le_of_ble_eq_true rfl)⟩) hS (fun H locs hP hS => ?_)
  refine lv_if_eq (tgt := 26) hx hb dX4_append_5 (by decide) (fun c5 => ?_) (fun c5 => ?_)
  · have hF := g_t c5 hF
    refine lv_iconst (v := 0) hx hb dX4_append_26 (by decide) ?_
    exact g_retZ hx hb hr (Or.inl rfl) hlocks hF hP hS (Nat.le_of_ble_eq_true rfl) (Nat.le_of_ble_eq_true rfl) dX4_append_27
  · have hF := g_f c5 hF
    refine lv_aload_n hx hb dX4_append_8 rfl (lv_at hl 0 rfl) ?_
    refine lv_iload_n hx hb dX4_append_9 rfl (lv_at hl 1 rfl) ?_
    obtain ⟨h7, hF⟩ := g_if hF
    obtain ⟨v9, g8, h6, hF⟩ := g_bind2 hF
    refine g_calli (va_runV (As := [.int x1]) (rest := []) ⟨hx, hb, hml, hown, hts⟩ (k4_placeOf l D base g3 a0 x1 v9 g8 h6) (cwV 1 hts gX4_append_X4_placeOf rfl rfl rfl (by decide +kernel) ⟨Nat.le_of_ble_eq_true rfl, Nat.le_of_ble_eq_true rfl⟩) (gC.preV hE hP hS 4 rfl (by decide) h7 [.int x1]) rfl rfl hl.1 rfl (lv_room (Nat.le_of_ble_eq_true rfl)) dX4_append_10 ⟨(Nat.le_of_ble_eq_true rfl), (Nat.le_of_ble_eq_true rfl)⟩) hS (fun H locs hP hS => ?_)
    refine lv_iconst (v := (-1)) hx hb dX4_append_13 (by decide) ?_
    refine lv_icmp_ne (tgt := 26) hx hb dX4_append_14 (by decide) (fun c10 => ?_) (fun c10 => ?_)
    · have hF := g_f c10 hF
      refine lv_iconst (v := 0) hx hb dX4_append_26 (by decide) ?_
      exact g_retZ hx hb hr (Or.inl rfl) hlocks hF hP hS (Nat.le_of_ble_eq_true rfl) (Nat.le_of_ble_eq_true rfl) dX4_append_27
    · have hF := g_t c10 hF
      refine lv_aload_n hx hb dX4_append_17 rfl (lv_at hl 0 rfl) ?_
      obtain ⟨h11, hF⟩ := g_if hF
      refine g_get hx hb hts hiX4 hown hK hP 4 rfl (by decide) h11 0 (by decide) (hts (.fieldLink RX4 21 "CourierBees$Route" "length" "I") (by decide +kernel)) (fun _ h9 => h9) (gFv_i (Or.inl rfl)) dX4_append_18 ?_
      refine lv_bipush (v := 7) hx hb dX4_append_21 (by decide) ?_
      refine lv_icmp_lt (tgt := 28) hx hb dX4_append_23 (by decide) (fun c12 => ?_) (fun c12 => ?_)
      · have hF := g_t c12 hF
        refine lv_aload_n hx hb dX4_append_28 rfl (lv_at hl 0 rfl) ?_
        refine g_get hx hb hts hiX4 hown hK hP 4 rfl (by decide) h11 0 (by decide) (hts (.fieldLink RX4 21 "CourierBees$Route" "length" "I") (by decide +kernel)) (fun _ h9 => h9) (gFv_i (Or.inl rfl)) dX4_append_29 ?_
        refine lv_if_le (tgt := 71) hx hb dX4_append_32 (by decide) (fun c13 => ?_) (fun c13 => ?_)
        · have hF := g_t c13 hF
          exact HB71 _ _ _ _ _ _ hF hP hS (lv_sub hl [0, 1] rfl)
        · have hF := g_f c13 hF
          refine lv_aload_n hx hb dX4_append_35 rfl (lv_at hl 2 rfl) ?_
          refine lv_aload_n hx hb dX4_append_36 rfl (lv_at hl 0 rfl) ?_
          obtain ⟨q25, hq26, hF⟩ := g_bind hF
          refine g_get hx hb hts hiX4 hown hK hP 4 rfl (by decide) h11 1 (by decide) (hts (.fieldLink RX4 9 "CourierBees$Route" "houses" "[I") (by decide +kernel)) (fun _ h9 => h9) ((gFv_r (by decide)).trans (congrArg va_rf hq26)) dX4_append_37 ?_
          refine lv_aload_n hx hb dX4_append_40 rfl (lv_at hl 0 rfl) ?_
          refine g_get hx hb hts hiX4 hown hK hP 4 rfl (by decide) h11 0 (by decide) (hts (.fieldLink RX4 21 "CourierBees$Route" "length" "I") (by decide +kernel)) (fun _ h9 => h9) (gFv_i (Or.inl rfl)) dX4_append_41 ?_
          refine lv_iconst (v := 1) hx hb dX4_append_44 (by decide) ?_
          refine lv_isub hx hb dX4_append_45 ?_
          obtain ⟨h27, hF⟩ := g_if hF
          obtain ⟨h28, hF⟩ := g_if hF
          refine g_iald hx hb hP (g_pr h27) h28 dX4_append_46 ?_
          refine lv_iload_n hx hb dX4_append_47 rfl (lv_at hl 1 rfl) ?_
          obtain ⟨h30, hF⟩ := g_if hF
          obtain ⟨v32, g31, h29, hF⟩ := g_bind2 hF
          refine g_calli (va_runV (As := [.int (gI g8 q25 (Int32.toNatClampNeg ((gI g8 a0 0) - ((1 : Int32))))), .int x1]) (rest := []) ⟨hx, hb, hml, hown, hts⟩ (k5_shortestLane l D base g8 a2 (gI g8 q25 (Int32.toNatClampNeg ((gI g8 a0 0) - ((1 : Int32))))) x1 v32 g31 h29) (cwV 2 hts gX4_append_X5_shortestLane rfl rfl rfl (by decide +kernel) ⟨Nat.le_of_ble_eq_true rfl, Nat.le_of_ble_eq_true rfl⟩) (gC.preV hE hP hS 5 rfl (by decide) h30 [.int (gI g8 q25 (Int32.toNatClampNeg ((gI g8 a0 0) - ((1 : Int32))))), .int x1]) rfl rfl hl.1 rfl (lv_room (Nat.le_of_ble_eq_true rfl)) dX4_append_48 ⟨(Nat.le_of_ble_eq_true rfl), (Nat.le_of_ble_eq_true rfl)⟩) hS (fun H locs hP hS => ?_)
          refine lv_istore_n (lv' := [(3, .int v32), (0, .ref a0), (1, .int x1), (2, .ref a2)]) hx hb dX4_append_51 rfl hl (by decide) rfl (fun ls hl => ?_)
          refine lv_iload_n hx hb dX4_append_52 rfl (lv_at hl 0 rfl) ?_
          refine lv_iconst (v := (-1)) hx hb dX4_append_53 (by decide) ?_
          refine lv_icmp_ne (tgt := 59) hx hb dX4_append_54 (by decide) (fun c33 => ?_) (fun c33 => ?_)
          · have hF := g_f c33 hF
            refine lv_aload_n hx hb dX4_append_59 rfl (lv_at hl 1 rfl) ?_
            obtain ⟨h34, hF⟩ := g_if hF
            obtain ⟨q35, hq36, hF⟩ := g_bind hF
            refine g_get hx hb hts hiX4 hown hK hP 4 rfl (by decide) h34 2 (by decide) (hts (.fieldLink RX4 15 "CourierBees$Route" "lanes" "[I") (by decide +kernel)) (fun _ h9 => h9) ((gFv_r (by decide)).trans (congrArg va_rf hq36)) dX4_append_60 ?_
            refine lv_aload_n hx hb dX4_append_63 rfl (lv_at hl 1 rfl) ?_
            refine g_get hx hb hts hiX4 hown hK hP 4 rfl (by decide) h34 0 (by decide) (hts (.fieldLink RX4 21 "CourierBees$Route" "length" "I") (by decide +kernel)) (fun _ h9 => h9) (gFv_i (Or.inl rfl)) dX4_append_64 ?_
            refine lv_iconst (v := 1) hx hb dX4_append_67 (by decide) ?_
            refine lv_isub hx hb dX4_append_68 ?_
            refine lv_iload_n hx hb dX4_append_69 rfl (lv_at hl 0 rfl) ?_
            obtain ⟨h37, hF⟩ := g_if hF
            obtain ⟨h38, hF⟩ := g_if hF
            refine g_iast hx hb hP hS (g_pr h37) h38 dX4_append_70 (fun H locs hP hS => ?_)
            exact HB71 _ _ _ _ _ _ hF hP hS (lv_sub hl [1, 2] rfl)
          · have hF := g_t c33 hF
            refine lv_iconst (v := 0) hx hb dX4_append_57 (by decide) ?_
            exact g_retZ hx hb hr (Or.inl rfl) hlocks hF hP hS (Nat.le_of_ble_eq_true rfl) (Nat.le_of_ble_eq_true rfl) dX4_append_58
      · have hF := g_f c12 hF
        refine lv_iconst (v := 0) hx hb dX4_append_26 (by decide) ?_
        exact g_retZ hx hb hr (Or.inl rfl) hlocks hF hP hS (Nat.le_of_ble_eq_true rfl) (Nat.le_of_ble_eq_true rfl) dX4_append_27
set_option maxHeartbeats 4000000 in
set_option maxRecDepth 100000 in
theorem k4_findTargets (l : Launch) (D : va_G) (base : Nat) (g : g_H) (a0 : Nat) (a1 : Nat) (gz : g_H) (hF : f4_findTargets g a0 a1 = some gz) : Met l yX4_findTargets wsX4_findTargets ({ frames := 2, cells := 0, slots := 0, locals := 43 } : Room) (va_Pc [.ref a0, .ref a1] (gC base D g)) (gQv base D gz) 0 0 (gA base) := by
  refine g_met (cc := cX4_findTargets) (maxL := 6) (ret := none) (lst := [(0, .ref a0), (1, .ref a1)]) (by decide) rfl (Nat.le_of_ble_eq_true rfl) rfl ?_
  intro p e s m args below meth c ls hx hb hr hml hown hlocks hname hts hE hP hl
  have hown : s.vm.findClass RX4 = some m.cls := hown
  have hK := hE.1
  have hov := hE.2.2.2.2.2.2.2.1
  have hbz := hE.2.2.2.2.2.2.2.2.2.2.2.2
  have hS : va_S (gA base) s.heap s.heap [] := va_S.rf
  have hiX4 : ∀ w ∈ wsX40, w ∈ wsX4_findTargets := by decide +kernel
  have HL2 : ∀ (n2 : Nat), ∀ (g : g_H) (a0 : Nat) (a1 : Nat) (x2 : Int32) (H : Heap) (locs : List Loc) (ls : Array Slot), f4_findTargets_2 n2 g a0 a1 x2 = some gz → gP base D s g H → va_S (gA base) s.heap H locs → lv_has ls 6 [(0, .ref a0), (1, .ref a1), (2, .int x2)] → W p l e ({ frames := 2, cells := 0, slots := 0, locals := 43 } : Room) s m args below meth c H locs 0 0 (MQ below (gQv base D gz) args s 0 0 (gA base)) (F0 m 2 ls []) := by
    intro n2
    induction n2 with
    | zero => intro g a0 a1 x2 H locs ls hF hP hS hl; exact g_no hF
    | succ n2 ih2 =>
      have HL22 : ∀ (n22 : Nat), ∀ (g : g_H) (a0 : Nat) (a1 : Nat) (x2 : Int32) (x3 : Int32) (x4 : Int32) (H : Heap) (locs : List Loc) (ls : Array Slot), f4_findTargets_22 (f4_findTargets_2 n2) n22 g a0 a1 x2 x3 x4 = some gz → gP base D s g H → va_S (gA base) s.heap H locs → lv_has ls 6 [(0, .ref a0), (1, .ref a1), (2, .int x2), (3, .int x3), (4, .int x4)] → W p l e ({ frames := 2, cells := 0, slots := 0, locals := 43 } : Room) s m args below meth c H locs 0 0 (MQ below (gQv base D gz) args s 0 0 (gA base)) (F0 m 22 ls []) := by
        intro n22
        induction n22 with
        | zero => intro g a0 a1 x2 x3 x4 H locs ls hF hP hS hl; exact g_no hF
        | succ n22 ih22 =>
          have HB67 : ∀ (g : g_H) (a0 : Nat) (a1 : Nat) (x2 : Int32) (x3 : Int32) (x4 : Int32) (H : Heap) (locs : List Loc) (ls : Array Slot), f4_findTargets_67 (f4_findTargets_2 n2) (f4_findTargets_22 (f4_findTargets_2 n2) n22) g a0 a1 x2 x3 x4 = some gz → gP base D s g H → va_S (gA base) s.heap H locs → lv_has ls 6 [(0, .ref a0), (1, .ref a1), (2, .int x2), (3, .int x3), (4, .int x4)] → W p l e ({ frames := 2, cells := 0, slots := 0, locals := 43 } : Room) s m args below meth c H locs 0 0 (MQ below (gQv base D gz) args s 0 0 (gA base)) (F0 m 67 ls []) := by
            intro g a0 a1 x2 x3 x4 H locs ls hF hP hS hl
            unfold f4_findTargets_67 at hF
            refine lv_iinc (v := x4 + (1 : Int32)) (lv' := [(4, .int (x4 + (1 : Int32))), (0, .ref a0), (1, .ref a1), (2, .int x2), (3, .int x3)]) hx hb dX4_findTargets_67 hl (k := 4) rfl rfl (by decide) rfl (fun ls hl => ?_)
            refine lv_goto (tgt := 22) hx hb dX4_findTargets_70 (by decide) ?_
            exact ih22 _ _ _ _ _ _ _ _ _ hF hP hS (lv_sub hl [1, 2, 3, 4, 0] rfl)
          intro g a0 a1 x2 x3 x4 H locs ls hF hP hS hl
          have hF : f4_findTargets_22b (f4_findTargets_2 n2) (f4_findTargets_22 (f4_findTargets_2 n2) n22) g a0 a1 x2 x3 x4 = some gz := hF
          unfold f4_findTargets_22b at hF
          refine lv_iload hx hb dX4_findTargets_22 (lv_at hl 4 rfl) ?_
          refine lv_aload_n hx hb dX4_findTargets_24 rfl (lv_at hl 0 rfl) ?_
          obtain ⟨h7, hF⟩ := g_if hF
          refine g_get hx hb hts hiX4 hown hK hP 4 rfl (by decide) h7 0 (by decide) (hts (.fieldLink RX4 21 "CourierBees$Route" "length" "I") (by decide +kernel)) (fun _ h9 => h9) (gFv_i (Or.inl rfl)) dX4_findTargets_25 ?_
          refine lv_icmp_ge (tgt := 73) hx hb dX4_findTargets_28 (by decide) (fun c8 => ?_) (fun c8 => ?_)
          · have hF := g_t c8 hF
            refine lv_iinc (v := x2 + (1 : Int32)) (lv' := [(2, .int (x2 + (1 : Int32))), (0, .ref a0), (1, .ref a1), (3, .int x3), (4, .int x4)]) hx hb dX4_findTargets_73 hl (k := 2) rfl rfl (by decide) rfl (fun ls hl => ?_)
            refine lv_goto (tgt := 2) hx hb dX4_findTargets_76 (by decide) ?_
            exact ih2 _ _ _ _ _ _ _ hF hP hS (lv_sub hl [1, 2, 0] rfl)
          · have hF := g_f c8 hF
            refine lv_aload_n hx hb dX4_findTargets_31 rfl (lv_at hl 1 rfl) ?_
            refine lv_aload_n hx hb dX4_findTargets_32 rfl (lv_at hl 0 rfl) ?_
            obtain ⟨q9, hq10, hF⟩ := g_bind hF
            refine g_get hx hb hts hiX4 hown hK hP 4 rfl (by decide) h7 1 (by decide) (hts (.fieldLink RX4 9 "CourierBees$Route" "houses" "[I") (by decide +kernel)) (fun _ h9 => h9) ((gFv_r (by decide)).trans (congrArg va_rf hq10)) dX4_findTargets_33 ?_
            refine lv_iload hx hb dX4_findTargets_36 (lv_at hl 4 rfl) ?_
            obtain ⟨h11, hF⟩ := g_if hF
            obtain ⟨h12, hF⟩ := g_if hF
            refine g_iald hx hb hP (g_pr h11) h12 dX4_findTargets_38 ?_
            refine lv_iload_n hx hb dX4_findTargets_39 rfl (lv_at hl 2 rfl) ?_
            obtain ⟨h14, hF⟩ := g_if hF
            obtain ⟨v16, g15, h13, hF⟩ := g_bind2 hF
            refine g_calli (va_runV (As := [.int (gI g q9 (Int32.toNatClampNeg x4)), .int x2]) (rest := []) ⟨hx, hb, hml, hown, hts⟩ (k5_wayBetween l D base g a1 (gI g q9 (Int32.toNatClampNeg x4)) x2 v16 g15 h13) (cwV 2 hts gX4_findTargets_X5_wayBetween rfl rfl rfl (by decide +kernel) ⟨Nat.le_of_ble_eq_true rfl, Nat.le_of_ble_eq_true rfl⟩) (gC.preV hE hP hS 5 rfl (by decide) h14 [.int (gI g q9 (Int32.toNatClampNeg x4)), .int x2]) rfl rfl hl.1 rfl (lv_room (Nat.le_of_ble_eq_true rfl)) dX4_findTargets_40 ⟨(Nat.le_of_ble_eq_true rfl), (Nat.le_of_ble_eq_true rfl)⟩) hS (fun H locs hP hS => ?_)
            refine lv_istore (lv' := [(5, .int v16), (0, .ref a0), (1, .ref a1), (2, .int x2), (3, .int x3), (4, .int x4)]) hx hb dX4_findTargets_43 hl (by decide) rfl (fun ls hl => ?_)
            refine lv_iload hx hb dX4_findTargets_45 (lv_at hl 0 rfl) ?_
            refine lv_iload_n hx hb dX4_findTargets_47 rfl (lv_at hl 4 rfl) ?_
            refine lv_icmp_ge (tgt := 67) hx hb dX4_findTargets_48 (by decide) (fun c17 => ?_) (fun c17 => ?_)
            · have hF := g_t c17 hF
              exact HB67 _ _ _ _ _ _ _ _ _ hF hP hS (lv_sub hl [1, 2, 3, 4, 5] rfl)
            · have hF := g_f c17 hF
              refine lv_iload hx hb dX4_findTargets_51 (lv_at hl 0 rfl) ?_
              refine lv_istore_n (lv' := [(3, .int v16), (5, .int v16), (0, .ref a0), (1, .ref a1), (2, .int x2), (4, .int x4)]) hx hb dX4_findTargets_53 rfl hl (by decide) rfl (fun ls hl => ?_)
              refine lv_aload_n hx hb dX4_findTargets_54 rfl (lv_at hl 2 rfl) ?_
              obtain ⟨h18, hF⟩ := g_if hF
              obtain ⟨q19, hq20, hF⟩ := g_bind hF
              refine g_get hx hb hts hiX4 hown hK hP 4 rfl (by decide) h18 3 (by decide) (hts (.fieldLink RX4 18 "CourierBees$Route" "targets" "[I") (by decide +kernel)) (fun _ h9 => h9) ((gFv_r (by decide)).trans (congrArg va_rf hq20)) dX4_findTargets_55 ?_
              refine lv_iload_n hx hb dX4_findTargets_58 rfl (lv_at hl 4 rfl) ?_
              refine lv_aload_n hx hb dX4_findTargets_59 rfl (lv_at hl 2 rfl) ?_
              obtain ⟨q21, hq22, hF⟩ := g_bind hF
              refine g_get hx hb hts hiX4 hown hK hP 4 rfl (by decide) h18 1 (by decide) (hts (.fieldLink RX4 9 "CourierBees$Route" "houses" "[I") (by decide +kernel)) (fun _ h9 => h9) ((gFv_r (by decide)).trans (congrArg va_rf hq22)) dX4_findTargets_60 ?_
              refine lv_iload hx hb dX4_findTargets_63 (lv_at hl 5 rfl) ?_
              obtain ⟨h23, hF⟩ := g_if hF
              obtain ⟨h24, hF⟩ := g_if hF
              refine g_iald hx hb hP (g_pr h23) h24 dX4_findTargets_65 ?_
              obtain ⟨y25, e26, hF⟩ := g_let hF
              rw [e26]
              obtain ⟨h27, hF⟩ := g_if hF
              obtain ⟨h28, hF⟩ := g_if hF
              refine g_iast hx hb hP hS (g_pr h27) h28 dX4_findTargets_66 (fun H locs hP hS => ?_)
              exact HB67 _ _ _ _ _ _ _ _ _ hF hP hS (lv_sub hl [2, 3, 4, 0, 5] rfl)
      intro g a0 a1 x2 H locs ls hF hP hS hl
      have hF : f4_findTargets_2b (f4_findTargets_2 n2) g a0 a1 x2 = some gz := hF
      unfold f4_findTargets_2b at hF
      refine lv_iload_n hx hb dX4_findTargets_2 rfl (lv_at hl 2 rfl) ?_
      refine lv_bipush (v := 14) hx hb dX4_findTargets_3 (by decide) ?_
      refine lv_icmp_ge (tgt := 79) hx hb dX4_findTargets_5 (by decide) (fun c1 => ?_) (fun c1 => ?_)
      · have hF := g_t c1 hF
        exact g_retV hx hb hr hlocks hF hP hS (Nat.le_of_ble_eq_true rfl) (Nat.le_of_ble_eq_true rfl) dX4_findTargets_79
      · have hF := g_f c1 hF
        refine lv_sipush (v := 1000) hx hb dX4_findTargets_8 (by decide) ?_
        refine lv_istore_n (lv' := [(3, .int ((1000 : Int32))), (0, .ref a0), (1, .ref a1), (2, .int x2)]) hx hb dX4_findTargets_11 rfl hl (by decide) rfl (fun ls hl => ?_)
        refine lv_aload_n hx hb dX4_findTargets_12 rfl (lv_at hl 1 rfl) ?_
        obtain ⟨h2, hF⟩ := g_if hF
        obtain ⟨q3, hq4, hF⟩ := g_bind hF
        refine g_get hx hb hts hiX4 hown hK hP 4 rfl (by decide) h2 3 (by decide) (hts (.fieldLink RX4 18 "CourierBees$Route" "targets" "[I") (by decide +kernel)) (fun _ h9 => h9) ((gFv_r (by decide)).trans (congrArg va_rf hq4)) dX4_findTargets_13 ?_
        refine lv_iload_n hx hb dX4_findTargets_16 rfl (lv_at hl 3 rfl) ?_
        refine lv_iconst (v := (-1)) hx hb dX4_findTargets_17 (by decide) ?_
        obtain ⟨h5, hF⟩ := g_if hF
        obtain ⟨h6, hF⟩ := g_if hF
        refine g_iast hx hb hP hS (g_pr h5) h6 dX4_findTargets_18 (fun H locs hP hS => ?_)
        refine lv_iconst (v := 0) hx hb dX4_findTargets_19 (by decide) ?_
        refine lv_istore (lv' := [(4, .int ((0 : Int32))), (3, .int ((1000 : Int32))), (0, .ref a0), (1, .ref a1), (2, .int x2)]) hx hb dX4_findTargets_20 hl (by decide) rfl (fun ls hl => ?_)
        exact HL22 300 _ _ _ _ _ _ _ _ _ hF hP hS (lv_sub hl [2, 3, 4, 1, 0] rfl)
  unfold f4_findTargets at hF
  refine lv_iconst (v := 0) hx hb dX4_findTargets_0 (by decide) ?_
  refine lv_istore_n (lv' := [(2, .int ((0 : Int32))), (0, .ref a0), (1, .ref a1)]) hx hb dX4_findTargets_1 rfl hl (by decide) rfl (fun ls hl => ?_)
  exact HL2 300 _ _ _ _ _ _ _ hF hP hS (lv_sub hl [1, 2, 0] rfl)
set_option maxHeartbeats 4000000 in
set_option maxRecDepth 100000 in
theorem k4_read (l : Launch) (D : va_G) (base : Nat) (g : g_H) (a0 : Nat) (x1 : Int32) (a2 : Nat) (rr : Int32) (gz : g_H) (hF : f4_read g a0 x1 a2 = some (rr, gz)) : Met l yX4_read wsX4_read ({ frames := 4, cells := 0, slots := 0, locals := 89 } : Room) (va_Pc [.ref a0, .int x1, .ref a2] (gC base D g)) (gQi base D rr gz) 0 0 (gA base) := by
  refine g_met (cc := cX4_read) (maxL := 5) (ret := (some .boolean)) (lst := [(0, .ref a0), (1, .int x1), (2, .ref a2)]) (by decide) rfl (Nat.le_of_ble_eq_true rfl) rfl ?_
  intro p e s m args below meth c ls hx hb hr hml hown hlocks hname hts hE hP hl
  have hown : s.vm.findClass RX4 = some m.cls := hown
  have hK := hE.1
  have hov := hE.2.2.2.2.2.2.2.1
  have hbz := hE.2.2.2.2.2.2.2.2.2.2.2.2
  have hS : va_S (gA base) s.heap s.heap [] := va_S.rf
  have hiX4 : ∀ w ∈ wsX40, w ∈ wsX4_read := by decide +kernel
  have HL21 : ∀ (n21 : Nat), ∀ (g : g_H) (a0 : Nat) (x1 : Int32) (a2 : Nat) (x3 : Int32) (H : Heap) (locs : List Loc) (ls : Array Slot), f4_read_21 n21 g a0 x1 a2 x3 = some (rr, gz) → gP base D s g H → va_S (gA base) s.heap H locs → lv_has ls 5 [(0, .ref a0), (1, .int x1), (2, .ref a2), (3, .int x3)] → W p l e ({ frames := 4, cells := 0, slots := 0, locals := 89 } : Room) s m args below meth c H locs 0 0 (MQ below (gQi base D rr gz) args s 0 0 (gA base)) (F0 m 21 ls []) := by
    intro n21
    induction n21 with
    | zero => intro g a0 x1 a2 x3 H locs ls hF hP hS hl; exact g_no hF
    | succ n21 ih21 =>
      have HB54 : ∀ (g : g_H) (a0 : Nat) (x1 : Int32) (a2 : Nat) (x3 : Int32) (H : Heap) (locs : List Loc) (ls : Array Slot), f4_read_54 (f4_read_21 n21) g a0 x1 a2 x3 = some (rr, gz) → gP base D s g H → va_S (gA base) s.heap H locs → lv_has ls 5 [(0, .ref a0), (1, .int x1), (2, .ref a2), (3, .int x3)] → W p l e ({ frames := 4, cells := 0, slots := 0, locals := 89 } : Room) s m args below meth c H locs 0 0 (MQ below (gQi base D rr gz) args s 0 0 (gA base)) (F0 m 54 ls []) := by
        intro g a0 x1 a2 x3 H locs ls hF hP hS hl
        unfold f4_read_54 at hF
        refine lv_iinc (v := x3 + (-1 : Int32)) (lv' := [(3, .int (x3 + (-1 : Int32))), (0, .ref a0), (1, .int x1), (2, .ref a2)]) hx hb dX4_read_54 hl (k := 3) rfl rfl (by decide) rfl (fun ls hl => ?_)
        refine lv_goto (tgt := 21) hx hb dX4_read_57 (by decide) ?_
        exact ih21 _ _ _ _ _ _ _ _ hF hP hS (lv_sub hl [1, 2, 3, 0] rfl)
      intro g a0 x1 a2 x3 H locs ls hF hP hS hl
      have hF : f4_read_21b (f4_read_21 n21) g a0 x1 a2 x3 = some (rr, gz) := hF
      unfold f4_read_21b at hF
      refine lv_iload_n hx hb dX4_read_21 rfl (lv_at hl 3 rfl) ?_
      refine lv_if_lt (tgt := 60) hx hb dX4_read_22 (by decide) (fun c4 => ?_) (fun c4 => ?_)
      · have hF := g_t c4 hF
        refine lv_aload_n hx hb dX4_read_60 rfl (lv_at hl 0 rfl) ?_
        refine lv_aload_n hx hb dX4_read_61 rfl (lv_at hl 2 rfl) ?_
        obtain ⟨h6, hF⟩ := g_if hF
        obtain ⟨g7, h5, hF⟩ := g_bind hF
        refine g_callv (va_runV (As := [.ref a2]) (rest := []) ⟨hx, hb, hml, hown, hts⟩ (k4_findTargets l D base g a0 a2 g7 h5) (cwV 1 hts gX4_read_X4_findTargets rfl rfl rfl (by decide +kernel) ⟨Nat.le_of_ble_eq_true rfl, Nat.le_of_ble_eq_true rfl⟩) (gC.preV hE hP hS 4 rfl (by decide) h6 [.ref a2]) rfl rfl hl.1 rfl (lv_room (Nat.le_of_ble_eq_true rfl)) dX4_read_62 ⟨(Nat.le_of_ble_eq_true rfl), (Nat.le_of_ble_eq_true rfl)⟩) hS (fun H locs hP hS => ?_)
        refine lv_iconst (v := 1) hx hb dX4_read_65 (by decide) ?_
        exact g_retZ hx hb hr (Or.inr rfl) hlocks hF hP hS (Nat.le_of_ble_eq_true rfl) (Nat.le_of_ble_eq_true rfl) dX4_read_66
      · have hF := g_f c4 hF
        refine lv_iload_n hx hb dX4_read_25 rfl (lv_at hl 1 rfl) ?_
        refine lv_iconst (v := 4) hx hb dX4_read_26 (by decide) ?_
        refine lv_iload_n hx hb dX4_read_27 rfl (lv_at hl 3 rfl) ?_
        refine lv_imul hx hb dX4_read_28 ?_
        refine lv_ishr hx hb dX4_read_29 ?_
        refine lv_istore (lv' := [(4, .int (x1 >>> ((((4 : Int32)) * x3) &&& 31))), (0, .ref a0), (1, .int x1), (2, .ref a2), (3, .int x3)]) hx hb dX4_read_30 hl (by decide) rfl (fun ls hl => ?_)
        refine lv_iload hx hb dX4_read_32 (lv_at hl 0 rfl) ?_
        refine lv_if_le (tgt := 54) hx hb dX4_read_34 (by decide) (fun c9 => ?_) (fun c9 => ?_)
        · have hF := g_t c9 hF
          exact HB54 _ _ _ _ _ _ _ _ hF hP hS (lv_sub hl [1, 2, 3, 4] rfl)
        · have hF := g_f c9 hF
          refine lv_aload_n hx hb dX4_read_37 rfl (lv_at hl 1 rfl) ?_
          refine lv_iload hx hb dX4_read_38 (lv_at hl 0 rfl) ?_
          refine lv_bipush (v := 15) hx hb dX4_read_40 (by decide) ?_
          refine lv_iand hx hb dX4_read_42 ?_
          refine lv_iconst (v := 1) hx hb dX4_read_43 (by decide) ?_
          refine lv_isub hx hb dX4_read_44 ?_
          refine lv_aload_n hx hb dX4_read_45 rfl (lv_at hl 3 rfl) ?_
          obtain ⟨h11, hF⟩ := g_if hF
          obtain ⟨v13, g12, h10, hF⟩ := g_bind2 hF
          refine g_calli (va_runV (As := [.int (((x1 >>> ((((4 : Int32)) * x3) &&& 31)) &&& ((15 : Int32))) - ((1 : Int32))), .ref a2]) (rest := []) ⟨hx, hb, hml, hown, hts⟩ (k4_append l D base g a0 (((x1 >>> ((((4 : Int32)) * x3) &&& 31)) &&& ((15 : Int32))) - ((1 : Int32))) a2 v13 g12 h10) (cwV 2 hts gX4_read_X4_append rfl rfl rfl (by decide +kernel) ⟨Nat.le_of_ble_eq_true rfl, Nat.le_of_ble_eq_true rfl⟩) (gC.preV hE hP hS 4 rfl (by decide) h11 [.int (((x1 >>> ((((4 : Int32)) * x3) &&& 31)) &&& ((15 : Int32))) - ((1 : Int32))), .ref a2]) rfl rfl hl.1 rfl (lv_room (Nat.le_of_ble_eq_true rfl)) dX4_read_46 ⟨(Nat.le_of_ble_eq_true rfl), (Nat.le_of_ble_eq_true rfl)⟩) hS (fun H locs hP hS => ?_)
          refine lv_if_ne (tgt := 54) hx hb dX4_read_49 (by decide) (fun c14 => ?_) (fun c14 => ?_)
          · have hF := g_f c14 hF
            exact HB54 _ _ _ _ _ _ _ _ hF hP hS (lv_sub hl [1, 2, 3, 4] rfl)
          · have hF := g_t c14 hF
            refine lv_iconst (v := 0) hx hb dX4_read_52 (by decide) ?_
            exact g_retZ hx hb hr (Or.inl rfl) hlocks hF hP hS (Nat.le_of_ble_eq_true rfl) (Nat.le_of_ble_eq_true rfl) dX4_read_53
  unfold f4_read at hF
  refine lv_aload_n hx hb dX4_read_0 rfl (lv_at hl 0 rfl) ?_
  refine lv_iconst (v := 0) hx hb dX4_read_1 (by decide) ?_
  obtain ⟨h1, hF⟩ := g_if hF
  refine g_puti hx hb hts hiX4 tyX4 tyX4_ok nmX4 hown hK hP hS 4 rfl (by decide) h1 0 (by decide) (hts (.fieldLink RX4 21 "CourierBees$Route" "length" "I") (by decide +kernel)) (fun _ h9 => h9) (Or.inl rfl) (Or.inl rfl) rfl rfl dX4_read_2 (fun H locs hP hS => ?_)
  refine lv_iload_n hx hb dX4_read_5 rfl (lv_at hl 1 rfl) ?_
  refine lv_iconst (v := 1) hx hb dX4_read_6 (by decide) ?_
  refine lv_icmp_lt (tgt := 16) hx hb dX4_read_7 (by decide) (fun c2 => ?_) (fun c2 => ?_)
  · have hF := g_t c2 hF
    refine lv_iconst (v := 0) hx hb dX4_read_16 (by decide) ?_
    exact g_retZ hx hb hr (Or.inl rfl) hlocks hF hP hS (Nat.le_of_ble_eq_true rfl) (Nat.le_of_ble_eq_true rfl) dX4_read_17
  · have hF := g_f c2 hF
    refine lv_iload_n hx hb dX4_read_10 rfl (lv_at hl 1 rfl) ?_
    refine lv_ldc (v := 268435456) hx hb hown (hts (.constant RX4 25 268435456) (by decide +kernel)) dX4_read_11 ?_
    refine lv_icmp_lt (tgt := 18) hx hb dX4_read_13 (by decide) (fun c3 => ?_) (fun c3 => ?_)
    · have hF := g_t c3 hF
      refine lv_bipush (v := 6) hx hb dX4_read_18 (by decide) ?_
      refine lv_istore_n (lv' := [(3, .int ((6 : Int32))), (0, .ref a0), (1, .int x1), (2, .ref a2)]) hx hb dX4_read_20 rfl hl (by decide) rfl (fun ls hl => ?_)
      exact HL21 300 _ _ _ _ _ _ _ _ hF hP hS (lv_sub hl [1, 2, 3, 0] rfl)
    · have hF := g_f c3 hF
      refine lv_iconst (v := 0) hx hb dX4_read_16 (by decide) ?_
      exact g_retZ hx hb hr (Or.inl rfl) hlocks hF hP hS (Nat.le_of_ble_eq_true rfl) (Nat.le_of_ble_eq_true rfl) dX4_read_17
