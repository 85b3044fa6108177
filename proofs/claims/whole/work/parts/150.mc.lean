section
set_option maxHeartbeats 4000000 in
set_option maxRecDepth 100000 in
theorem k7_init (l : Launch) (D : va_G) (base : Nat) (g : g_H) (a0 : Nat) (gz : g_H) (hF : f7_init g a0 = some gz) : Met l yX7_init wsX7_init ({ frames := 1, cells := 8, slots := 528, locals := 22 } : Room) (va_Pc [.ref a0] (gC base D g)) (gQv base D gz) 8 528 (gA base) := by
  refine g_met (cc := cX7_init) (maxL := 1) (ret := none) (lst := [(0, .ref a0)]) (by decide) rfl (Nat.le_of_ble_eq_true rfl) rfl ?_
  intro p e s m args below meth c ls hx hb hr hml hown hlocks hname hts hE hP hl
  have hown : s.vm.findClass RX7 = some m.cls := hown
  have hK := hE.1
  have hov := hE.2.2.2.2.2.2.2.1
  have hbz := hE.2.2.2.2.2.2.2.2.2.2.2.2
  have hS : va_S (gA base) s.heap s.heap [] := va_S.rf
  have hiX7 : ∀ w ∈ wsX70, w ∈ wsX7_init := by decide +kernel
  unfold f7_init at hF
  refine lv_aload_n hx hb dX7_init_0 rfl (lv_at hl 0 rfl) ?_
  refine W.objInit hx hb hown (hts (.methodLink RX7 1 objectInit) (by decide +kernel)) (hts (.instanceMethod objectInit) (by decide +kernel)) (hts (.code objectInit ⟨#[0xb1]⟩ 1 none) (by decide +kernel)) rfl (by rw [hml]; exact hl.1) rfl dX7_init_1 (Nat.le_of_ble_eq_true rfl) (Nat.le_of_ble_eq_true rfl) ?_
  refine W.eq (g2 := F0 m 4 ls []) rfl ?_
  refine lv_aload_n hx hb dX7_init_4 rfl (lv_at hl 0 rfl) ?_
  refine lv_bipush (v := 14) hx hb dX7_init_5 (by decide) ?_
  obtain ⟨q1, g2, e3, e4, h5, hF⟩ := g_nw hF
  refine g_newa (atype := .boolean) hx hb (hts (.arrayClass .boolean) (by decide +kernel)) 12 rfl (by decide) rfl hP hS hbz (n := 14) (N' := 14) (by decide) (by decide) (Nat.le_of_ble_eq_true rfl) (Nat.le_of_ble_eq_true rfl) (Nat.le_of_ble_eq_true rfl) dX7_init_7 (fun H hP hS => ?_)
  rw [e4] at hP
  rw [e3]
  obtain ⟨h6, hF⟩ := g_if hF
  refine g_putr hx hb hts hiX7 tyX7 tyX7_ok nmX7 hown hK hP hS 7 rfl (by decide) h6 2 (by decide) (hts (.fieldLink RX7 9 "CourierBeesModel" "hives" "[Z") (by decide +kernel)) (fun _ h9 => h9) (Or.inr ⟨rfl, hname, rfl⟩) (by decide) rfl rfl dX7_init_9 (fun H locs hP hS => ?_)
  refine lv_aload_n hx hb dX7_init_12 rfl (lv_at hl 0 rfl) ?_
  refine lv_bipush (v := 120) hx hb dX7_init_13 (by decide) ?_
  obtain ⟨q7, g8, e9, e10, h11, hF⟩ := g_nw hF
  refine g_newa (atype := .int) hx hb (hts (.arrayClass .int) (by decide +kernel)) 11 rfl (by decide) rfl hP hS hbz (n := 120) (N' := 120) (by decide) (by decide) (Nat.le_of_ble_eq_true rfl) (Nat.le_of_ble_eq_true rfl) (Nat.le_of_ble_eq_true rfl) dX7_init_15 (fun H hP hS => ?_)
  rw [e10] at hP
  rw [e9]
  obtain ⟨h12, hF⟩ := g_if hF
  refine g_putr hx hb hts hiX7 tyX7 tyX7_ok nmX7 hown hK hP hS 7 rfl (by decide) h12 4 (by decide) (hts (.fieldLink RX7 13 "CourierBeesModel" "roads" "[I") (by decide +kernel)) (fun _ h9 => h9) (Or.inr ⟨rfl, hname, rfl⟩) (by decide) rfl rfl dX7_init_17 (fun H locs hP hS => ?_)
  refine lv_aload_n hx hb dX7_init_20 rfl (lv_at hl 0 rfl) ?_
  refine lv_sipush (v := 196) hx hb dX7_init_21 (by decide) ?_
  obtain ⟨q13, g14, e15, e16, h17, hF⟩ := g_nw hF
  refine g_newa (atype := .int) hx hb (hts (.arrayClass .int) (by decide +kernel)) 11 rfl (by decide) rfl hP hS hbz (n := 196) (N' := 196) (by decide) (by decide) (Nat.le_of_ble_eq_true rfl) (Nat.le_of_ble_eq_true rfl) (Nat.le_of_ble_eq_true rfl) dX7_init_24 (fun H hP hS => ?_)
  rw [e16] at hP
  rw [e15]
  obtain ⟨h18, hF⟩ := g_if hF
  refine g_putr hx hb hts hiX7 tyX7 tyX7_ok nmX7 hown hK hP hS 7 rfl (by decide) h18 5 (by decide) (hts (.fieldLink RX7 17 "CourierBeesModel" "ways" "[I") (by decide +kernel)) (fun _ h9 => h9) (Or.inr ⟨rfl, hname, rfl⟩) (by decide) rfl rfl dX7_init_26 (fun H locs hP hS => ?_)
  refine lv_aload_n hx hb dX7_init_29 rfl (lv_at hl 0 rfl) ?_
  refine lv_bipush (v := 48) hx hb dX7_init_30 (by decide) ?_
  obtain ⟨q19, g20, e21, e22, h23, hF⟩ := g_nw hF
  refine g_newa (atype := .int) hx hb (hts (.arrayClass .int) (by decide +kernel)) 11 rfl (by decide) rfl hP hS hbz (n := 48) (N' := 48) (by decide) (by decide) (Nat.le_of_ble_eq_true rfl) (Nat.le_of_ble_eq_true rfl) (Nat.le_of_ble_eq_true rfl) dX7_init_32 (fun H hP hS => ?_)
  rw [e22] at hP
  rw [e21]
  obtain ⟨h24, hF⟩ := g_if hF
  refine g_putr hx hb hts hiX7 tyX7 tyX7_ok nmX7 hown hK hP hS 7 rfl (by decide) h24 7 (by decide) (hts (.fieldLink RX7 20 "CourierBeesModel" "swarm" "[I") (by decide +kernel)) (fun _ h9 => h9) (Or.inr ⟨rfl, hname, rfl⟩) (by decide) rfl rfl dX7_init_34 (fun H locs hP hS => ?_)
  refine lv_aload_n hx hb dX7_init_37 rfl (lv_at hl 0 rfl) ?_
  refine lv_bipush (v := 42) hx hb dX7_init_38 (by decide) ?_
  obtain ⟨q25, g26, e27, e28, h29, hF⟩ := g_nw hF
  refine g_newa (atype := .int) hx hb (hts (.arrayClass .int) (by decide +kernel)) 11 rfl (by decide) rfl hP hS hbz (n := 42) (N' := 42) (by decide) (by decide) (Nat.le_of_ble_eq_true rfl) (Nat.le_of_ble_eq_true rfl) (Nat.le_of_ble_eq_true rfl) dX7_init_40 (fun H hP hS => ?_)
  rw [e28] at hP
  rw [e27]
  obtain ⟨h30, hF⟩ := g_if hF
  refine g_putr hx hb hts hiX7 tyX7 tyX7_ok nmX7 hown hK hP hS 7 rfl (by decide) h30 8 (by decide) (hts (.fieldLink RX7 23 "CourierBeesModel" "routes" "[I") (by decide +kernel)) (fun _ h9 => h9) (Or.inr ⟨rfl, hname, rfl⟩) (by decide) rfl rfl dX7_init_42 (fun H locs hP hS => ?_)
  refine lv_aload_n hx hb dX7_init_45 rfl (lv_at hl 0 rfl) ?_
  refine lv_bipush (v := 100) hx hb dX7_init_46 (by decide) ?_
  obtain ⟨q31, g32, e33, e34, h35, hF⟩ := g_nw hF
  refine g_newa (atype := .int) hx hb (hts (.arrayClass .int) (by decide +kernel)) 11 rfl (by decide) rfl hP hS hbz (n := 100) (N' := 100) (by decide) (by decide) (Nat.le_of_ble_eq_true rfl) (Nat.le_of_ble_eq_true rfl) (Nat.le_of_ble_eq_true rfl) dX7_init_48 (fun H hP hS => ?_)
  rw [e34] at hP
  rw [e33]
  obtain ⟨h36, hF⟩ := g_if hF
  refine g_putr hx hb hts hiX7 tyX7 tyX7_ok nmX7 hown hK hP hS 7 rfl (by decide) h36 10 (by decide) (hts (.fieldLink RX7 26 "CourierBeesModel" "post" "[I") (by decide +kernel)) (fun _ h9 => h9) (Or.inr ⟨rfl, hname, rfl⟩) (by decide) rfl rfl dX7_init_50 (fun H locs hP hS => ?_)
  refine lv_aload_n hx hb dX7_init_53 rfl (lv_at hl 0 rfl) ?_
  refine lv_iconst (v := 1) hx hb dX7_init_54 (by decide) ?_
  obtain ⟨q37, g38, e39, e40, h41, hF⟩ := g_nw hF
  refine g_newa (atype := .int) hx hb (hts (.arrayClass .int) (by decide +kernel)) 11 rfl (by decide) rfl hP hS hbz (n := 1) (N' := 1) (by decide) (by decide) (Nat.le_of_ble_eq_true rfl) (Nat.le_of_ble_eq_true rfl) (Nat.le_of_ble_eq_true rfl) dX7_init_55 (fun H hP hS => ?_)
  rw [e40] at hP
  rw [e39]
  refine lv_dup hx hb dX7_init_57 rfl ?_
  refine lv_iconst (v := 0) hx hb dX7_init_58 (by decide) ?_
  refine lv_iconst (v := 0) hx hb dX7_init_59 (by decide) ?_
  obtain ⟨h42, hF⟩ := g_if hF
  refine g_iast hx hb hP hS (g_pr h41) h42 dX7_init_60 (fun H locs hP hS => ?_)
  obtain ⟨h43, hF⟩ := g_if hF
  refine g_putr hx hb hts hiX7 tyX7 tyX7_ok nmX7 hown hK hP hS 7 rfl (by decide) h43 11 (by decide) (hts (.fieldLink RX7 29 "CourierBeesModel" "quarter" "[I") (by decide +kernel)) (fun _ h9 => h9) (Or.inr ⟨rfl, hname, rfl⟩) (by decide) rfl rfl dX7_init_61 (fun H locs hP hS => ?_)
  refine lv_aload_n hx hb dX7_init_64 rfl (lv_at hl 0 rfl) ?_
  refine lv_bipush (v := 7) hx hb dX7_init_65 (by decide) ?_
  obtain ⟨q44, g45, e46, e47, h48, hF⟩ := g_nw hF
  refine g_newa (atype := .int) hx hb (hts (.arrayClass .int) (by decide +kernel)) 11 rfl (by decide) rfl hP hS hbz (n := 7) (N' := 7) (by decide) (by decide) (Nat.le_of_ble_eq_true rfl) (Nat.le_of_ble_eq_true rfl) (Nat.le_of_ble_eq_true rfl) dX7_init_67 (fun H hP hS => ?_)
  rw [e47] at hP
  rw [e46]
  obtain ⟨h49, hF⟩ := g_if hF
  refine g_putr hx hb hts hiX7 tyX7 tyX7_ok nmX7 hown hK hP hS 7 rfl (by decide) h49 12 (by decide) (hts (.fieldLink RX7 32 "CourierBeesModel" "row" "[I") (by decide +kernel)) (fun _ h9 => h9) (Or.inr ⟨rfl, hname, rfl⟩) (by decide) rfl rfl dX7_init_69 (fun H locs hP hS => ?_)
  exact g_retV hx hb hr hlocks hF hP hS (Nat.le_of_ble_eq_true rfl) (Nat.le_of_ble_eq_true rfl) dX7_init_72
set_option maxHeartbeats 4000000 in
set_option maxRecDepth 100000 in
theorem k7_thrown (l : Launch) (D : va_G) (base : Nat) (g : g_H) (a0 : Nat) (rr : Int32) (gz : g_H) (hF : f7_thrown g a0 = some (rr, gz)) : Met l yX7_thrown wsX7_thrown ({ frames := 0, cells := 0, slots := 0, locals := 0 } : Room) (va_Pc [.ref a0] (gC base D g)) (gQi base D rr gz) 0 0 (gA base) := by
  refine g_met (cc := cX7_thrown) (maxL := 1) (ret := (some .int)) (lst := [(0, .ref a0)]) (by decide) rfl (Nat.le_of_ble_eq_true rfl) rfl ?_
  intro p e s m args below meth c ls hx hb hr hml hown hlocks hname hts hE hP hl
  have hown : s.vm.findClass RX7 = some m.cls := hown
  have hK := hE.1
  have hov := hE.2.2.2.2.2.2.2.1
  have hbz := hE.2.2.2.2.2.2.2.2.2.2.2.2
  have hS : va_S (gA base) s.heap s.heap [] := va_S.rf
  have hiX7 : ∀ w ∈ wsX70, w ∈ wsX7_thrown := by decide +kernel
  unfold f7_thrown at hF
  refine lv_aload_n hx hb dX7_thrown_0 rfl (lv_at hl 0 rfl) ?_
  obtain ⟨h1, hF⟩ := g_if hF
  refine g_get hx hb hts hiX7 hown hK hP 7 rfl (by decide) h1 0 (by decide) (hts (.fieldLink RX7 35 "CourierBeesModel" "thrown" "I") (by decide +kernel)) (fun _ h9 => h9) (gFv_i (Or.inl rfl)) dX7_thrown_1 ?_
  exact g_retI hx hb hr hlocks hF hP hS (Nat.le_of_ble_eq_true rfl) (Nat.le_of_ble_eq_true rfl) dX7_thrown_4
set_option maxHeartbeats 4000000 in
set_option maxRecDepth 100000 in
theorem k7_fail (l : Launch) (D : va_G) (base : Nat) (g : g_H) (a0 : Nat) (x1 : Int32) (rr : Int32) (gz : g_H) (hF : f7_fail g a0 x1 = some (rr, gz)) : Met l yX7_fail wsX7_fail ({ frames := 0, cells := 0, slots := 0, locals := 0 } : Room) (va_Pc [.ref a0, .int x1] (gC base D g)) (gQi base D rr gz) 0 0 (gA base) := by
  refine g_met (cc := cX7_fail) (maxL := 2) (ret := (some .int)) (lst := [(0, .ref a0), (1, .int x1)]) (by decide) rfl (Nat.le_of_ble_eq_true rfl) rfl ?_
  intro p e s m args below meth c ls hx hb hr hml hown hlocks hname hts hE hP hl
  have hown : s.vm.findClass RX7 = some m.cls := hown
  have hK := hE.1
  have hov := hE.2.2.2.2.2.2.2.1
  have hbz := hE.2.2.2.2.2.2.2.2.2.2.2.2
  have hS : va_S (gA base) s.heap s.heap [] := va_S.rf
  have hiX7 : ∀ w ∈ wsX70, w ∈ wsX7_fail := by decide +kernel
  unfold f7_fail at hF
  refine lv_aload_n hx hb dX7_fail_0 rfl (lv_at hl 0 rfl) ?_
  refine lv_iload_n hx hb dX7_fail_1 rfl (lv_at hl 1 rfl) ?_
  obtain ⟨h1, hF⟩ := g_if hF
  refine g_puti hx hb hts hiX7 tyX7 tyX7_ok nmX7 hown hK hP hS 7 rfl (by decide) h1 0 (by decide) (hts (.fieldLink RX7 35 "CourierBeesModel" "thrown" "I") (by decide +kernel)) (fun _ h9 => h9) (Or.inl rfl) (Or.inl rfl) rfl rfl dX7_fail_2 (fun H locs hP hS => ?_)
  refine lv_iconst (v := 0) hx hb dX7_fail_5 (by decide) ?_
  exact g_retI hx hb hr hlocks hF hP hS (Nat.le_of_ble_eq_true rfl) (Nat.le_of_ble_eq_true rfl) dX7_fail_6
set_option maxHeartbeats 4000000 in
set_option maxRecDepth 100000 in
theorem k7_isIn (l : Launch) (D : va_G) (base : Nat) (g : g_H) (x0 : Int32) (x1 : Int32) (x2 : Int32) (rr : Int32) (gz : g_H) (hF : f7_isIn g x0 x1 x2 = some (rr, gz)) : Met l yX7_isIn wsX7_isIn ({ frames := 0, cells := 0, slots := 0, locals := 0 } : Room) (va_Pc [.int x0, .int x1, .int x2] (gC base D g)) (gQi base D rr gz) 0 0 (gA base) := by
  refine g_met (cc := cX7_isIn) (maxL := 3) (ret := (some .boolean)) (lst := [(0, .int x0), (1, .int x1), (2, .int x2)]) (by decide) rfl (Nat.le_of_ble_eq_true rfl) rfl ?_
  intro p e s m args below meth c ls hx hb hr hml hown hlocks hname hts hE hP hl
  have hown : s.vm.findClass RX7 = some m.cls := hown
  have hK := hE.1
  have hov := hE.2.2.2.2.2.2.2.1
  have hbz := hE.2.2.2.2.2.2.2.2.2.2.2.2
  have hS : va_S (gA base) s.heap s.heap [] := va_S.rf
  unfold f7_isIn at hF
  refine lv_iload_n hx hb dX7_isIn_0 rfl (lv_at hl 0 rfl) ?_
  refine lv_iload_n hx hb dX7_isIn_1 rfl (lv_at hl 1 rfl) ?_
  refine lv_icmp_lt (tgt := 14) hx hb dX7_isIn_2 (by decide) (fun c1 => ?_) (fun c1 => ?_)
  · have hF := g_t c1 hF
    refine lv_iconst (v := 0) hx hb dX7_isIn_14 (by decide) ?_
    exact g_retZ hx hb hr (Or.inl rfl) hlocks hF hP hS (Nat.le_of_ble_eq_true rfl) (Nat.le_of_ble_eq_true rfl) dX7_isIn_15
  · have hF := g_f c1 hF
    refine lv_iload_n hx hb dX7_isIn_5 rfl (lv_at hl 0 rfl) ?_
    refine lv_iload_n hx hb dX7_isIn_6 rfl (lv_at hl 2 rfl) ?_
    refine lv_icmp_gt (tgt := 14) hx hb dX7_isIn_7 (by decide) (fun c2 => ?_) (fun c2 => ?_)
    · have hF := g_t c2 hF
      refine lv_iconst (v := 0) hx hb dX7_isIn_14 (by decide) ?_
      exact g_retZ hx hb hr (Or.inl rfl) hlocks hF hP hS (Nat.le_of_ble_eq_true rfl) (Nat.le_of_ble_eq_true rfl) dX7_isIn_15
    · have hF := g_f c2 hF
      refine lv_iconst (v := 1) hx hb dX7_isIn_10 (by decide) ?_
      refine lv_goto (tgt := 15) hx hb dX7_isIn_11 (by decide) ?_
      exact g_retZ hx hb hr (Or.inr rfl) hlocks hF hP hS (Nat.le_of_ble_eq_true rfl) (Nat.le_of_ble_eq_true rfl) dX7_isIn_15
set_option maxHeartbeats 4000000 in
set_option maxRecDepth 100000 in
theorem k7_isHouse (l : Launch) (D : va_G) (base : Nat) (g : g_H) (a0 : Nat) (x1 : Int32) (rr : Int32) (gz : g_H) (hF : f7_isHouse g a0 x1 = some (rr, gz)) : Met l yX7_isHouse wsX7_isHouse ({ frames := 1, cells := 0, slots := 0, locals := 22 } : Room) (va_Pc [.ref a0, .int x1] (gC base D g)) (gQi base D rr gz) 0 0 (gA base) := by
  refine g_met (cc := cX7_isHouse) (maxL := 2) (ret := (some .boolean)) (lst := [(0, .ref a0), (1, .int x1)]) (by decide) rfl (Nat.le_of_ble_eq_true rfl) rfl ?_
  intro p e s m args below meth c ls hx hb hr hml hown hlocks hname hts hE hP hl
  have hown : s.vm.findClass RX7 = some m.cls := hown
  have hK := hE.1
  have hov := hE.2.2.2.2.2.2.2.1
  have hbz := hE.2.2.2.2.2.2.2.2.2.2.2.2
  have hS : va_S (gA base) s.heap s.heap [] := va_S.rf
  have hiX7 : ∀ w ∈ wsX70, w ∈ wsX7_isHouse := by decide +kernel
  unfold f7_isHouse at hF
  refine lv_iload_n hx hb dX7_isHouse_0 rfl (lv_at hl 1 rfl) ?_
  refine lv_iconst (v := 0) hx hb dX7_isHouse_1 (by decide) ?_
  refine lv_aload_n hx hb dX7_isHouse_2 rfl (lv_at hl 0 rfl) ?_
  obtain ⟨h1, hF⟩ := g_if hF
  refine g_get hx hb hts hiX7 hown hK hP 7 rfl (by decide) h1 1 (by decide) (hts (.fieldLink RX7 39 "CourierBeesModel" "houses" "I") (by decide +kernel)) (fun _ h9 => h9) (gFv_i (Or.inl rfl)) dX7_isHouse_3 ?_
  refine lv_iconst (v := 1) hx hb dX7_isHouse_6 (by decide) ?_
  refine lv_isub hx hb dX7_isHouse_7 ?_
  obtain ⟨v4, g3, h2, hF⟩ := g_bind2 hF
  refine g_calli (va_runS (As := [.int x1, .int ((0 : Int32)), .int ((gI g a0 1) - ((1 : Int32)))]) (rest := []) ⟨hx, hb, hml, hown, hts⟩ (k7_isIn l D base g x1 ((0 : Int32)) ((gI g a0 1) - ((1 : Int32))) v4 g3 h2) (va_cwS 3 hts gX7_isHouse_X7_isIn rfl rfl rfl (by decide +kernel) ⟨Nat.le_of_ble_eq_true rfl, Nat.le_of_ble_eq_true rfl⟩) (gC.preS hE hP hS [.int x1, .int ((0 : Int32)), .int ((gI g a0 1) - ((1 : Int32)))]) rfl rfl hl.1 rfl (lv_room (Nat.le_of_ble_eq_true rfl)) dX7_isHouse_8 ⟨(Nat.le_of_ble_eq_true rfl), (Nat.le_of_ble_eq_true rfl)⟩) hS (fun H locs hP hS => ?_)
  obtain ⟨h5, hF⟩ := g_if hF
  exact g_retZ hx hb hr h5 hlocks hF hP hS (Nat.le_of_ble_eq_true rfl) (Nat.le_of_ble_eq_true rfl) dX7_isHouse_11
set_option maxHeartbeats 4000000 in
set_option maxRecDepth 100000 in
theorem k7_isLane (l : Launch) (D : va_G) (base : Nat) (g : g_H) (a0 : Nat) (x1 : Int32) (rr : Int32) (gz : g_H) (hF : f7_isLane g a0 x1 = some (rr, gz)) : Met l yX7_isLane wsX7_isLane ({ frames := 1, cells := 0, slots := 0, locals := 22 } : Room) (va_Pc [.ref a0, .int x1] (gC base D g)) (gQi base D rr gz) 0 0 (gA base) := by
  refine g_met (cc := cX7_isLane) (maxL := 2) (ret := (some .boolean)) (lst := [(0, .ref a0), (1, .int x1)]) (by decide) rfl (Nat.le_of_ble_eq_true rfl) rfl ?_
  intro p e s m args below meth c ls hx hb hr hml hown hlocks hname hts hE hP hl
  have hown : s.vm.findClass RX7 = some m.cls := hown
  have hK := hE.1
  have hov := hE.2.2.2.2.2.2.2.1
  have hbz := hE.2.2.2.2.2.2.2.2.2.2.2.2
  have hS : va_S (gA base) s.heap s.heap [] := va_S.rf
  have hiX7 : ∀ w ∈ wsX70, w ∈ wsX7_isLane := by decide +kernel
  unfold f7_isLane at hF
  refine lv_iload_n hx hb dX7_isLane_0 rfl (lv_at hl 1 rfl) ?_
  refine lv_iconst (v := 0) hx hb dX7_isLane_1 (by decide) ?_
  refine lv_aload_n hx hb dX7_isLane_2 rfl (lv_at hl 0 rfl) ?_
  obtain ⟨h1, hF⟩ := g_if hF
  refine g_get hx hb hts hiX7 hown hK hP 7 rfl (by decide) h1 3 (by decide) (hts (.fieldLink RX7 46 "CourierBeesModel" "lanes" "I") (by decide +kernel)) (fun _ h9 => h9) (gFv_i (Or.inl rfl)) dX7_isLane_3 ?_
  refine lv_iconst (v := 1) hx hb dX7_isLane_6 (by decide) ?_
  refine lv_isub hx hb dX7_isLane_7 ?_
  obtain ⟨v4, g3, h2, hF⟩ := g_bind2 hF
  refine g_calli (va_runS (As := [.int x1, .int ((0 : Int32)), .int ((gI g a0 3) - ((1 : Int32)))]) (rest := []) ⟨hx, hb, hml, hown, hts⟩ (k7_isIn l D base g x1 ((0 : Int32)) ((gI g a0 3) - ((1 : Int32))) v4 g3 h2) (va_cwS 3 hts gX7_isLane_X7_isIn rfl rfl rfl (by decide +kernel) ⟨Nat.le_of_ble_eq_true rfl, Nat.le_of_ble_eq_true rfl⟩) (gC.preS hE hP hS [.int x1, .int ((0 : Int32)), .int ((gI g a0 3) - ((1 : Int32)))]) rfl rfl hl.1 rfl (lv_room (Nat.le_of_ble_eq_true rfl)) dX7_isLane_8 ⟨(Nat.le_of_ble_eq_true rfl), (Nat.le_of_ble_eq_true rfl)⟩) hS (fun H locs hP hS => ?_)
  obtain ⟨h5, hF⟩ := g_if hF
  exact g_retZ hx hb hr h5 hlocks hF hP hS (Nat.le_of_ble_eq_true rfl) (Nat.le_of_ble_eq_true rfl) dX7_isLane_11
set_option maxHeartbeats 4000000 in
set_option maxRecDepth 100000 in
theorem k7_isBee (l : Launch) (D : va_G) (base : Nat) (g : g_H) (a0 : Nat) (x1 : Int32) (rr : Int32) (gz : g_H) (hF : f7_isBee g a0 x1 = some (rr, gz)) : Met l yX7_isBee wsX7_isBee ({ frames := 1, cells := 0, slots := 0, locals := 22 } : Room) (va_Pc [.ref a0, .int x1] (gC base D g)) (gQi base D rr gz) 0 0 (gA base) := by
  refine g_met (cc := cX7_isBee) (maxL := 2) (ret := (some .boolean)) (lst := [(0, .ref a0), (1, .int x1)]) (by decide) rfl (Nat.le_of_ble_eq_true rfl) rfl ?_
  intro p e s m args below meth c ls hx hb hr hml hown hlocks hname hts hE hP hl
  have hown : s.vm.findClass RX7 = some m.cls := hown
  have hK := hE.1
  have hov := hE.2.2.2.2.2.2.2.1
  have hbz := hE.2.2.2.2.2.2.2.2.2.2.2.2
  have hS : va_S (gA base) s.heap s.heap [] := va_S.rf
  have hiX7 : ∀ w ∈ wsX70, w ∈ wsX7_isBee := by decide +kernel
  unfold f7_isBee at hF
  refine lv_iload_n hx hb dX7_isBee_0 rfl (lv_at hl 1 rfl) ?_
  refine lv_iconst (v := 0) hx hb dX7_isBee_1 (by decide) ?_
  refine lv_aload_n hx hb dX7_isBee_2 rfl (lv_at hl 0 rfl) ?_
  obtain ⟨h1, hF⟩ := g_if hF
  refine g_get hx hb hts hiX7 hown hK hP 7 rfl (by decide) h1 6 (by decide) (hts (.fieldLink RX7 49 "CourierBeesModel" "bees" "I") (by decide +kernel)) (fun _ h9 => h9) (gFv_i (Or.inl rfl)) dX7_isBee_3 ?_
  refine lv_iconst (v := 1) hx hb dX7_isBee_6 (by decide) ?_
  refine lv_isub hx hb dX7_isBee_7 ?_
  obtain ⟨v4, g3, h2, hF⟩ := g_bind2 hF
  refine g_calli (va_runS (As := [.int x1, .int ((0 : Int32)), .int ((gI g a0 6) - ((1 : Int32)))]) (rest := []) ⟨hx, hb, hml, hown, hts⟩ (k7_isIn l D base g x1 ((0 : Int32)) ((gI g a0 6) - ((1 : Int32))) v4 g3 h2) (va_cwS 3 hts gX7_isBee_X7_isIn rfl rfl rfl (by decide +kernel) ⟨Nat.le_of_ble_eq_true rfl, Nat.le_of_ble_eq_true rfl⟩) (gC.preS hE hP hS [.int x1, .int ((0 : Int32)), .int ((gI g a0 6) - ((1 : Int32)))]) rfl rfl hl.1 rfl (lv_room (Nat.le_of_ble_eq_true rfl)) dX7_isBee_8 ⟨(Nat.le_of_ble_eq_true rfl), (Nat.le_of_ble_eq_true rfl)⟩) hS (fun H locs hP hS => ?_)
  obtain ⟨h5, hF⟩ := g_if hF
  exact g_retZ hx hb hr h5 hlocks hF hP hS (Nat.le_of_ble_eq_true rfl) (Nat.le_of_ble_eq_true rfl) dX7_isBee_11
set_option maxHeartbeats 4000000 in
set_option maxRecDepth 100000 in
theorem k7_isLetter (l : Launch) (D : va_G) (base : Nat) (g : g_H) (a0 : Nat) (x1 : Int32) (rr : Int32) (gz : g_H) (hF : f7_isLetter g a0 x1 = some (rr, gz)) : Met l yX7_isLetter wsX7_isLetter ({ frames := 1, cells := 0, slots := 0, locals := 22 } : Room) (va_Pc [.ref a0, .int x1] (gC base D g)) (gQi base D rr gz) 0 0 (gA base) := by
  refine g_met (cc := cX7_isLetter) (maxL := 2) (ret := (some .boolean)) (lst := [(0, .ref a0), (1, .int x1)]) (by decide) rfl (Nat.le_of_ble_eq_true rfl) rfl ?_
  intro p e s m args below meth c ls hx hb hr hml hown hlocks hname hts hE hP hl
  have hown : s.vm.findClass RX7 = some m.cls := hown
  have hK := hE.1
  have hov := hE.2.2.2.2.2.2.2.1
  have hbz := hE.2.2.2.2.2.2.2.2.2.2.2.2
  have hS : va_S (gA base) s.heap s.heap [] := va_S.rf
  have hiX7 : ∀ w ∈ wsX70, w ∈ wsX7_isLetter := by decide +kernel
  unfold f7_isLetter at hF
  refine lv_iload_n hx hb dX7_isLetter_0 rfl (lv_at hl 1 rfl) ?_
  refine lv_iconst (v := 0) hx hb dX7_isLetter_1 (by decide) ?_
  refine lv_aload_n hx hb dX7_isLetter_2 rfl (lv_at hl 0 rfl) ?_
  obtain ⟨h1, hF⟩ := g_if hF
  refine g_get hx hb hts hiX7 hown hK hP 7 rfl (by decide) h1 9 (by decide) (hts (.fieldLink RX7 52 "CourierBeesModel" "letters" "I") (by decide +kernel)) (fun _ h9 => h9) (gFv_i (Or.inl rfl)) dX7_isLetter_3 ?_
  refine lv_iconst (v := 1) hx hb dX7_isLetter_6 (by decide) ?_
  refine lv_isub hx hb dX7_isLetter_7 ?_
  obtain ⟨v4, g3, h2, hF⟩ := g_bind2 hF
  refine g_calli (va_runS (As := [.int x1, .int ((0 : Int32)), .int ((gI g a0 9) - ((1 : Int32)))]) (rest := []) ⟨hx, hb, hml, hown, hts⟩ (k7_isIn l D base g x1 ((0 : Int32)) ((gI g a0 9) - ((1 : Int32))) v4 g3 h2) (va_cwS 3 hts gX7_isLetter_X7_isIn rfl rfl rfl (by decide +kernel) ⟨Nat.le_of_ble_eq_true rfl, Nat.le_of_ble_eq_true rfl⟩) (gC.preS hE hP hS [.int x1, .int ((0 : Int32)), .int ((gI g a0 9) - ((1 : Int32)))]) rfl rfl hl.1 rfl (lv_room (Nat.le_of_ble_eq_true rfl)) dX7_isLetter_8 ⟨(Nat.le_of_ble_eq_true rfl), (Nat.le_of_ble_eq_true rfl)⟩) hS (fun H locs hP hS => ?_)
  obtain ⟨h5, hF⟩ := g_if hF
  exact g_retZ hx hb hr h5 hlocks hF hP hS (Nat.le_of_ble_eq_true rfl) (Nat.le_of_ble_eq_true rfl) dX7_isLetter_11
set_option maxHeartbeats 4000000 in
set_option maxRecDepth 100000 in
theorem k7_ro (l : Launch) (D : va_G) (base : Nat) (g : g_H) (a0 : Nat) (x1 : Int32) (x2 : Int32) (rr : Int32) (gz : g_H) (hF : f7_ro g a0 x1 x2 = some (rr, gz)) : Met l yX7_ro wsX7_ro ({ frames := 0, cells := 0, slots := 0, locals := 0 } : Room) (va_Pc [.ref a0, .int x1, .int x2] (gC base D g)) (gQi base D rr gz) 0 0 (gA base) := by
  refine g_met (cc := cX7_ro) (maxL := 3) (ret := (some .int)) (lst := [(0, .ref a0), (1, .int x1), (2, .int x2)]) (by decide) rfl (Nat.le_of_ble_eq_true rfl) rfl ?_
  intro p e s m args below meth c ls hx hb hr hml hown hlocks hname hts hE hP hl
  have hown : s.vm.findClass RX7 = some m.cls := hown
  have hK := hE.1
  have hov := hE.2.2.2.2.2.2.2.1
  have hbz := hE.2.2.2.2.2.2.2.2.2.2.2.2
  have hS : va_S (gA base) s.heap s.heap [] := va_S.rf
  have hiX7 : ∀ w ∈ wsX70, w ∈ wsX7_ro := by decide +kernel
  unfold f7_ro at hF
  refine lv_aload_n hx hb dX7_ro_0 rfl (lv_at hl 0 rfl) ?_
  obtain ⟨h1, hF⟩ := g_if hF
  obtain ⟨q2, hq3, hF⟩ := g_bind hF
  refine g_get hx hb hts hiX7 hown hK hP 7 rfl (by decide) h1 4 (by decide) (hts (.fieldLink RX7 13 "CourierBeesModel" "roads" "[I") (by decide +kernel)) (fun _ h9 => h9) ((gFv_r (by decide)).trans (congrArg va_rf hq3)) dX7_ro_1 ?_
  refine lv_iconst (v := 5) hx hb dX7_ro_4 (by decide) ?_
  refine lv_iload_n hx hb dX7_ro_5 rfl (lv_at hl 1 rfl) ?_
  refine lv_imul hx hb dX7_ro_6 ?_
  refine lv_iload_n hx hb dX7_ro_7 rfl (lv_at hl 2 rfl) ?_
  refine lv_iadd hx hb dX7_ro_8 ?_
  obtain ⟨h4, hF⟩ := g_if hF
  obtain ⟨h5, hF⟩ := g_if hF
  refine g_iald hx hb hP (g_pr h4) h5 dX7_ro_9 ?_
  exact g_retI hx hb hr hlocks hF hP hS (Nat.le_of_ble_eq_true rfl) (Nat.le_of_ble_eq_true rfl) dX7_ro_10
set_option maxHeartbeats 4000000 in
set_option maxRecDepth 100000 in
theorem k7_be (l : Launch) (D : va_G) (base : Nat) (g : g_H) (a0 : Nat) (x1 : Int32) (x2 : Int32) (rr : Int32) (gz : g_H) (hF : f7_be g a0 x1 x2 = some (rr, gz)) : Met l yX7_be wsX7_be ({ frames := 0, cells := 0, slots := 0, locals := 0 } : Room) (va_Pc [.ref a0, .int x1, .int x2] (gC base D g)) (gQi base D rr gz) 0 0 (gA base) := by
  refine g_met (cc := cX7_be) (maxL := 3) (ret := (some .int)) (lst := [(0, .ref a0), (1, .int x1), (2, .int x2)]) (by decide) rfl (Nat.le_of_ble_eq_true rfl) rfl ?_
  intro p e s m args below meth c ls hx hb hr hml hown hlocks hname hts hE hP hl
  have hown : s.vm.findClass RX7 = some m.cls := hown
  have hK := hE.1
  have hov := hE.2.2.2.2.2.2.2.1
  have hbz := hE.2.2.2.2.2.2.2.2.2.2.2.2
  have hS : va_S (gA base) s.heap s.heap [] := va_S.rf
  have hiX7 : ∀ w ∈ wsX70, w ∈ wsX7_be := by decide +kernel
  unfold f7_be at hF
  refine lv_aload_n hx hb dX7_be_0 rfl (lv_at hl 0 rfl) ?_
  obtain ⟨h1, hF⟩ := g_if hF
  obtain ⟨q2, hq3, hF⟩ := g_bind hF
  refine g_get hx hb hts hiX7 hown hK hP 7 rfl (by decide) h1 7 (by decide) (hts (.fieldLink RX7 20 "CourierBeesModel" "swarm" "[I") (by decide +kernel)) (fun _ h9 => h9) ((gFv_r (by decide)).trans (congrArg va_rf hq3)) dX7_be_1 ?_
  refine lv_bipush (v := 8) hx hb dX7_be_4 (by decide) ?_
  refine lv_iload_n hx hb dX7_be_6 rfl (lv_at hl 1 rfl) ?_
  refine lv_imul hx hb dX7_be_7 ?_
  refine lv_iload_n hx hb dX7_be_8 rfl (lv_at hl 2 rfl) ?_
  refine lv_iadd hx hb dX7_be_9 ?_
  obtain ⟨h4, hF⟩ := g_if hF
  obtain ⟨h5, hF⟩ := g_if hF
  refine g_iald hx hb hP (g_pr h4) h5 dX7_be_10 ?_
  exact g_retI hx hb hr hlocks hF hP hS (Nat.le_of_ble_eq_true rfl) (Nat.le_of_ble_eq_true rfl) dX7_be_11
set_option maxHeartbeats 4000000 in
set_option maxRecDepth 100000 in
theorem k7_setBe (l : Launch) (D : va_G) (base : Nat) (g : g_H) (a0 : Nat) (x1 : Int32) (x2 : Int32) (x3 : Int32) (gz : g_H) (hF : f7_setBe g a0 x1 x2 x3 = some gz) : Met l yX7_setBe wsX7_setBe ({ frames := 0, cells := 0, slots := 0, locals := 0 } : Room) (va_Pc [.ref a0, .int x1, .int x2, .int x3] (gC base D g)) (gQv base D gz) 0 0 (gA base) := by
  refine g_met (cc := cX7_setBe) (maxL := 4) (ret := none) (lst := [(0, .ref a0), (1, .int x1), (2, .int x2), (3, .int x3)]) (by decide) rfl (Nat.le_of_ble_eq_true rfl) rfl ?_
  intro p e s m args below meth c ls hx hb hr hml hown hlocks hname hts hE hP hl
  have hown : s.vm.findClass RX7 = some m.cls := hown
  have hK := hE.1
  have hov := hE.2.2.2.2.2.2.2.1
  have hbz := hE.2.2.2.2.2.2.2.2.2.2.2.2
  have hS : va_S (gA base) s.heap s.heap [] := va_S.rf
  have hiX7 : ∀ w ∈ wsX70, w ∈ wsX7_setBe := by decide +kernel
  unfold f7_setBe at hF
  refine lv_aload_n hx hb dX7_setBe_0 rfl (lv_at hl 0 rfl) ?_
  obtain ⟨h1, hF⟩ := g_if hF
  obtain ⟨q2, hq3, hF⟩ := g_bind hF
  refine g_get hx hb hts hiX7 hown hK hP 7 rfl (by decide) h1 7 (by decide) (hts (.fieldLink RX7 20 "CourierBeesModel" "swarm" "[I") (by decide +kernel)) (fun _ h9 => h9) ((gFv_r (by decide)).trans (congrArg va_rf hq3)) dX7_setBe_1 ?_
  refine lv_bipush (v := 8) hx hb dX7_setBe_4 (by decide) ?_
  refine lv_iload_n hx hb dX7_setBe_6 rfl (lv_at hl 1 rfl) ?_
  refine lv_imul hx hb dX7_setBe_7 ?_
  refine lv_iload_n hx hb dX7_setBe_8 rfl (lv_at hl 2 rfl) ?_
  refine lv_iadd hx hb dX7_setBe_9 ?_
  refine lv_iload_n hx hb dX7_setBe_10 rfl (lv_at hl 3 rfl) ?_
  obtain ⟨h4, hF⟩ := g_if hF
  obtain ⟨h5, hF⟩ := g_if hF
  refine g_iast hx hb hP hS (g_pr h4) h5 dX7_setBe_11 (fun H locs hP hS => ?_)
  exact g_retV hx hb hr hlocks hF hP hS (Nat.le_of_ble_eq_true rfl) (Nat.le_of_ble_eq_true rfl) dX7_setBe_12
set_option maxHeartbeats 4000000 in
set_option maxRecDepth 100000 in
theorem k7_le (l : Launch) (D : va_G) (base : Nat) (g : g_H) (a0 : Nat) (x1 : Int32) (x2 : Int32) (rr : Int32) (gz : g_H) (hF : f7_le g a0 x1 x2 = some (rr, gz)) : Met l yX7_le wsX7_le ({ frames := 0, cells := 0, slots := 0, locals := 0 } : Room) (va_Pc [.ref a0, .int x1, .int x2] (gC base D g)) (gQi base D rr gz) 0 0 (gA base) := by
  refine g_met (cc := cX7_le) (maxL := 3) (ret := (some .int)) (lst := [(0, .ref a0), (1, .int x1), (2, .int x2)]) (by decide) rfl (Nat.le_of_ble_eq_true rfl) rfl ?_
  intro p e s m args below meth c ls hx hb hr hml hown hlocks hname hts hE hP hl
  have hown : s.vm.findClass RX7 = some m.cls := hown
  have hK := hE.1
  have hov := hE.2.2.2.2.2.2.2.1
  have hbz := hE.2.2.2.2.2.2.2.2.2.2.2.2
  have hS : va_S (gA base) s.heap s.heap [] := va_S.rf
  have hiX7 : ∀ w ∈ wsX70, w ∈ wsX7_le := by decide +kernel
  unfold f7_le at hF
  refine lv_aload_n hx hb dX7_le_0 rfl (lv_at hl 0 rfl) ?_
  obtain ⟨h1, hF⟩ := g_if hF
  obtain ⟨q2, hq3, hF⟩ := g_bind hF
  refine g_get hx hb hts hiX7 hown hK hP 7 rfl (by decide) h1 10 (by decide) (hts (.fieldLink RX7 26 "CourierBeesModel" "post" "[I") (by decide +kernel)) (fun _ h9 => h9) ((gFv_r (by decide)).trans (congrArg va_rf hq3)) dX7_le_1 ?_
  refine lv_iconst (v := 5) hx hb dX7_le_4 (by decide) ?_
  refine lv_iload_n hx hb dX7_le_5 rfl (lv_at hl 1 rfl) ?_
  refine lv_imul hx hb dX7_le_6 ?_
  refine lv_iload_n hx hb dX7_le_7 rfl (lv_at hl 2 rfl) ?_
  refine lv_iadd hx hb dX7_le_8 ?_
  obtain ⟨h4, hF⟩ := g_if hF
  obtain ⟨h5, hF⟩ := g_if hF
  refine g_iald hx hb hP (g_pr h4) h5 dX7_le_9 ?_
  exact g_retI hx hb hr hlocks hF hP hS (Nat.le_of_ble_eq_true rfl) (Nat.le_of_ble_eq_true rfl) dX7_le_10
set_option maxHeartbeats 4000000 in
set_option maxRecDepth 100000 in
theorem k7_setLe (l : Launch) (D : va_G) (base : Nat) (g : g_H) (a0 : Nat) (x1 : Int32) (x2 : Int32) (x3 : Int32) (gz : g_H) (hF : f7_setLe g a0 x1 x2 x3 = some gz) : Met l yX7_setLe wsX7_setLe ({ frames := 0, cells := 0, slots := 0, locals := 0 } : Room) (va_Pc [.ref a0, .int x1, .int x2, .int x3] (gC base D g)) (gQv base D gz) 0 0 (gA base) := by
  refine g_met (cc := cX7_setLe) (maxL := 4) (ret := none) (lst := [(0, .ref a0), (1, .int x1), (2, .int x2), (3, .int x3)]) (by decide) rfl (Nat.le_of_ble_eq_true rfl) rfl ?_
  intro p e s m args below meth c ls hx hb hr hml hown hlocks hname hts hE hP hl
  have hown : s.vm.findClass RX7 = some m.cls := hown
  have hK := hE.1
  have hov := hE.2.2.2.2.2.2.2.1
  have hbz := hE.2.2.2.2.2.2.2.2.2.2.2.2
  have hS : va_S (gA base) s.heap s.heap [] := va_S.rf
  have hiX7 : ∀ w ∈ wsX70, w ∈ wsX7_setLe := by decide +kernel
  unfold f7_setLe at hF
  refine lv_aload_n hx hb dX7_setLe_0 rfl (lv_at hl 0 rfl) ?_
  obtain ⟨h1, hF⟩ := g_if hF
  obtain ⟨q2, hq3, hF⟩ := g_bind hF
  refine g_get hx hb hts hiX7 hown hK hP 7 rfl (by decide) h1 10 (by decide) (hts (.fieldLink RX7 26 "CourierBeesModel" "post" "[I") (by decide +kernel)) (fun _ h9 => h9) ((gFv_r (by decide)).trans (congrArg va_rf hq3)) dX7_setLe_1 ?_
  refine lv_iconst (v := 5) hx hb dX7_setLe_4 (by decide) ?_
  refine lv_iload_n hx hb dX7_setLe_5 rfl (lv_at hl 1 rfl) ?_
  refine lv_imul hx hb dX7_setLe_6 ?_
  refine lv_iload_n hx hb dX7_setLe_7 rfl (lv_at hl 2 rfl) ?_
  refine lv_iadd hx hb dX7_setLe_8 ?_
  refine lv_iload_n hx hb dX7_setLe_9 rfl (lv_at hl 3 rfl) ?_
  obtain ⟨h4, hF⟩ := g_if hF
  obtain ⟨h5, hF⟩ := g_if hF
  refine g_iast hx hb hP hS (g_pr h4) h5 dX7_setLe_10 (fun H locs hP hS => ?_)
  exact g_retV hx hb hr hlocks hF hP hS (Nat.le_of_ble_eq_true rfl) (Nat.le_of_ble_eq_true rfl) dX7_setLe_11
set_option maxHeartbeats 4000000 in
set_option maxRecDepth 100000 in
theorem k7_reckon (l : Launch) (D : va_G) (base : Nat) (g : g_H) (a0 : Nat) (gz : g_H) (hF : f7_reckon g a0 = some gz) : Met l yX7_reckon wsX7_reckon ({ frames := 1, cells := 0, slots := 0, locals := 24 } : Room) (va_Pc [.ref a0] (gC base D g)) (gQv base D gz) 0 0 (gA base) := by
  refine g_met (cc := cX7_reckon) (maxL := 4) (ret := none) (lst := [(0, .ref a0)]) (by decide) rfl (Nat.le_of_ble_eq_true rfl) rfl ?_
  intro p e s m args below meth c ls hx hb hr hml hown hlocks hname hts hE hP hl
  have hown : s.vm.findClass RX7 = some m.cls := hown
  have hK := hE.1
  have hov := hE.2.2.2.2.2.2.2.1
  have hbz := hE.2.2.2.2.2.2.2.2.2.2.2.2
  have hS : va_S (gA base) s.heap s.heap [] := va_S.rf
  have hiX7 : ∀ w ∈ wsX70, w ∈ wsX7_reckon := by decide +kernel
  have HL148 : ∀ (n148 : Nat), ∀ (g : g_H) (a0 : Nat) (x1 : Int32) (H : Heap) (locs : List Loc) (ls : Array Slot), f7_reckon_148 n148 g a0 x1 = some gz → gP base D s g H → va_S (gA base) s.heap H locs → lv_has ls 4 [(0, .ref a0), (1, .int x1)] → W p l e ({ frames := 1, cells := 0, slots := 0, locals := 24 } : Room) s m args below meth c H locs 0 0 (MQ below (gQv base D gz) args s 0 0 (gA base)) (F0 m 148 ls []) := by
    intro n148
    induction n148 with
    | zero => intro g a0 x1 H locs ls hF hP hS hl; exact g_no hF
    | succ n148 ih148 =>
      have HL158 : ∀ (n158 : Nat), ∀ (g : g_H) (a0 : Nat) (x1 : Int32) (x2 : Int32) (H : Heap) (locs : List Loc) (ls : Array Slot), f7_reckon_158 (f7_reckon_148 n148) n158 g a0 x1 x2 = some gz → gP base D s g H → va_S (gA base) s.heap H locs → lv_has ls 4 [(0, .ref a0), (1, .int x1), (2, .int x2)] → W p l e ({ frames := 1, cells := 0, slots := 0, locals := 24 } : Room) s m args below meth c H locs 0 0 (MQ below (gQv base D gz) args s 0 0 (gA base)) (F0 m 158 ls []) := by
        intro n158
        induction n158 with
        | zero => intro g a0 x1 x2 H locs ls hF hP hS hl; exact g_no hF
        | succ n158 ih158 =>
          have HL168 : ∀ (n168 : Nat), ∀ (g : g_H) (a0 : Nat) (x1 : Int32) (x2 : Int32) (x3 : Int32) (H : Heap) (locs : List Loc) (ls : Array Slot), f7_reckon_168 (f7_reckon_148 n148) (f7_reckon_158 (f7_reckon_148 n148) n158) n168 g a0 x1 x2 x3 = some gz → gP base D s g H → va_S (gA base) s.heap H locs → lv_has ls 4 [(0, .ref a0), (1, .int x1), (2, .int x2), (3, .int x3)] → W p l e ({ frames := 1, cells := 0, slots := 0, locals := 24 } : Room) s m args below meth c H locs 0 0 (MQ below (gQv base D gz) args s 0 0 (gA base)) (F0 m 168 ls []) := by
            intro n168
            induction n168 with
            | zero => intro g a0 x1 x2 x3 H locs ls hF hP hS hl; exact g_no hF
            | succ n168 ih168 =>
              intro g a0 x1 x2 x3 H locs ls hF hP hS hl
              have hF : f7_reckon_168b (f7_reckon_148 n148) (f7_reckon_158 (f7_reckon_148 n148) n158) (f7_reckon_168 (f7_reckon_148 n148) (f7_reckon_158 (f7_reckon_148 n148) n158) n168) g a0 x1 x2 x3 = some gz := hF
              unfold f7_reckon_168b at hF
              refine lv_iload_n hx hb dX7_reckon_168 rfl (lv_at hl 3 rfl) ?_
              refine lv_aload_n hx hb dX7_reckon_169 rfl (lv_at hl 0 rfl) ?_
              obtain ⟨h9, hF⟩ := g_if hF
              refine g_get hx hb hts hiX7 hown hK hP 7 rfl (by decide) h9 1 (by decide) (hts (.fieldLink RX7 39 "CourierBeesModel" "houses" "I") (by decide +kernel)) (fun _ h9 => h9) (gFv_i (Or.inl rfl)) dX7_reckon_170 ?_
              refine lv_icmp_ge (tgt := 230) hx hb dX7_reckon_173 (by decide) (fun c10 => ?_) (fun c10 => ?_)
              · have hF := g_t c10 hF
                refine lv_iinc (v := x2 + (1 : Int32)) (lv' := [(2, .int (x2 + (1 : Int32))), (0, .ref a0), (1, .int x1), (3, .int x3)]) hx hb dX7_reckon_230 hl (k := 2) rfl rfl (by decide) rfl (fun ls hl => ?_)
                refine lv_goto (tgt := 158) hx hb dX7_reckon_233 (by decide) ?_
                exact ih158 _ _ _ _ _ _ _ hF hP hS (lv_sub hl [1, 2, 0] rfl)
              · have hF := g_f c10 hF
                refine lv_aload_n hx hb dX7_reckon_176 rfl (lv_at hl 0 rfl) ?_
                obtain ⟨q11, hq12, hF⟩ := g_bind hF
                refine g_get hx hb hts hiX7 hown hK hP 7 rfl (by decide) h9 5 (by decide) (hts (.fieldLink RX7 17 "CourierBeesModel" "ways" "[I") (by decide +kernel)) (fun _ h9 => h9) ((gFv_r (by decide)).trans (congrArg va_rf hq12)) dX7_reckon_177 ?_
                refine lv_bipush (v := 14) hx hb dX7_reckon_180 (by decide) ?_
                refine lv_iload_n hx hb dX7_reckon_182 rfl (lv_at hl 2 rfl) ?_
                refine lv_imul hx hb dX7_reckon_183 ?_
                refine lv_iload_n hx hb dX7_reckon_184 rfl (lv_at hl 3 rfl) ?_
                refine lv_iadd hx hb dX7_reckon_185 ?_
                refine lv_aload_n hx hb dX7_reckon_186 rfl (lv_at hl 0 rfl) ?_
                obtain ⟨q13, hq14, hF⟩ := g_bind hF
                refine g_get hx hb hts hiX7 hown hK hP 7 rfl (by decide) h9 5 (by decide) (hts (.fieldLink RX7 17 "CourierBeesModel" "ways" "[I") (by decide +kernel)) (fun _ h9 => h9) ((gFv_r (by decide)).trans (congrArg va_rf hq14)) dX7_reckon_187 ?_
                refine lv_bipush (v := 14) hx hb dX7_reckon_190 (by decide) ?_
                refine lv_iload_n hx hb dX7_reckon_192 rfl (lv_at hl 2 rfl) ?_
                refine lv_imul hx hb dX7_reckon_193 ?_
                refine lv_iload_n hx hb dX7_reckon_194 rfl (lv_at hl 3 rfl) ?_
                refine lv_iadd hx hb dX7_reckon_195 ?_
                obtain ⟨h15, hF⟩ := g_if hF
                obtain ⟨h16, hF⟩ := g_if hF
                refine g_iald hx hb hP (g_pr h15) h16 dX7_reckon_196 ?_
                refine lv_aload_n hx hb dX7_reckon_197 rfl (lv_at hl 0 rfl) ?_
                obtain ⟨q17, hq18, hF⟩ := g_bind hF
                refine g_get hx hb hts hiX7 hown hK hP 7 rfl (by decide) h9 5 (by decide) (hts (.fieldLink RX7 17 "CourierBeesModel" "ways" "[I") (by decide +kernel)) (fun _ h9 => h9) ((gFv_r (by decide)).trans (congrArg va_rf hq18)) dX7_reckon_198 ?_
                refine lv_bipush (v := 14) hx hb dX7_reckon_201 (by decide) ?_
                refine lv_iload_n hx hb dX7_reckon_203 rfl (lv_at hl 2 rfl) ?_
                refine lv_imul hx hb dX7_reckon_204 ?_
                refine lv_iload_n hx hb dX7_reckon_205 rfl (lv_at hl 1 rfl) ?_
                refine lv_iadd hx hb dX7_reckon_206 ?_
                obtain ⟨h19, hF⟩ := g_if hF
                obtain ⟨h20, hF⟩ := g_if hF
                refine g_iald hx hb hP (g_pr h19) h20 dX7_reckon_207 ?_
                refine lv_aload_n hx hb dX7_reckon_208 rfl (lv_at hl 0 rfl) ?_
                obtain ⟨q21, hq22, hF⟩ := g_bind hF
                refine g_get hx hb hts hiX7 hown hK hP 7 rfl (by decide) h9 5 (by decide) (hts (.fieldLink RX7 17 "CourierBeesModel" "ways" "[I") (by decide +kernel)) (fun _ h9 => h9) ((gFv_r (by decide)).trans (congrArg va_rf hq22)) dX7_reckon_209 ?_
                refine lv_bipush (v := 14) hx hb dX7_reckon_212 (by decide) ?_
                refine lv_iload_n hx hb dX7_reckon_214 rfl (lv_at hl 1 rfl) ?_
                refine lv_imul hx hb dX7_reckon_215 ?_
                refine lv_iload_n hx hb dX7_reckon_216 rfl (lv_at hl 3 rfl) ?_
                refine lv_iadd hx hb dX7_reckon_217 ?_
                obtain ⟨h23, hF⟩ := g_if hF
                obtain ⟨h24, hF⟩ := g_if hF
                refine g_iald hx hb hP (g_pr h23) h24 dX7_reckon_218 ?_
                refine lv_iadd hx hb dX7_reckon_219 ?_
                refine va_mmin hx hb (hml.trans hl.1.symm) hown (hts (.methodLink RX7 70 Lib.Math.min.name) (by decide +kernel)) (hts (.static Lib.Math.min.name) (by decide +kernel)) (hts (.initialized "java/lang/Math") (by decide +kernel)) (hts (.code Lib.Math.min.name Lib.Math.min.code 2 (some .int)) (by decide +kernel)) (Nat.le_of_ble_eq_true rfl) (Nat.le_of_ble_eq_true rfl) (Nat.le_of_ble_eq_true rfl) (Nat.le_of_ble_eq_true rfl) dX7_reckon_220 ?_
                obtain ⟨y25, e26, hF⟩ := g_let hF
                rw [e26]
                obtain ⟨h27, hF⟩ := g_if hF
                obtain ⟨h28, hF⟩ := g_if hF
                refine g_iast hx hb hP hS (g_pr h27) h28 dX7_reckon_223 (fun H locs hP hS => ?_)
                refine lv_iinc (v := x3 + (1 : Int32)) (lv' := [(3, .int (x3 + (1 : Int32))), (0, .ref a0), (1, .int x1), (2, .int x2)]) hx hb dX7_reckon_224 hl (k := 3) rfl rfl (by decide) rfl (fun ls hl => ?_)
                refine lv_goto (tgt := 168) hx hb dX7_reckon_227 (by decide) ?_
                exact ih168 _ _ _ _ _ _ _ _ hF hP hS (lv_sub hl [1, 2, 3, 0] rfl)
          intro g a0 x1 x2 H locs ls hF hP hS hl
          have hF : f7_reckon_158b (f7_reckon_148 n148) (f7_reckon_158 (f7_reckon_148 n148) n158) g a0 x1 x2 = some gz := hF
          unfold f7_reckon_158b at hF
          refine lv_iload_n hx hb dX7_reckon_158 rfl (lv_at hl 2 rfl) ?_
          refine lv_aload_n hx hb dX7_reckon_159 rfl (lv_at hl 0 rfl) ?_
          obtain ⟨h7, hF⟩ := g_if hF
          refine g_get hx hb hts hiX7 hown hK hP 7 rfl (by decide) h7 1 (by decide) (hts (.fieldLink RX7 39 "CourierBeesModel" "houses" "I") (by decide +kernel)) (fun _ h9 => h9) (gFv_i (Or.inl rfl)) dX7_reckon_160 ?_
          refine lv_icmp_ge (tgt := 236) hx hb dX7_reckon_163 (by decide) (fun c8 => ?_) (fun c8 => ?_)
          · have hF := g_t c8 hF
            refine lv_iinc (v := x1 + (1 : Int32)) (lv' := [(1, .int (x1 + (1 : Int32))), (0, .ref a0), (2, .int x2)]) hx hb dX7_reckon_236 hl (k := 1) rfl rfl (by decide) rfl (fun ls hl => ?_)
            refine lv_goto (tgt := 148) hx hb dX7_reckon_239 (by decide) ?_
            exact ih148 _ _ _ _ _ _ hF hP hS (lv_sub hl [1, 0] rfl)
          · have hF := g_f c8 hF
            refine lv_iconst (v := 0) hx hb dX7_reckon_166 (by decide) ?_
            refine lv_istore_n (lv' := [(3, .int ((0 : Int32))), (0, .ref a0), (1, .int x1), (2, .int x2)]) hx hb dX7_reckon_167 rfl hl (by decide) rfl (fun ls hl => ?_)
            exact HL168 300 _ _ _ _ _ _ _ _ hF hP hS (lv_sub hl [1, 2, 3, 0] rfl)
      intro g a0 x1 H locs ls hF hP hS hl
      have hF : f7_reckon_148b (f7_reckon_148 n148) g a0 x1 = some gz := hF
      unfold f7_reckon_148b at hF
      refine lv_iload_n hx hb dX7_reckon_148 rfl (lv_at hl 1 rfl) ?_
      refine lv_aload_n hx hb dX7_reckon_149 rfl (lv_at hl 0 rfl) ?_
      obtain ⟨h5, hF⟩ := g_if hF
      refine g_get hx hb hts hiX7 hown hK hP 7 rfl (by decide) h5 1 (by decide) (hts (.fieldLink RX7 39 "CourierBeesModel" "houses" "I") (by decide +kernel)) (fun _ h9 => h9) (gFv_i (Or.inl rfl)) dX7_reckon_150 ?_
      refine lv_icmp_ge (tgt := 242) hx hb dX7_reckon_153 (by decide) (fun c6 => ?_) (fun c6 => ?_)
      · have hF := g_t c6 hF
        exact g_retV hx hb hr hlocks hF hP hS (Nat.le_of_ble_eq_true rfl) (Nat.le_of_ble_eq_true rfl) dX7_reckon_242
      · have hF := g_f c6 hF
        refine lv_iconst (v := 0) hx hb dX7_reckon_156 (by decide) ?_
        refine lv_istore_n (lv' := [(2, .int ((0 : Int32))), (0, .ref a0), (1, .int x1)]) hx hb dX7_reckon_157 rfl hl (by decide) rfl (fun ls hl => ?_)
        exact HL158 300 _ _ _ _ _ _ _ hF hP hS (lv_sub hl [1, 2, 0] rfl)
  have HL57 : ∀ (n57 : Nat), ∀ (g : g_H) (a0 : Nat) (x1 : Int32) (H : Heap) (locs : List Loc) (ls : Array Slot), f7_reckon_57 n57 g a0 x1 = some gz → gP base D s g H → va_S (gA base) s.heap H locs → lv_has ls 4 [(0, .ref a0), (1, .int x1)] → W p l e ({ frames := 1, cells := 0, slots := 0, locals := 24 } : Room) s m args below meth c H locs 0 0 (MQ below (gQv base D gz) args s 0 0 (gA base)) (F0 m 57 ls []) := by
    intro n57
    induction n57 with
    | zero => intro g a0 x1 H locs ls hF hP hS hl; exact g_no hF
    | succ n57 ih57 =>
      intro g a0 x1 H locs ls hF hP hS hl
      have hF : f7_reckon_57b (f7_reckon_57 n57) g a0 x1 = some gz := hF
      unfold f7_reckon_57b at hF
      refine lv_iload_n hx hb dX7_reckon_57 rfl (lv_at hl 1 rfl) ?_
      refine lv_aload_n hx hb dX7_reckon_58 rfl (lv_at hl 0 rfl) ?_
      obtain ⟨h3, hF⟩ := g_if hF
      refine g_get hx hb hts hiX7 hown hK hP 7 rfl (by decide) h3 3 (by decide) (hts (.fieldLink RX7 46 "CourierBeesModel" "lanes" "I") (by decide +kernel)) (fun _ h9 => h9) (gFv_i (Or.inl rfl)) dX7_reckon_59 ?_
      refine lv_icmp_ge (tgt := 146) hx hb dX7_reckon_62 (by decide) (fun c4 => ?_) (fun c4 => ?_)
      · have hF := g_t c4 hF
        refine lv_iconst (v := 0) hx hb dX7_reckon_146 (by decide) ?_
        refine lv_istore_n (lv' := [(1, .int ((0 : Int32))), (0, .ref a0)]) hx hb dX7_reckon_147 rfl hl (by decide) rfl (fun ls hl => ?_)
        exact HL148 300 _ _ _ _ _ _ hF hP hS (lv_sub hl [1, 0] rfl)
      · have hF := g_f c4 hF
        refine lv_aload_n hx hb dX7_reckon_65 rfl (lv_at hl 0 rfl) ?_
        refine lv_iload_n hx hb dX7_reckon_66 rfl (lv_at hl 1 rfl) ?_
        refine lv_iconst (v := 2) hx hb dX7_reckon_67 (by decide) ?_
        obtain ⟨v31, g30, h29, hF⟩ := g_bind2 hF
        refine g_calli (va_runV (As := [.int x1, .int ((2 : Int32))]) (rest := []) ⟨hx, hb, hml, hown, hts⟩ (k7_ro l D base g a0 x1 ((2 : Int32)) v31 g30 h29) (cwV 2 hts gX7_reckon_X7_ro rfl rfl rfl (by decide +kernel) ⟨Nat.le_of_ble_eq_true rfl, Nat.le_of_ble_eq_true rfl⟩) (gC.preV hE hP hS 7 rfl (by decide) h3 [.int x1, .int ((2 : Int32))]) rfl rfl hl.1 rfl (lv_room (Nat.le_of_ble_eq_true rfl)) dX7_reckon_68 ⟨(Nat.le_of_ble_eq_true rfl), (Nat.le_of_ble_eq_true rfl)⟩) hS (fun H locs hP hS => ?_)
        refine lv_aload_n hx hb dX7_reckon_71 rfl (lv_at hl 0 rfl) ?_
        obtain ⟨h32, hF⟩ := g_if hF
        obtain ⟨q33, hq34, hF⟩ := g_bind hF
        refine g_get hx hb hts hiX7 hown hK hP 7 rfl (by decide) h32 5 (by decide) (hts (.fieldLink RX7 17 "CourierBeesModel" "ways" "[I") (by decide +kernel)) (fun _ h9 => h9) ((gFv_r (by decide)).trans (congrArg va_rf hq34)) dX7_reckon_72 ?_
        refine lv_bipush (v := 14) hx hb dX7_reckon_75 (by decide) ?_
        refine lv_aload_n hx hb dX7_reckon_77 rfl (lv_at hl 0 rfl) ?_
        refine lv_iload_n hx hb dX7_reckon_78 rfl (lv_at hl 1 rfl) ?_
        refine lv_iconst (v := 0) hx hb dX7_reckon_79 (by decide) ?_
        obtain ⟨v37, g36, h35, hF⟩ := g_bind2 hF
        refine g_calli (va_runV (As := [.int x1, .int ((0 : Int32))]) (rest := [.int ((14 : Int32)), .ref q33, .int v31]) ⟨hx, hb, hml, hown, hts⟩ (k7_ro l D base g30 a0 x1 ((0 : Int32)) v37 g36 h35) (cwV 2 hts gX7_reckon_X7_ro rfl rfl rfl (by decide +kernel) ⟨Nat.le_of_ble_eq_true rfl, Nat.le_of_ble_eq_true rfl⟩) (gC.preV hE hP hS 7 rfl (by decide) h32 [.int x1, .int ((0 : Int32))]) rfl rfl hl.1 rfl (lv_room (Nat.le_of_ble_eq_true rfl)) dX7_reckon_80 ⟨(Nat.le_of_ble_eq_true rfl), (Nat.le_of_ble_eq_true rfl)⟩) hS (fun H locs hP hS => ?_)
        refine lv_imul hx hb dX7_reckon_83 ?_
        refine lv_aload_n hx hb dX7_reckon_84 rfl (lv_at hl 0 rfl) ?_
        refine lv_iload_n hx hb dX7_reckon_85 rfl (lv_at hl 1 rfl) ?_
        refine lv_iconst (v := 1) hx hb dX7_reckon_86 (by decide) ?_
        obtain ⟨h39, hF⟩ := g_if hF
        obtain ⟨v41, g40, h38, hF⟩ := g_bind2 hF
        refine g_calli (va_runV (As := [.int x1, .int ((1 : Int32))]) (rest := [.int (((14 : Int32)) * v37), .ref q33, .int v31]) ⟨hx, hb, hml, hown, hts⟩ (k7_ro l D base g36 a0 x1 ((1 : Int32)) v41 g40 h38) (cwV 2 hts gX7_reckon_X7_ro rfl rfl rfl (by decide +kernel) ⟨Nat.le_of_ble_eq_true rfl, Nat.le_of_ble_eq_true rfl⟩) (gC.preV hE hP hS 7 rfl (by decide) h39 [.int x1, .int ((1 : Int32))]) rfl rfl hl.1 rfl (lv_room (Nat.le_of_ble_eq_true rfl)) dX7_reckon_87 ⟨(Nat.le_of_ble_eq_true rfl), (Nat.le_of_ble_eq_true rfl)⟩) hS (fun H locs hP hS => ?_)
        refine lv_iadd hx hb dX7_reckon_90 ?_
        obtain ⟨h42, hF⟩ := g_if hF
        obtain ⟨h43, hF⟩ := g_if hF
        refine g_iald hx hb hP (g_pr h42) h43 dX7_reckon_91 ?_
        refine va_mmin hx hb (hml.trans hl.1.symm) hown (hts (.methodLink RX7 70 Lib.Math.min.name) (by decide +kernel)) (hts (.static Lib.Math.min.name) (by decide +kernel)) (hts (.initialized "java/lang/Math") (by decide +kernel)) (hts (.code Lib.Math.min.name Lib.Math.min.code 2 (some .int)) (by decide +kernel)) (Nat.le_of_ble_eq_true rfl) (Nat.le_of_ble_eq_true rfl) (Nat.le_of_ble_eq_true rfl) (Nat.le_of_ble_eq_true rfl) dX7_reckon_92 ?_
        refine lv_istore_n (lv' := [(2, .int (if (gI g40 q33 (Int32.toNatClampNeg ((((14 : Int32)) * v37) + v41))) < v31 then (gI g40 q33 (Int32.toNatClampNeg ((((14 : Int32)) * v37) + v41))) else v31)), (0, .ref a0), (1, .int x1)]) hx hb dX7_reckon_95 rfl hl (by decide) rfl (fun ls hl => ?_)
        refine lv_aload_n hx hb dX7_reckon_96 rfl (lv_at hl 1 rfl) ?_
        obtain ⟨h44, hF⟩ := g_if hF
        obtain ⟨q45, hq46, hF⟩ := g_bind hF
        refine g_get hx hb hts hiX7 hown hK hP 7 rfl (by decide) h44 5 (by decide) (hts (.fieldLink RX7 17 "CourierBeesModel" "ways" "[I") (by decide +kernel)) (fun _ h9 => h9) ((gFv_r (by decide)).trans (congrArg va_rf hq46)) dX7_reckon_97 ?_
        refine lv_bipush (v := 14) hx hb dX7_reckon_100 (by decide) ?_
        refine lv_aload_n hx hb dX7_reckon_102 rfl (lv_at hl 1 rfl) ?_
        refine lv_iload_n hx hb dX7_reckon_103 rfl (lv_at hl 2 rfl) ?_
        refine lv_iconst (v := 0) hx hb dX7_reckon_104 (by decide) ?_
        obtain ⟨v49, g48, h47, hF⟩ := g_bind2 hF
        refine g_calli (va_runV (As := [.int x1, .int ((0 : Int32))]) (rest := [.int ((14 : Int32)), .ref q45]) ⟨hx, hb, hml, hown, hts⟩ (k7_ro l D base g40 a0 x1 ((0 : Int32)) v49 g48 h47) (cwV 2 hts gX7_reckon_X7_ro rfl rfl rfl (by decide +kernel) ⟨Nat.le_of_ble_eq_true rfl, Nat.le_of_ble_eq_true rfl⟩) (gC.preV hE hP hS 7 rfl (by decide) h44 [.int x1, .int ((0 : Int32))]) rfl rfl hl.1 rfl (lv_room (Nat.le_of_ble_eq_true rfl)) dX7_reckon_105 ⟨(Nat.le_of_ble_eq_true rfl), (Nat.le_of_ble_eq_true rfl)⟩) hS (fun H locs hP hS => ?_)
        refine lv_imul hx hb dX7_reckon_108 ?_
        refine lv_aload_n hx hb dX7_reckon_109 rfl (lv_at hl 1 rfl) ?_
        refine lv_iload_n hx hb dX7_reckon_110 rfl (lv_at hl 2 rfl) ?_
        refine lv_iconst (v := 1) hx hb dX7_reckon_111 (by decide) ?_
        obtain ⟨h51, hF⟩ := g_if hF
        obtain ⟨v53, g52, h50, hF⟩ := g_bind2 hF
        refine g_calli (va_runV (As := [.int x1, .int ((1 : Int32))]) (rest := [.int (((14 : Int32)) * v49), .ref q45]) ⟨hx, hb, hml, hown, hts⟩ (k7_ro l D base g48 a0 x1 ((1 : Int32)) v53 g52 h50) (cwV 2 hts gX7_reckon_X7_ro rfl rfl rfl (by decide +kernel) ⟨Nat.le_of_ble_eq_true rfl, Nat.le_of_ble_eq_true rfl⟩) (gC.preV hE hP hS 7 rfl (by decide) h51 [.int x1, .int ((1 : Int32))]) rfl rfl hl.1 rfl (lv_room (Nat.le_of_ble_eq_true rfl)) dX7_reckon_112 ⟨(Nat.le_of_ble_eq_true rfl), (Nat.le_of_ble_eq_true rfl)⟩) hS (fun H locs hP hS => ?_)
        refine lv_iadd hx hb dX7_reckon_115 ?_
        refine lv_iload_n hx hb dX7_reckon_116 rfl (lv_at hl 0 rfl) ?_
        obtain ⟨y54, e55, hF⟩ := g_let hF
        rw [e55]
        obtain ⟨h56, hF⟩ := g_if hF
        obtain ⟨h57, hF⟩ := g_if hF
        refine g_iast hx hb hP hS (g_pr h56) h57 dX7_reckon_117 (fun H locs hP hS => ?_)
        refine lv_aload_n hx hb dX7_reckon_118 rfl (lv_at hl 1 rfl) ?_
        obtain ⟨h58, hF⟩ := g_if hF
        obtain ⟨q59, hq60, hF⟩ := g_bind hF
        refine g_get hx hb hts hiX7 hown hK hP 7 rfl (by decide) h58 5 (by decide) (hts (.fieldLink RX7 17 "CourierBeesModel" "ways" "[I") (by decide +kernel)) (fun _ h9 => h9) ((gFv_r (by decide)).trans (congrArg va_rf hq60)) dX7_reckon_119 ?_
        refine lv_bipush (v := 14) hx hb dX7_reckon_122 (by decide) ?_
        refine lv_aload_n hx hb dX7_reckon_124 rfl (lv_at hl 1 rfl) ?_
        refine lv_iload_n hx hb dX7_reckon_125 rfl (lv_at hl 2 rfl) ?_
        refine lv_iconst (v := 1) hx hb dX7_reckon_126 (by decide) ?_
        obtain ⟨v63, g62, h61, hF⟩ := g_bind2 hF
        refine g_calli (va_runV (As := [.int x1, .int ((1 : Int32))]) (rest := [.int ((14 : Int32)), .ref q59]) ⟨hx, hb, hml, hown, hts⟩ (k7_ro l D base (gPI g52 q45 (Int32.toNatClampNeg ((((14 : Int32)) * v49) + v53)) y54) a0 x1 ((1 : Int32)) v63 g62 h61) (cwV 2 hts gX7_reckon_X7_ro rfl rfl rfl (by decide +kernel) ⟨Nat.le_of_ble_eq_true rfl, Nat.le_of_ble_eq_true rfl⟩) (gC.preV hE hP hS 7 rfl (by decide) h58 [.int x1, .int ((1 : Int32))]) rfl rfl hl.1 rfl (lv_room (Nat.le_of_ble_eq_true rfl)) dX7_reckon_127 ⟨(Nat.le_of_ble_eq_true rfl), (Nat.le_of_ble_eq_true rfl)⟩) hS (fun H locs hP hS => ?_)
        refine lv_imul hx hb dX7_reckon_130 ?_
        refine lv_aload_n hx hb dX7_reckon_131 rfl (lv_at hl 1 rfl) ?_
        refine lv_iload_n hx hb dX7_reckon_132 rfl (lv_at hl 2 rfl) ?_
        refine lv_iconst (v := 0) hx hb dX7_reckon_133 (by decide) ?_
        obtain ⟨h65, hF⟩ := g_if hF
        obtain ⟨v67, g66, h64, hF⟩ := g_bind2 hF
        refine g_calli (va_runV (As := [.int x1, .int ((0 : Int32))]) (rest := [.int (((14 : Int32)) * v63), .ref q59]) ⟨hx, hb, hml, hown, hts⟩ (k7_ro l D base g62 a0 x1 ((0 : Int32)) v67 g66 h64) (cwV 2 hts gX7_reckon_X7_ro rfl rfl rfl (by decide +kernel) ⟨Nat.le_of_ble_eq_true rfl, Nat.le_of_ble_eq_true rfl⟩) (gC.preV hE hP hS 7 rfl (by decide) h65 [.int x1, .int ((0 : Int32))]) rfl rfl hl.1 rfl (lv_room (Nat.le_of_ble_eq_true rfl)) dX7_reckon_134 ⟨(Nat.le_of_ble_eq_true rfl), (Nat.le_of_ble_eq_true rfl)⟩) hS (fun H locs hP hS => ?_)
        refine lv_iadd hx hb dX7_reckon_137 ?_
        refine lv_iload_n hx hb dX7_reckon_138 rfl (lv_at hl 0 rfl) ?_
        obtain ⟨y68, e69, hF⟩ := g_let hF
        rw [e69]
        obtain ⟨h70, hF⟩ := g_if hF
        obtain ⟨h71, hF⟩ := g_if hF
        refine g_iast hx hb hP hS (g_pr h70) h71 dX7_reckon_139 (fun H locs hP hS => ?_)
        refine lv_iinc (v := x1 + (1 : Int32)) (lv' := [(1, .int (x1 + (1 : Int32))), (2, .int (if (gI g40 q33 (Int32.toNatClampNeg ((((14 : Int32)) * v37) + v41))) < v31 then (gI g40 q33 (Int32.toNatClampNeg ((((14 : Int32)) * v37) + v41))) else v31)), (0, .ref a0)]) hx hb dX7_reckon_140 hl (k := 2) rfl rfl (by decide) rfl (fun ls hl => ?_)
        refine lv_goto (tgt := 57) hx hb dX7_reckon_143 (by decide) ?_
        exact ih57 _ _ _ _ _ _ hF hP hS (lv_sub hl [2, 0] rfl)
  have HL2 : ∀ (n2 : Nat), ∀ (g : g_H) (a0 : Nat) (x1 : Int32) (H : Heap) (locs : List Loc) (ls : Array Slot), f7_reckon_2 n2 g a0 x1 = some gz → gP base D s g H → va_S (gA base) s.heap H locs → lv_has ls 4 [(0, .ref a0), (1, .int x1)] → W p l e ({ frames := 1, cells := 0, slots := 0, locals := 24 } : Room) s m args below meth c H locs 0 0 (MQ below (gQv base D gz) args s 0 0 (gA base)) (F0 m 2 ls []) := by
    intro n2
    induction n2 with
    | zero => intro g a0 x1 H locs ls hF hP hS hl; exact g_no hF
    | succ n2 ih2 =>
      have HL12 : ∀ (n12 : Nat), ∀ (g : g_H) (a0 : Nat) (x1 : Int32) (x2 : Int32) (H : Heap) (locs : List Loc) (ls : Array Slot), f7_reckon_12 (f7_reckon_2 n2) n12 g a0 x1 x2 = some gz → gP base D s g H → va_S (gA base) s.heap H locs → lv_has ls 4 [(0, .ref a0), (1, .int x1), (2, .int x2)] → W p l e ({ frames := 1, cells := 0, slots := 0, locals := 24 } : Room) s m args below meth c H locs 0 0 (MQ below (gQv base D gz) args s 0 0 (gA base)) (F0 m 12 ls []) := by
        intro n12
        induction n12 with
        | zero => intro g a0 x1 x2 H locs ls hF hP hS hl; exact g_no hF
        | succ n12 ih12 =>
          have HB42 : ∀ (g : g_H) (a0 : Nat) (x1 : Int32) (x2 : Int32) (s0 : Nat) (s1 : Int32) (s2 : Int32) (H : Heap) (locs : List Loc) (ls : Array Slot), f7_reckon_42 (f7_reckon_2 n2) (f7_reckon_12 (f7_reckon_2 n2) n12) g a0 x1 x2 s0 s1 s2 = some gz → gP base D s g H → va_S (gA base) s.heap H locs → lv_has ls 4 [(0, .ref a0), (1, .int x1), (2, .int x2)] → W p l e ({ frames := 1, cells := 0, slots := 0, locals := 24 } : Room) s m args below meth c H locs 0 0 (MQ below (gQv base D gz) args s 0 0 (gA base)) (F0 m 42 ls [.int s2, .int s1, .ref s0]) := by
            intro g a0 x1 x2 s0 s1 s2 H locs ls hF hP hS hl
            unfold f7_reckon_42 at hF
            obtain ⟨h77, hF⟩ := g_if hF
            obtain ⟨h78, hF⟩ := g_if hF
            refine g_iast hx hb hP hS (g_pr h77) h78 dX7_reckon_42 (fun H locs hP hS => ?_)
            refine lv_iinc (v := x2 + (1 : Int32)) (lv' := [(2, .int (x2 + (1 : Int32))), (0, .ref a0), (1, .int x1)]) hx hb dX7_reckon_43 hl (k := 2) rfl rfl (by decide) rfl (fun ls hl => ?_)
            refine lv_goto (tgt := 12) hx hb dX7_reckon_46 (by decide) ?_
            exact ih12 _ _ _ _ _ _ _ hF hP hS (lv_sub hl [1, 2, 0] rfl)
          intro g a0 x1 x2 H locs ls hF hP hS hl
          have hF : f7_reckon_12b (f7_reckon_2 n2) (f7_reckon_12 (f7_reckon_2 n2) n12) g a0 x1 x2 = some gz := hF
          unfold f7_reckon_12b at hF
          refine lv_iload_n hx hb dX7_reckon_12 rfl (lv_at hl 2 rfl) ?_
          refine lv_aload_n hx hb dX7_reckon_13 rfl (lv_at hl 0 rfl) ?_
          obtain ⟨h72, hF⟩ := g_if hF
          refine g_get hx hb hts hiX7 hown hK hP 7 rfl (by decide) h72 1 (by decide) (hts (.fieldLink RX7 39 "CourierBeesModel" "houses" "I") (by decide +kernel)) (fun _ h9 => h9) (gFv_i (Or.inl rfl)) dX7_reckon_14 ?_
          refine lv_icmp_ge (tgt := 49) hx hb dX7_reckon_17 (by decide) (fun c73 => ?_) (fun c73 => ?_)
          · have hF := g_t c73 hF
            refine lv_iinc (v := x1 + (1 : Int32)) (lv' := [(1, .int (x1 + (1 : Int32))), (0, .ref a0), (2, .int x2)]) hx hb dX7_reckon_49 hl (k := 1) rfl rfl (by decide) rfl (fun ls hl => ?_)
            refine lv_goto (tgt := 2) hx hb dX7_reckon_52 (by decide) ?_
            exact ih2 _ _ _ _ _ _ hF hP hS (lv_sub hl [1, 0] rfl)
          · have hF := g_f c73 hF
            refine lv_aload_n hx hb dX7_reckon_20 rfl (lv_at hl 0 rfl) ?_
            obtain ⟨q74, hq75, hF⟩ := g_bind hF
            refine g_get hx hb hts hiX7 hown hK hP 7 rfl (by decide) h72 5 (by decide) (hts (.fieldLink RX7 17 "CourierBeesModel" "ways" "[I") (by decide +kernel)) (fun _ h9 => h9) ((gFv_r (by decide)).trans (congrArg va_rf hq75)) dX7_reckon_21 ?_
            refine lv_bipush (v := 14) hx hb dX7_reckon_24 (by decide) ?_
            refine lv_iload_n hx hb dX7_reckon_26 rfl (lv_at hl 1 rfl) ?_
            refine lv_imul hx hb dX7_reckon_27 ?_
            refine lv_iload_n hx hb dX7_reckon_28 rfl (lv_at hl 2 rfl) ?_
            refine lv_iadd hx hb dX7_reckon_29 ?_
            refine lv_iload_n hx hb dX7_reckon_30 rfl (lv_at hl 1 rfl) ?_
            refine lv_iload_n hx hb dX7_reckon_31 rfl (lv_at hl 2 rfl) ?_
            refine lv_icmp_ne (tgt := 39) hx hb dX7_reckon_32 (by decide) (fun c76 => ?_) (fun c76 => ?_)
            · have hF := g_f c76 hF
              refine lv_sipush (v := 9999) hx hb dX7_reckon_39 (by decide) ?_
              exact HB42 _ _ _ _ _ _ _ _ _ _ hF hP hS (lv_sub hl [0, 1, 2] rfl)
            · have hF := g_t c76 hF
              refine lv_iconst (v := 0) hx hb dX7_reckon_35 (by decide) ?_
              refine lv_goto (tgt := 42) hx hb dX7_reckon_36 (by decide) ?_
              exact HB42 _ _ _ _ _ _ _ _ _ _ hF hP hS (lv_sub hl [0, 1, 2] rfl)
      intro g a0 x1 H locs ls hF hP hS hl
      have hF : f7_reckon_2b (f7_reckon_2 n2) g a0 x1 = some gz := hF
      unfold f7_reckon_2b at hF
      refine lv_iload_n hx hb dX7_reckon_2 rfl (lv_at hl 1 rfl) ?_
      refine lv_aload_n hx hb dX7_reckon_3 rfl (lv_at hl 0 rfl) ?_
      obtain ⟨h1, hF⟩ := g_if hF
      refine g_get hx hb hts hiX7 hown hK hP 7 rfl (by decide) h1 1 (by decide) (hts (.fieldLink RX7 39 "CourierBeesModel" "houses" "I") (by decide +kernel)) (fun _ h9 => h9) (gFv_i (Or.inl rfl)) dX7_reckon_4 ?_
      refine lv_icmp_ge (tgt := 55) hx hb dX7_reckon_7 (by decide) (fun c2 => ?_) (fun c2 => ?_)
      · have hF := g_t c2 hF
        refine lv_iconst (v := 0) hx hb dX7_reckon_55 (by decide) ?_
        refine lv_istore_n (lv' := [(1, .int ((0 : Int32))), (0, .ref a0)]) hx hb dX7_reckon_56 rfl hl (by decide) rfl (fun ls hl => ?_)
        exact HL57 300 _ _ _ _ _ _ hF hP hS (lv_sub hl [1, 0] rfl)
      · have hF := g_f c2 hF
        refine lv_iconst (v := 0) hx hb dX7_reckon_10 (by decide) ?_
        refine lv_istore_n (lv' := [(2, .int ((0 : Int32))), (0, .ref a0), (1, .int x1)]) hx hb dX7_reckon_11 rfl hl (by decide) rfl (fun ls hl => ?_)
        exact HL12 300 _ _ _ _ _ _ _ hF hP hS (lv_sub hl [1, 2, 0] rfl)
  unfold f7_reckon at hF
  refine lv_iconst (v := 0) hx hb dX7_reckon_0 (by decide) ?_
  refine lv_istore_n (lv' := [(1, .int ((0 : Int32))), (0, .ref a0)]) hx hb dX7_reckon_1 rfl hl (by decide) rfl (fun ls hl => ?_)
  exact HL2 300 _ _ _ _ _ _ hF hP hS (lv_sub hl [1, 0] rfl)
set_option maxHeartbeats 4000000 in
set_option maxRecDepth 100000 in
theorem k7_addHouse (l : Launch) (D : va_G) (base : Nat) (g : g_H) (a0 : Nat) (rr : Int32) (gz : g_H) (hF : f7_addHouse g a0 = some (rr, gz)) : Met l yX7_addHouse wsX7_addHouse ({ frames := 2, cells := 0, slots := 0, locals := 47 } : Room) (va_Pc [.ref a0] (gC base D g)) (gQi base D rr gz) 0 0 (gA base) := by
  refine g_met (cc := cX7_addHouse) (maxL := 1) (ret := (some .int)) (lst := [(0, .ref a0)]) (by decide) rfl (Nat.le_of_ble_eq_true rfl) rfl ?_
  intro p e s m args below meth c ls hx hb hr hml hown hlocks hname hts hE hP hl
  have hown : s.vm.findClass RX7 = some m.cls := hown
  have hK := hE.1
  have hov := hE.2.2.2.2.2.2.2.1
  have hbz := hE.2.2.2.2.2.2.2.2.2.2.2.2
  have hS : va_S (gA base) s.heap s.heap [] := va_S.rf
  have hiX7 : ∀ w ∈ wsX70, w ∈ wsX7_addHouse := by decide +kernel
  unfold f7_addHouse at hF
  refine lv_aload_n hx hb dX7_addHouse_0 rfl (lv_at hl 0 rfl) ?_
  refine lv_iconst (v := 0) hx hb dX7_addHouse_1 (by decide) ?_
  obtain ⟨h1, hF⟩ := g_if hF
  refine g_puti hx hb hts hiX7 tyX7 tyX7_ok nmX7 hown hK hP hS 7 rfl (by decide) h1 0 (by decide) (hts (.fieldLink RX7 35 "CourierBeesModel" "thrown" "I") (by decide +kernel)) (fun _ h9 => h9) (Or.inl rfl) (Or.inl rfl) rfl rfl dX7_addHouse_2 (fun H locs hP hS => ?_)
  refine lv_aload_n hx hb dX7_addHouse_5 rfl (lv_at hl 0 rfl) ?_
  refine g_get hx hb hts hiX7 hown hK hP 7 rfl (by decide) h1 1 (by decide) (hts (.fieldLink RX7 39 "CourierBeesModel" "houses" "I") (by decide +kernel)) (fun _ h9 => h9) (gFv_i (Or.inl rfl)) dX7_addHouse_6 ?_
  refine lv_bipush (v := 14) hx hb dX7_addHouse_9 (by decide) ?_
  refine lv_icmp_ne (tgt := 20) hx hb dX7_addHouse_11 (by decide) (fun c2 => ?_) (fun c2 => ?_)
  · have hF := g_f c2 hF
    refine lv_aload_n hx hb dX7_addHouse_20 rfl (lv_at hl 0 rfl) ?_
    refine lv_dup hx hb dX7_addHouse_21 rfl ?_
    refine g_get hx hb hts hiX7 hown hK hP 7 rfl (by decide) h1 1 (by decide) (hts (.fieldLink RX7 39 "CourierBeesModel" "houses" "I") (by decide +kernel)) (fun _ h9 => h9) (gFv_i (Or.inl rfl)) dX7_addHouse_22 ?_
    refine lv_iconst (v := 1) hx hb dX7_addHouse_25 (by decide) ?_
    refine lv_iadd hx hb dX7_addHouse_26 ?_
    obtain ⟨y3, e4, hF⟩ := g_let hF
    rw [e4]
    refine g_puti hx hb hts hiX7 tyX7 tyX7_ok nmX7 hown hK hP hS 7 rfl (by decide) h1 1 (by decide) (hts (.fieldLink RX7 39 "CourierBeesModel" "houses" "I") (by decide +kernel)) (fun _ h9 => h9) (Or.inl rfl) (Or.inl rfl) rfl rfl dX7_addHouse_27 (fun H locs hP hS => ?_)
    refine lv_aload_n hx hb dX7_addHouse_30 rfl (lv_at hl 0 rfl) ?_
    obtain ⟨g6, h5, hF⟩ := g_bind hF
    refine g_callv (va_runV (As := []) (rest := []) ⟨hx, hb, hml, hown, hts⟩ (k7_reckon l D base (gPI (gPI g a0 0 ((0 : Int32))) a0 1 y3) a0 g6 h5) (cwV 0 hts gX7_addHouse_X7_reckon rfl rfl rfl (by decide +kernel) ⟨Nat.le_of_ble_eq_true rfl, Nat.le_of_ble_eq_true rfl⟩) (gC.preV hE hP hS 7 rfl (by decide) h1 []) rfl rfl hl.1 rfl (lv_room (Nat.le_of_ble_eq_true rfl)) dX7_addHouse_31 ⟨(Nat.le_of_ble_eq_true rfl), (Nat.le_of_ble_eq_true rfl)⟩) hS (fun H locs hP hS => ?_)
    refine lv_aload_n hx hb dX7_addHouse_34 rfl (lv_at hl 0 rfl) ?_
    obtain ⟨h8, hF⟩ := g_if hF
    refine g_get hx hb hts hiX7 hown hK hP 7 rfl (by decide) h8 1 (by decide) (hts (.fieldLink RX7 39 "CourierBeesModel" "houses" "I") (by decide +kernel)) (fun _ h9 => h9) (gFv_i (Or.inl rfl)) dX7_addHouse_35 ?_
    refine lv_iconst (v := 1) hx hb dX7_addHouse_38 (by decide) ?_
    refine lv_isub hx hb dX7_addHouse_39 ?_
    exact g_retI hx hb hr hlocks hF hP hS (Nat.le_of_ble_eq_true rfl) (Nat.le_of_ble_eq_true rfl) dX7_addHouse_40
  · have hF := g_t c2 hF
    refine lv_aload_n hx hb dX7_addHouse_14 rfl (lv_at hl 0 rfl) ?_
    refine lv_iconst (v := 1) hx hb dX7_addHouse_15 (by decide) ?_
    obtain ⟨v11, g10, h9, hF⟩ := g_bind2 hF
    refine g_calli (va_runV (As := [.int ((1 : Int32))]) (rest := []) ⟨hx, hb, hml, hown, hts⟩ (k7_fail l D base (gPI g a0 0 ((0 : Int32))) a0 ((1 : Int32)) v11 g10 h9) (cwV 1 hts gX7_addHouse_X7_fail rfl rfl rfl (by decide +kernel) ⟨Nat.le_of_ble_eq_true rfl, Nat.le_of_ble_eq_true rfl⟩) (gC.preV hE hP hS 7 rfl (by decide) h1 [.int ((1 : Int32))]) rfl rfl hl.1 rfl (lv_room (Nat.le_of_ble_eq_true rfl)) dX7_addHouse_16 ⟨(Nat.le_of_ble_eq_true rfl), (Nat.le_of_ble_eq_true rfl)⟩) hS (fun H locs hP hS => ?_)
    exact g_retI hx hb hr hlocks hF hP hS (Nat.le_of_ble_eq_true rfl) (Nat.le_of_ble_eq_true rfl) dX7_addHouse_19
set_option maxHeartbeats 4000000 in
set_option maxRecDepth 100000 in
theorem k7_setHive (l : Launch) (D : va_G) (base : Nat) (g : g_H) (a0 : Nat) (x1 : Int32) (x2 : Int32) (rr : Int32) (gz : g_H) (hF : f7_setHive g a0 x1 x2 = some (rr, gz)) : Met l yX7_setHive wsX7_setHive ({ frames := 2, cells := 0, slots := 0, locals := 43 } : Room) (va_Pc [.ref a0, .int x1, .int x2] (gC base D g)) (gQi base D rr gz) 0 0 (gA base) := by
  refine g_met (cc := cX7_setHive) (maxL := 4) (ret := (some .boolean)) (lst := [(0, .ref a0), (1, .int x1), (2, .int x2)]) (by decide) rfl (Nat.le_of_ble_eq_true rfl) rfl ?_
  intro p e s m args below meth c ls hx hb hr hml hown hlocks hname hts hE hP hl
  have hown : s.vm.findClass RX7 = some m.cls := hown
  have hK := hE.1
  have hov := hE.2.2.2.2.2.2.2.1
  have hbz := hE.2.2.2.2.2.2.2.2.2.2.2.2
  have hS : va_S (gA base) s.heap s.heap [] := va_S.rf
  have hiX7 : ∀ w ∈ wsX70, w ∈ wsX7_setHive := by decide +kernel
  have HB14 : ∀ (g : g_H) (a0 : Nat) (x1 : Int32) (x2 : Int32) (s0 : Nat) (s1 : Int32) (H : Heap) (locs : List Loc) (ls : Array Slot), f7_setHive_14 g a0 x1 x2 s0 s1 = some (rr, gz) → gP base D s g H → va_S (gA base) s.heap H locs → lv_has ls 4 [(0, .ref a0), (1, .int x1), (2, .int x2)] → W p l e ({ frames := 2, cells := 0, slots := 0, locals := 43 } : Room) s m args below meth c H locs 0 0 (MQ below (gQi base D rr gz) args s 0 0 (gA base)) (F0 m 14 ls [.int s1, .ref s0]) := by
    intro g a0 x1 x2 s0 s1 H locs ls hF hP hS hl
    unfold f7_setHive_14 at hF
    obtain ⟨h6, hF⟩ := g_if hF
    refine g_puti hx hb hts hiX7 tyX7 tyX7_ok nmX7 hown hK hP hS 7 rfl (by decide) h6 0 (by decide) (hts (.fieldLink RX7 35 "CourierBeesModel" "thrown" "I") (by decide +kernel)) (fun _ h9 => h9) (Or.inl rfl) (Or.inl rfl) rfl rfl dX7_setHive_14 (fun H locs hP hS => ?_)
    refine lv_aload_n hx hb dX7_setHive_17 rfl (lv_at hl 0 rfl) ?_
    obtain ⟨h7, hF⟩ := g_if hF
    refine g_get hx hb hts hiX7 hown hK hP 7 rfl (by decide) h7 0 (by decide) (hts (.fieldLink RX7 35 "CourierBeesModel" "thrown" "I") (by decide +kernel)) (fun _ h9 => h9) (gFv_i (Or.inl rfl)) dX7_setHive_18 ?_
    refine lv_if_eq (tgt := 26) hx hb dX7_setHive_21 (by decide) (fun c8 => ?_) (fun c8 => ?_)
    · have hF := g_t c8 hF
      refine lv_aload_n hx hb dX7_setHive_26 rfl (lv_at hl 0 rfl) ?_
      obtain ⟨q9, hq10, hF⟩ := g_bind hF
      refine g_get hx hb hts hiX7 hown hK hP 7 rfl (by decide) h7 2 (by decide) (hts (.fieldLink RX7 9 "CourierBeesModel" "hives" "[Z") (by decide +kernel)) (fun _ h9 => h9) ((gFv_r (by decide)).trans (congrArg va_rf hq10)) dX7_setHive_27 ?_
      refine lv_iload_n hx hb dX7_setHive_30 rfl (lv_at hl 1 rfl) ?_
      obtain ⟨h11, hF⟩ := g_if hF
      obtain ⟨h12, hF⟩ := g_if hF
      refine g_zald hx hb hP (g_pr h11) h12 dX7_setHive_31 ?_
      refine lv_istore_n (lv' := [(3, .int (gI (gPI g s0 0 s1) q9 (Int32.toNatClampNeg x1))), (0, .ref a0), (1, .int x1), (2, .int x2)]) hx hb dX7_setHive_32 rfl hl (by decide) rfl (fun ls hl => ?_)
      refine lv_aload_n hx hb dX7_setHive_33 rfl (lv_at hl 1 rfl) ?_
      obtain ⟨q13, hq14, hF⟩ := g_bind hF
      refine g_get hx hb hts hiX7 hown hK hP 7 rfl (by decide) h7 2 (by decide) (hts (.fieldLink RX7 9 "CourierBeesModel" "hives" "[Z") (by decide +kernel)) (fun _ h9 => h9) ((gFv_r (by decide)).trans (congrArg va_rf hq14)) dX7_setHive_34 ?_
      refine lv_iload_n hx hb dX7_setHive_37 rfl (lv_at hl 2 rfl) ?_
      refine lv_iload_n hx hb dX7_setHive_38 rfl (lv_at hl 3 rfl) ?_
      obtain ⟨h15, hF⟩ := g_if hF
      obtain ⟨h16, hF⟩ := g_if hF
      obtain ⟨h17, hF⟩ := g_if hF
      refine g_zast hx hb hP hS (g_pr h15) h16 h17 dX7_setHive_39 (fun H locs hP hS => ?_)
      refine lv_iload_n hx hb dX7_setHive_40 rfl (lv_at hl 0 rfl) ?_
      obtain ⟨h18, hF⟩ := g_if hF
      exact g_retZ hx hb hr h18 hlocks hF hP hS (Nat.le_of_ble_eq_true rfl) (Nat.le_of_ble_eq_true rfl) dX7_setHive_41
    · have hF := g_f c8 hF
      refine lv_iconst (v := 0) hx hb dX7_setHive_24 (by decide) ?_
      exact g_retZ hx hb hr (Or.inl rfl) hlocks hF hP hS (Nat.le_of_ble_eq_true rfl) (Nat.le_of_ble_eq_true rfl) dX7_setHive_25
  unfold f7_setHive at hF
  refine lv_aload_n hx hb dX7_setHive_0 rfl (lv_at hl 0 rfl) ?_
  refine lv_aload_n hx hb dX7_setHive_1 rfl (lv_at hl 0 rfl) ?_
  refine lv_iload_n hx hb dX7_setHive_2 rfl (lv_at hl 1 rfl) ?_
  obtain ⟨h2, hF⟩ := g_if hF
  obtain ⟨v4, g3, h1, hF⟩ := g_bind2 hF
  refine g_calli (va_runV (As := [.int x1]) (rest := [.ref a0]) ⟨hx, hb, hml, hown, hts⟩ (k7_isHouse l D base g a0 x1 v4 g3 h1) (cwV 1 hts gX7_setHive_X7_isHouse rfl rfl rfl (by decide +kernel) ⟨Nat.le_of_ble_eq_true rfl, Nat.le_of_ble_eq_true rfl⟩) (gC.preV hE hP hS 7 rfl (by decide) h2 [.int x1]) rfl rfl hl.1 rfl (lv_room (Nat.le_of_ble_eq_true rfl)) dX7_setHive_3 ⟨(Nat.le_of_ble_eq_true rfl), (Nat.le_of_ble_eq_true rfl)⟩) hS (fun H locs hP hS => ?_)
  refine lv_if_eq (tgt := 13) hx hb dX7_setHive_6 (by decide) (fun c5 => ?_) (fun c5 => ?_)
  · have hF := g_t c5 hF
    refine lv_iconst (v := 1) hx hb dX7_setHive_13 (by decide) ?_
    exact HB14 _ _ _ _ _ _ _ _ _ hF hP hS (lv_sub hl [0, 1, 2] rfl)
  · have hF := g_f c5 hF
    refine lv_iconst (v := 0) hx hb dX7_setHive_9 (by decide) ?_
    refine lv_goto (tgt := 14) hx hb dX7_setHive_10 (by decide) ?_
    exact HB14 _ _ _ _ _ _ _ _ _ hF hP hS (lv_sub hl [0, 1, 2] rfl)
set_option maxHeartbeats 4000000 in
set_option maxRecDepth 100000 in
theorem k7_addLane (l : Launch) (D : va_G) (base : Nat) (g : g_H) (a0 : Nat) (x1 : Int32) (x2 : Int32) (x3 : Int32) (rr : Int32) (gz : g_H) (hF : f7_addLane g a0 x1 x2 x3 = some (rr, gz)) : Met l yX7_addLane wsX7_addLane ({ frames := 2, cells := 1, slots := 5, locals := 47 } : Room) (va_Pc [.ref a0, .int x1, .int x2, .int x3] (gC base D g)) (gQi base D rr gz) 1 5 (gA base) := by
  refine g_met (cc := cX7_addLane) (maxL := 5) (ret := (some .int)) (lst := [(0, .ref a0), (1, .int x1), (2, .int x2), (3, .int x3)]) (by decide) rfl (Nat.le_of_ble_eq_true rfl) rfl ?_
  intro p e s m args below meth c ls hx hb hr hml hown hlocks hname hts hE hP hl
  have hown : s.vm.findClass RX7 = some m.cls := hown
  have hK := hE.1
  have hov := hE.2.2.2.2.2.2.2.1
  have hbz := hE.2.2.2.2.2.2.2.2.2.2.2.2
  have hS : va_S (gA base) s.heap s.heap [] := va_S.rf
  have hiX7 : ∀ w ∈ wsX70, w ∈ wsX7_addLane := by decide +kernel
  have HB21 : ∀ (g : g_H) (a0 : Nat) (H : Heap) (locs : List Loc) (ls : Array Slot), f7_addLane_21 g a0 = some (rr, gz) → gP base D s g H → va_S (gA base) s.heap H locs → lv_has ls 5 [(0, .ref a0)] → W p l e ({ frames := 2, cells := 1, slots := 5, locals := 47 } : Room) s m args below meth c H locs 0 0 (MQ below (gQi base D rr gz) args s 1 5 (gA base)) (F0 m 21 ls []) := by
    intro g a0 H locs ls hF hP hS hl
    unfold f7_addLane_21 at hF
    refine lv_aload_n hx hb dX7_addLane_21 rfl (lv_at hl 0 rfl) ?_
    refine lv_iconst (v := 1) hx hb dX7_addLane_22 (by decide) ?_
    obtain ⟨h7, hF⟩ := g_if hF
    obtain ⟨v9, g8, h6, hF⟩ := g_bind2 hF
    refine g_calli (va_runV (As := [.int ((1 : Int32))]) (rest := []) ⟨hx, hb, hml, hown, hts⟩ (k7_fail l D base g a0 ((1 : Int32)) v9 g8 h6) (cwV 1 hts gX7_addLane_X7_fail rfl rfl rfl (by decide +kernel) ⟨Nat.le_of_ble_eq_true rfl, Nat.le_of_ble_eq_true rfl⟩) (gC.preV hE hP hS 7 rfl (by decide) h7 [.int ((1 : Int32))]) rfl rfl hl.1 rfl (lv_room (Nat.le_of_ble_eq_true rfl)) dX7_addLane_23 ⟨(Nat.le_of_ble_eq_true rfl), (Nat.le_of_ble_eq_true rfl)⟩) hS (fun H locs hP hS => ?_)
    exact g_retI hx hb hr hlocks hF hP hS (Nat.le_of_ble_eq_true rfl) (Nat.le_of_ble_eq_true rfl) dX7_addLane_26
  have HB42 : ∀ (g : g_H) (a0 : Nat) (H : Heap) (locs : List Loc) (ls : Array Slot), f7_addLane_42 g a0 = some (rr, gz) → gP base D s g H → va_S (gA base) s.heap H locs → lv_has ls 5 [(0, .ref a0)] → W p l e ({ frames := 2, cells := 1, slots := 5, locals := 47 } : Room) s m args below meth c H locs 0 0 (MQ below (gQi base D rr gz) args s 1 5 (gA base)) (F0 m 42 ls []) := by
    intro g a0 H locs ls hF hP hS hl
    unfold f7_addLane_42 at hF
    refine lv_aload_n hx hb dX7_addLane_42 rfl (lv_at hl 0 rfl) ?_
    refine lv_iconst (v := 2) hx hb dX7_addLane_43 (by decide) ?_
    obtain ⟨h17, hF⟩ := g_if hF
    obtain ⟨v19, g18, h16, hF⟩ := g_bind2 hF
    refine g_calli (va_runV (As := [.int ((2 : Int32))]) (rest := []) ⟨hx, hb, hml, hown, hts⟩ (k7_fail l D base g a0 ((2 : Int32)) v19 g18 h16) (cwV 1 hts gX7_addLane_X7_fail rfl rfl rfl (by decide +kernel) ⟨Nat.le_of_ble_eq_true rfl, Nat.le_of_ble_eq_true rfl⟩) (gC.preV hE hP hS 7 rfl (by decide) h17 [.int ((2 : Int32))]) rfl rfl hl.1 rfl (lv_room (Nat.le_of_ble_eq_true rfl)) dX7_addLane_44 ⟨(Nat.le_of_ble_eq_true rfl), (Nat.le_of_ble_eq_true rfl)⟩) hS (fun H locs hP hS => ?_)
    exact g_retI hx hb hr hlocks hF hP hS (Nat.le_of_ble_eq_true rfl) (Nat.le_of_ble_eq_true rfl) dX7_addLane_47
  have HB64 : ∀ (g : g_H) (a0 : Nat) (H : Heap) (locs : List Loc) (ls : Array Slot), f7_addLane_64 g a0 = some (rr, gz) → gP base D s g H → va_S (gA base) s.heap H locs → lv_has ls 5 [(0, .ref a0)] → W p l e ({ frames := 2, cells := 1, slots := 5, locals := 47 } : Room) s m args below meth c H locs 0 0 (MQ below (gQi base D rr gz) args s 1 5 (gA base)) (F0 m 64 ls []) := by
    intro g a0 H locs ls hF hP hS hl
    unfold f7_addLane_64 at hF
    refine lv_aload_n hx hb dX7_addLane_64 rfl (lv_at hl 0 rfl) ?_
    refine lv_iconst (v := 3) hx hb dX7_addLane_65 (by decide) ?_
    obtain ⟨h27, hF⟩ := g_if hF
    obtain ⟨v29, g28, h26, hF⟩ := g_bind2 hF
    refine g_calli (va_runV (As := [.int ((3 : Int32))]) (rest := []) ⟨hx, hb, hml, hown, hts⟩ (k7_fail l D base g a0 ((3 : Int32)) v29 g28 h26) (cwV 1 hts gX7_addLane_X7_fail rfl rfl rfl (by decide +kernel) ⟨Nat.le_of_ble_eq_true rfl, Nat.le_of_ble_eq_true rfl⟩) (gC.preV hE hP hS 7 rfl (by decide) h27 [.int ((3 : Int32))]) rfl rfl hl.1 rfl (lv_room (Nat.le_of_ble_eq_true rfl)) dX7_addLane_66 ⟨(Nat.le_of_ble_eq_true rfl), (Nat.le_of_ble_eq_true rfl)⟩) hS (fun H locs hP hS => ?_)
    exact g_retI hx hb hr hlocks hF hP hS (Nat.le_of_ble_eq_true rfl) (Nat.le_of_ble_eq_true rfl) dX7_addLane_69
  unfold f7_addLane at hF
  refine lv_aload_n hx hb dX7_addLane_0 rfl (lv_at hl 0 rfl) ?_
  refine lv_iconst (v := 0) hx hb dX7_addLane_1 (by decide) ?_
  obtain ⟨h1, hF⟩ := g_if hF
  refine g_puti hx hb hts hiX7 tyX7 tyX7_ok nmX7 hown hK hP hS 7 rfl (by decide) h1 0 (by decide) (hts (.fieldLink RX7 35 "CourierBeesModel" "thrown" "I") (by decide +kernel)) (fun _ h9 => h9) (Or.inl rfl) (Or.inl rfl) rfl rfl dX7_addLane_2 (fun H locs hP hS => ?_)
  refine lv_aload_n hx hb dX7_addLane_5 rfl (lv_at hl 0 rfl) ?_
  refine lv_iload_n hx hb dX7_addLane_6 rfl (lv_at hl 1 rfl) ?_
  obtain ⟨v4, g3, h2, hF⟩ := g_bind2 hF
  refine g_calli (va_runV (As := [.int x1]) (rest := []) ⟨hx, hb, hml, hown, hts⟩ (k7_isHouse l D base (gPI g a0 0 ((0 : Int32))) a0 x1 v4 g3 h2) (cwV 1 hts gX7_addLane_X7_isHouse rfl rfl rfl (by decide +kernel) ⟨Nat.le_of_ble_eq_true rfl, Nat.le_of_ble_eq_true rfl⟩) (gC.preV hE hP hS 7 rfl (by decide) h1 [.int x1]) rfl rfl hl.1 rfl (lv_room (Nat.le_of_ble_eq_true rfl)) dX7_addLane_7 ⟨(Nat.le_of_ble_eq_true rfl), (Nat.le_of_ble_eq_true rfl)⟩) hS (fun H locs hP hS => ?_)
  refine lv_if_eq (tgt := 21) hx hb dX7_addLane_10 (by decide) (fun c5 => ?_) (fun c5 => ?_)
  · have hF := g_t c5 hF
    exact HB21 _ _ _ _ _ hF hP hS (lv_sub hl [0] rfl)
  · have hF := g_f c5 hF
    refine lv_aload_n hx hb dX7_addLane_13 rfl (lv_at hl 0 rfl) ?_
    refine lv_iload_n hx hb dX7_addLane_14 rfl (lv_at hl 2 rfl) ?_
    obtain ⟨h11, hF⟩ := g_if hF
    obtain ⟨v13, g12, h10, hF⟩ := g_bind2 hF
    refine g_calli (va_runV (As := [.int x2]) (rest := []) ⟨hx, hb, hml, hown, hts⟩ (k7_isHouse l D base g3 a0 x2 v13 g12 h10) (cwV 1 hts gX7_addLane_X7_isHouse rfl rfl rfl (by decide +kernel) ⟨Nat.le_of_ble_eq_true rfl, Nat.le_of_ble_eq_true rfl⟩) (gC.preV hE hP hS 7 rfl (by decide) h11 [.int x2]) rfl rfl hl.1 rfl (lv_room (Nat.le_of_ble_eq_true rfl)) dX7_addLane_15 ⟨(Nat.le_of_ble_eq_true rfl), (Nat.le_of_ble_eq_true rfl)⟩) hS (fun H locs hP hS => ?_)
    refine lv_if_ne (tgt := 27) hx hb dX7_addLane_18 (by decide) (fun c14 => ?_) (fun c14 => ?_)
    · have hF := g_f c14 hF
      refine lv_iload_n hx hb dX7_addLane_27 rfl (lv_at hl 1 rfl) ?_
      refine lv_iload_n hx hb dX7_addLane_28 rfl (lv_at hl 2 rfl) ?_
      refine lv_icmp_eq (tgt := 42) hx hb dX7_addLane_29 (by decide) (fun c15 => ?_) (fun c15 => ?_)
      · have hF := g_t c15 hF
        exact HB42 _ _ _ _ _ hF hP hS (lv_sub hl [0] rfl)
      · have hF := g_f c15 hF
        refine lv_iload_n hx hb dX7_addLane_32 rfl (lv_at hl 3 rfl) ?_
        refine lv_iconst (v := 1) hx hb dX7_addLane_33 (by decide) ?_
        refine lv_bipush (v := 6) hx hb dX7_addLane_34 (by decide) ?_
        obtain ⟨v22, g21, h20, hF⟩ := g_bind2 hF
        refine g_calli (va_runS (As := [.int x3, .int ((1 : Int32)), .int ((6 : Int32))]) (rest := []) ⟨hx, hb, hml, hown, hts⟩ (k7_isIn l D base g12 x3 ((1 : Int32)) ((6 : Int32)) v22 g21 h20) (va_cwS 3 hts gX7_addLane_X7_isIn rfl rfl rfl (by decide +kernel) ⟨Nat.le_of_ble_eq_true rfl, Nat.le_of_ble_eq_true rfl⟩) (gC.preS hE hP hS [.int x3, .int ((1 : Int32)), .int ((6 : Int32))]) rfl rfl hl.1 rfl (lv_room (Nat.le_of_ble_eq_true rfl)) dX7_addLane_36 ⟨(Nat.le_of_ble_eq_true rfl), (Nat.le_of_ble_eq_true rfl)⟩) hS (fun H locs hP hS => ?_)
        refine lv_if_ne (tgt := 48) hx hb dX7_addLane_39 (by decide) (fun c23 => ?_) (fun c23 => ?_)
        · have hF := g_f c23 hF
          refine lv_aload_n hx hb dX7_addLane_48 rfl (lv_at hl 0 rfl) ?_
          obtain ⟨h24, hF⟩ := g_if hF
          refine g_get hx hb hts hiX7 hown hK hP 7 rfl (by decide) h24 3 (by decide) (hts (.fieldLink RX7 46 "CourierBeesModel" "lanes" "I") (by decide +kernel)) (fun _ h9 => h9) (gFv_i (Or.inl rfl)) dX7_addLane_49 ?_
          refine lv_bipush (v := 24) hx hb dX7_addLane_52 (by decide) ?_
          refine lv_icmp_eq (tgt := 64) hx hb dX7_addLane_54 (by decide) (fun c25 => ?_) (fun c25 => ?_)
          · have hF := g_t c25 hF
            exact HB64 _ _ _ _ _ hF hP hS (lv_sub hl [0] rfl)
          · have hF := g_f c25 hF
            refine lv_aload_n hx hb dX7_addLane_57 rfl (lv_at hl 0 rfl) ?_
            refine g_get hx hb hts hiX7 hown hK hP 7 rfl (by decide) h24 6 (by decide) (hts (.fieldLink RX7 49 "CourierBeesModel" "bees" "I") (by decide +kernel)) (fun _ h9 => h9) (gFv_i (Or.inl rfl)) dX7_addLane_58 ?_
            refine lv_if_le (tgt := 70) hx hb dX7_addLane_61 (by decide) (fun c30 => ?_) (fun c30 => ?_)
            · have hF := g_t c30 hF
              refine lv_iconst (v := 5) hx hb dX7_addLane_70 (by decide) ?_
              obtain ⟨q31, g32, e33, e34, h35, hF⟩ := g_nw hF
              refine g_newa (atype := .int) hx hb (hts (.arrayClass .int) (by decide +kernel)) 11 rfl (by decide) rfl hP hS hbz (n := 5) (N' := 5) (by decide) (by decide) (Nat.le_of_ble_eq_true rfl) (Nat.le_of_ble_eq_true rfl) (Nat.le_of_ble_eq_true rfl) dX7_addLane_71 (fun H hP hS => ?_)
              rw [e34] at hP
              rw [e33]
              refine lv_dup hx hb dX7_addLane_73 rfl ?_
              refine lv_iconst (v := 0) hx hb dX7_addLane_74 (by decide) ?_
              refine lv_iload_n hx hb dX7_addLane_75 rfl (lv_at hl 1 rfl) ?_
              obtain ⟨h36, hF⟩ := g_if hF
              refine g_iast hx hb hP hS (g_pr h35) h36 dX7_addLane_76 (fun H locs hP hS => ?_)
              refine lv_dup hx hb dX7_addLane_77 rfl ?_
              refine lv_iconst (v := 1) hx hb dX7_addLane_78 (by decide) ?_
              refine lv_iload_n hx hb dX7_addLane_79 rfl (lv_at hl 2 rfl) ?_
              obtain ⟨h37, hF⟩ := g_if hF
              refine g_iast hx hb hP hS (g_pr h35) h37 dX7_addLane_80 (fun H locs hP hS => ?_)
              refine lv_dup hx hb dX7_addLane_81 rfl ?_
              refine lv_iconst (v := 2) hx hb dX7_addLane_82 (by decide) ?_
              refine lv_iload_n hx hb dX7_addLane_83 rfl (lv_at hl 3 rfl) ?_
              obtain ⟨h38, hF⟩ := g_if hF
              refine g_iast hx hb hP hS (g_pr h35) h38 dX7_addLane_84 (fun H locs hP hS => ?_)
              refine lv_dup hx hb dX7_addLane_85 rfl ?_
              refine lv_iconst (v := 3) hx hb dX7_addLane_86 (by decide) ?_
              refine lv_iconst (v := 0) hx hb dX7_addLane_87 (by decide) ?_
              obtain ⟨h39, hF⟩ := g_if hF
              refine g_iast hx hb hP hS (g_pr h35) h39 dX7_addLane_88 (fun H locs hP hS => ?_)
              refine lv_dup hx hb dX7_addLane_89 rfl ?_
              refine lv_iconst (v := 4) hx hb dX7_addLane_90 (by decide) ?_
              refine lv_bipush (v := 24) hx hb dX7_addLane_91 (by decide) ?_
              obtain ⟨h40, hF⟩ := g_if hF
              refine g_iast hx hb hP hS (g_pr h35) h40 dX7_addLane_93 (fun H locs hP hS => ?_)
              obtain ⟨g41, e42, hF⟩ := g_let hF
              rw [e42] at hP
              have h43 : (gS g41 q31).1 = 11 := by rw [← e42]; exact h35
              refine lv_astore (lv' := [(4, .ref q31), (0, .ref a0), (1, .int x1), (2, .int x2), (3, .int x3)]) hx hb dX7_addLane_94 hl (by decide) rfl (fun ls hl => ?_)
              refine lv_aload hx hb dX7_addLane_96 (lv_at hl 0 rfl) ?_
              refine lv_iconst (v := 0) hx hb dX7_addLane_98 (by decide) ?_
              refine lv_aload_n hx hb dX7_addLane_99 rfl (lv_at hl 1 rfl) ?_
              obtain ⟨h44, hF⟩ := g_if hF
              obtain ⟨q45, hq46, hF⟩ := g_bind hF
              refine g_get hx hb hts hiX7 hown hK hP 7 rfl (by decide) h44 4 (by decide) (hts (.fieldLink RX7 13 "CourierBeesModel" "roads" "[I") (by decide +kernel)) (fun _ h9 => h9) ((gFv_r (by decide)).trans (congrArg va_rf hq46)) dX7_addLane_100 ?_
              refine lv_iconst (v := 5) hx hb dX7_addLane_103 (by decide) ?_
              refine lv_aload_n hx hb dX7_addLane_104 rfl (lv_at hl 1 rfl) ?_
              refine g_get hx hb hts hiX7 hown hK hP 7 rfl (by decide) h44 3 (by decide) (hts (.fieldLink RX7 46 "CourierBeesModel" "lanes" "I") (by decide +kernel)) (fun _ h9 => h9) (gFv_i (Or.inl rfl)) dX7_addLane_105 ?_
              refine lv_imul hx hb dX7_addLane_108 ?_
              refine lv_iconst (v := 5) hx hb dX7_addLane_109 (by decide) ?_
              obtain ⟨h47, hF⟩ := g_if hF
              obtain ⟨h48, hF⟩ := g_if hF
              refine g_copy hx hb (hml.trans hl.1.symm) hown (hts (.methodLink RX7 75 arraycopyName) (by decide +kernel)) (hts (.native arraycopyName) (by decide +kernel)) (hts (.static arraycopyName) (by decide +kernel)) (hts (.initialized "java/lang/System") (by decide +kernel)) hP hS (g_pr h43) (g_pr h47) h48.1 h48.2.1 h48.2.2.1 h48.2.2.2.1 h48.2.2.2.2 (Nat.le_of_ble_eq_true rfl) (by decide) dX7_addLane_110 (fun H locs hP hS => ?_)
              refine lv_aload_n hx hb dX7_addLane_113 rfl (lv_at hl 1 rfl) ?_
              refine lv_dup hx hb dX7_addLane_114 rfl ?_
              refine g_get hx hb hts hiX7 hown hK hP 7 rfl (by decide) h44 3 (by decide) (hts (.fieldLink RX7 46 "CourierBeesModel" "lanes" "I") (by decide +kernel)) (fun _ h9 => h9) (gFv_i (Or.inl rfl)) dX7_addLane_115 ?_
              refine lv_iconst (v := 1) hx hb dX7_addLane_118 (by decide) ?_
              refine lv_iadd hx hb dX7_addLane_119 ?_
              obtain ⟨y49, e50, hF⟩ := g_let hF
              rw [e50]
              refine g_puti hx hb hts hiX7 tyX7 tyX7_ok nmX7 hown hK hP hS 7 rfl (by decide) h44 3 (by decide) (hts (.fieldLink RX7 46 "CourierBeesModel" "lanes" "I") (by decide +kernel)) (fun _ h9 => h9) (Or.inl rfl) (Or.inl rfl) rfl rfl dX7_addLane_120 (fun H locs hP hS => ?_)
              refine lv_aload_n hx hb dX7_addLane_123 rfl (lv_at hl 1 rfl) ?_
              obtain ⟨g52, h51, hF⟩ := g_bind hF
              refine g_callv (va_runV (As := []) (rest := []) ⟨hx, hb, hml, hown, hts⟩ (k7_reckon l D base (gPI (gPW g41 q45 (va_cpy (gI g41 q31) (gI g41 q45) (Int32.toNatClampNeg ((0 : Int32))) (Int32.toNatClampNeg (((5 : Int32)) * (gI g41 a0 3))) (Int32.toNatClampNeg ((5 : Int32))))) a0 3 y49) a0 g52 h51) (cwV 0 hts gX7_addLane_X7_reckon rfl rfl rfl (by decide +kernel) ⟨Nat.le_of_ble_eq_true rfl, Nat.le_of_ble_eq_true rfl⟩) (gC.preV hE hP hS 7 rfl (by decide) h44 []) rfl rfl hl.1 rfl (lv_room (Nat.le_of_ble_eq_true rfl)) dX7_addLane_124 ⟨(Nat.le_of_ble_eq_true rfl), (Nat.le_of_ble_eq_true rfl)⟩) hS (fun H locs hP hS => ?_)
              refine lv_aload_n hx hb dX7_addLane_127 rfl (lv_at hl 1 rfl) ?_
              obtain ⟨h54, hF⟩ := g_if hF
              refine g_get hx hb hts hiX7 hown hK hP 7 rfl (by decide) h54 3 (by decide) (hts (.fieldLink RX7 46 "CourierBeesModel" "lanes" "I") (by decide +kernel)) (fun _ h9 => h9) (gFv_i (Or.inl rfl)) dX7_addLane_128 ?_
              refine lv_iconst (v := 1) hx hb dX7_addLane_131 (by decide) ?_
              refine lv_isub hx hb dX7_addLane_132 ?_
              exact g_retI hx hb hr hlocks hF hP hS (Nat.le_of_ble_eq_true rfl) (Nat.le_of_ble_eq_true rfl) dX7_addLane_133
            · have hF := g_f c30 hF
              exact HB64 _ _ _ _ _ hF hP hS (lv_sub hl [0] rfl)
        · have hF := g_t c23 hF
          exact HB42 _ _ _ _ _ hF hP hS (lv_sub hl [0] rfl)
    · have hF := g_t c14 hF
      exact HB21 _ _ _ _ _ hF hP hS (lv_sub hl [0] rfl)
end
section
set_option maxHeartbeats 4000000 in
set_option maxRecDepth 100000 in
theorem k7_setGate (l : Launch) (D : va_G) (base : Nat) (g : g_H) (a0 : Nat) (x1 : Int32) (x2 : Int32) (x3 : Int32) (rr : Int32) (gz : g_H) (hF : f7_setGate g a0 x1 x2 x3 = some (rr, gz)) : Met l yX7_setGate wsX7_setGate ({ frames := 2, cells := 0, slots := 0, locals := 43 } : Room) (va_Pc [.ref a0, .int x1, .int x2, .int x3] (gC base D g)) (gQi base D rr gz) 0 0 (gA base) := by
  refine g_met (cc := cX7_setGate) (maxL := 5) (ret := (some .int)) (lst := [(0, .ref a0), (1, .int x1), (2, .int x2), (3, .int x3)]) (by decide) rfl (Nat.le_of_ble_eq_true rfl) rfl ?_
  intro p e s m args below meth c ls hx hb hr hml hown hlocks hname hts hE hP hl
  have hown : s.vm.findClass RX7 = some m.cls := hown
  have hK := hE.1
  have hov := hE.2.2.2.2.2.2.2.1
  have hbz := hE.2.2.2.2.2.2.2.2.2.2.2.2
  have hS : va_S (gA base) s.heap s.heap [] := va_S.rf
  have hiX7 : ∀ w ∈ wsX70, w ∈ wsX7_setGate := by decide +kernel
  have HB39 : ∀ (g : g_H) (a0 : Nat) (H : Heap) (locs : List Loc) (ls : Array Slot), f7_setGate_39 g a0 = some (rr, gz) → gP base D s g H → va_S (gA base) s.heap H locs → lv_has ls 5 [(0, .ref a0)] → W p l e ({ frames := 2, cells := 0, slots := 0, locals := 43 } : Room) s m args below meth c H locs 0 0 (MQ below (gQi base D rr gz) args s 0 0 (gA base)) (F0 m 39 ls []) := by
    intro g a0 H locs ls hF hP hS hl
    unfold f7_setGate_39 at hF
    refine lv_aload_n hx hb dX7_setGate_39 rfl (lv_at hl 0 rfl) ?_
    refine lv_iconst (v := 2) hx hb dX7_setGate_40 (by decide) ?_
    obtain ⟨h11, hF⟩ := g_if hF
    obtain ⟨v13, g12, h10, hF⟩ := g_bind2 hF
    refine g_calli (va_runV (As := [.int ((2 : Int32))]) (rest := []) ⟨hx, hb, hml, hown, hts⟩ (k7_fail l D base g a0 ((2 : Int32)) v13 g12 h10) (cwV 1 hts gX7_setGate_X7_fail rfl rfl rfl (by decide +kernel) ⟨Nat.le_of_ble_eq_true rfl, Nat.le_of_ble_eq_true rfl⟩) (gC.preV hE hP hS 7 rfl (by decide) h11 [.int ((2 : Int32))]) rfl rfl hl.1 rfl (lv_room (Nat.le_of_ble_eq_true rfl)) dX7_setGate_41 ⟨(Nat.le_of_ble_eq_true rfl), (Nat.le_of_ble_eq_true rfl)⟩) hS (fun H locs hP hS => ?_)
    exact g_retI hx hb hr hlocks hF hP hS (Nat.le_of_ble_eq_true rfl) (Nat.le_of_ble_eq_true rfl) dX7_setGate_44
  unfold f7_setGate at hF
  refine lv_aload_n hx hb dX7_setGate_0 rfl (lv_at hl 0 rfl) ?_
  refine lv_iconst (v := 0) hx hb dX7_setGate_1 (by decide) ?_
  obtain ⟨h1, hF⟩ := g_if hF
  refine g_puti hx hb hts hiX7 tyX7 tyX7_ok nmX7 hown hK hP hS 7 rfl (by decide) h1 0 (by decide) (hts (.fieldLink RX7 35 "CourierBeesModel" "thrown" "I") (by decide +kernel)) (fun _ h9 => h9) (Or.inl rfl) (Or.inl rfl) rfl rfl dX7_setGate_2 (fun H locs hP hS => ?_)
  refine lv_aload_n hx hb dX7_setGate_5 rfl (lv_at hl 0 rfl) ?_
  refine lv_iload_n hx hb dX7_setGate_6 rfl (lv_at hl 1 rfl) ?_
  obtain ⟨v4, g3, h2, hF⟩ := g_bind2 hF
  refine g_calli (va_runV (As := [.int x1]) (rest := []) ⟨hx, hb, hml, hown, hts⟩ (k7_isLane l D base (gPI g a0 0 ((0 : Int32))) a0 x1 v4 g3 h2) (cwV 1 hts gX7_setGate_X7_isLane rfl rfl rfl (by decide +kernel) ⟨Nat.le_of_ble_eq_true rfl, Nat.le_of_ble_eq_true rfl⟩) (gC.preV hE hP hS 7 rfl (by decide) h1 [.int x1]) rfl rfl hl.1 rfl (lv_room (Nat.le_of_ble_eq_true rfl)) dX7_setGate_7 ⟨(Nat.le_of_ble_eq_true rfl), (Nat.le_of_ble_eq_true rfl)⟩) hS (fun H locs hP hS => ?_)
  refine lv_if_ne (tgt := 19) hx hb dX7_setGate_10 (by decide) (fun c5 => ?_) (fun c5 => ?_)
  · have hF := g_f c5 hF
    refine lv_iload_n hx hb dX7_setGate_19 rfl (lv_at hl 2 rfl) ?_
    refine lv_iconst (v := 0) hx hb dX7_setGate_20 (by decide) ?_
    refine lv_bipush (v := 23) hx hb dX7_setGate_21 (by decide) ?_
    obtain ⟨v8, g7, h6, hF⟩ := g_bind2 hF
    refine g_calli (va_runS (As := [.int x2, .int ((0 : Int32)), .int ((23 : Int32))]) (rest := []) ⟨hx, hb, hml, hown, hts⟩ (k7_isIn l D base g3 x2 ((0 : Int32)) ((23 : Int32)) v8 g7 h6) (va_cwS 3 hts gX7_setGate_X7_isIn rfl rfl rfl (by decide +kernel) ⟨Nat.le_of_ble_eq_true rfl, Nat.le_of_ble_eq_true rfl⟩) (gC.preS hE hP hS [.int x2, .int ((0 : Int32)), .int ((23 : Int32))]) rfl rfl hl.1 rfl (lv_room (Nat.le_of_ble_eq_true rfl)) dX7_setGate_23 ⟨(Nat.le_of_ble_eq_true rfl), (Nat.le_of_ble_eq_true rfl)⟩) hS (fun H locs hP hS => ?_)
    refine lv_if_eq (tgt := 39) hx hb dX7_setGate_26 (by decide) (fun c9 => ?_) (fun c9 => ?_)
    · have hF := g_t c9 hF
      exact HB39 _ _ _ _ _ hF hP hS (lv_sub hl [0] rfl)
    · have hF := g_f c9 hF
      refine lv_iload_n hx hb dX7_setGate_29 rfl (lv_at hl 3 rfl) ?_
      refine lv_iload_n hx hb dX7_setGate_30 rfl (lv_at hl 2 rfl) ?_
      refine lv_bipush (v := 24) hx hb dX7_setGate_31 (by decide) ?_
      obtain ⟨v16, g15, h14, hF⟩ := g_bind2 hF
      refine g_calli (va_runS (As := [.int x3, .int x2, .int ((24 : Int32))]) (rest := []) ⟨hx, hb, hml, hown, hts⟩ (k7_isIn l D base g7 x3 x2 ((24 : Int32)) v16 g15 h14) (va_cwS 3 hts gX7_setGate_X7_isIn rfl rfl rfl (by decide +kernel) ⟨Nat.le_of_ble_eq_true rfl, Nat.le_of_ble_eq_true rfl⟩) (gC.preS hE hP hS [.int x3, .int x2, .int ((24 : Int32))]) rfl rfl hl.1 rfl (lv_room (Nat.le_of_ble_eq_true rfl)) dX7_setGate_33 ⟨(Nat.le_of_ble_eq_true rfl), (Nat.le_of_ble_eq_true rfl)⟩) hS (fun H locs hP hS => ?_)
      refine lv_if_ne (tgt := 45) hx hb dX7_setGate_36 (by decide) (fun c17 => ?_) (fun c17 => ?_)
      · have hF := g_f c17 hF
        refine lv_bipush (v := 100) hx hb dX7_setGate_45 (by decide) ?_
        refine lv_aload_n hx hb dX7_setGate_47 rfl (lv_at hl 0 rfl) ?_
        refine lv_iload_n hx hb dX7_setGate_48 rfl (lv_at hl 1 rfl) ?_
        refine lv_iconst (v := 3) hx hb dX7_setGate_49 (by decide) ?_
        obtain ⟨h19, hF⟩ := g_if hF
        obtain ⟨v21, g20, h18, hF⟩ := g_bind2 hF
        refine g_calli (va_runV (As := [.int x1, .int ((3 : Int32))]) (rest := [.int ((100 : Int32))]) ⟨hx, hb, hml, hown, hts⟩ (k7_ro l D base g15 a0 x1 ((3 : Int32)) v21 g20 h18) (cwV 2 hts gX7_setGate_X7_ro rfl rfl rfl (by decide +kernel) ⟨Nat.le_of_ble_eq_true rfl, Nat.le_of_ble_eq_true rfl⟩) (gC.preV hE hP hS 7 rfl (by decide) h19 [.int x1, .int ((3 : Int32))]) rfl rfl hl.1 rfl (lv_room (Nat.le_of_ble_eq_true rfl)) dX7_setGate_50 ⟨(Nat.le_of_ble_eq_true rfl), (Nat.le_of_ble_eq_true rfl)⟩) hS (fun H locs hP hS => ?_)
        refine lv_imul hx hb dX7_setGate_53 ?_
        refine lv_aload_n hx hb dX7_setGate_54 rfl (lv_at hl 0 rfl) ?_
        refine lv_iload_n hx hb dX7_setGate_55 rfl (lv_at hl 1 rfl) ?_
        refine lv_iconst (v := 4) hx hb dX7_setGate_56 (by decide) ?_
        obtain ⟨h23, hF⟩ := g_if hF
        obtain ⟨v25, g24, h22, hF⟩ := g_bind2 hF
        refine g_calli (va_runV (As := [.int x1, .int ((4 : Int32))]) (rest := [.int (((100 : Int32)) * v21)]) ⟨hx, hb, hml, hown, hts⟩ (k7_ro l D base g20 a0 x1 ((4 : Int32)) v25 g24 h22) (cwV 2 hts gX7_setGate_X7_ro rfl rfl rfl (by decide +kernel) ⟨Nat.le_of_ble_eq_true rfl, Nat.le_of_ble_eq_true rfl⟩) (gC.preV hE hP hS 7 rfl (by decide) h23 [.int x1, .int ((4 : Int32))]) rfl rfl hl.1 rfl (lv_room (Nat.le_of_ble_eq_true rfl)) dX7_setGate_57 ⟨(Nat.le_of_ble_eq_true rfl), (Nat.le_of_ble_eq_true rfl)⟩) hS (fun H locs hP hS => ?_)
        refine lv_iadd hx hb dX7_setGate_60 ?_
        refine lv_istore (lv' := [(4, .int ((((100 : Int32)) * v21) + v25)), (0, .ref a0), (1, .int x1), (2, .int x2), (3, .int x3)]) hx hb dX7_setGate_61 hl (by decide) rfl (fun ls hl => ?_)
        refine lv_aload_n hx hb dX7_setGate_63 rfl (lv_at hl 1 rfl) ?_
        obtain ⟨h26, hF⟩ := g_if hF
        obtain ⟨q27, hq28, hF⟩ := g_bind hF
        refine g_get hx hb hts hiX7 hown hK hP 7 rfl (by decide) h26 4 (by decide) (hts (.fieldLink RX7 13 "CourierBeesModel" "roads" "[I") (by decide +kernel)) (fun _ h9 => h9) ((gFv_r (by decide)).trans (congrArg va_rf hq28)) dX7_setGate_64 ?_
        refine lv_iconst (v := 5) hx hb dX7_setGate_67 (by decide) ?_
        refine lv_iload_n hx hb dX7_setGate_68 rfl (lv_at hl 2 rfl) ?_
        refine lv_imul hx hb dX7_setGate_69 ?_
        refine lv_iconst (v := 3) hx hb dX7_setGate_70 (by decide) ?_
        refine lv_iadd hx hb dX7_setGate_71 ?_
        refine lv_iload_n hx hb dX7_setGate_72 rfl (lv_at hl 3 rfl) ?_
        obtain ⟨h29, hF⟩ := g_if hF
        obtain ⟨h30, hF⟩ := g_if hF
        refine g_iast hx hb hP hS (g_pr h29) h30 dX7_setGate_73 (fun H locs hP hS => ?_)
        refine lv_aload_n hx hb dX7_setGate_74 rfl (lv_at hl 1 rfl) ?_
        obtain ⟨q31, hq32, hF⟩ := g_bind hF
        refine g_get hx hb hts hiX7 hown hK hP 7 rfl (by decide) h26 4 (by decide) (hts (.fieldLink RX7 13 "CourierBeesModel" "roads" "[I") (by decide +kernel)) (fun _ h9 => h9) ((gFv_r (by decide)).trans (congrArg va_rf hq32)) dX7_setGate_75 ?_
        refine lv_iconst (v := 5) hx hb dX7_setGate_78 (by decide) ?_
        refine lv_iload_n hx hb dX7_setGate_79 rfl (lv_at hl 2 rfl) ?_
        refine lv_imul hx hb dX7_setGate_80 ?_
        refine lv_iconst (v := 4) hx hb dX7_setGate_81 (by decide) ?_
        refine lv_iadd hx hb dX7_setGate_82 ?_
        refine lv_iload_n hx hb dX7_setGate_83 rfl (lv_at hl 4 rfl) ?_
        obtain ⟨h33, hF⟩ := g_if hF
        obtain ⟨h34, hF⟩ := g_if hF
        refine g_iast hx hb hP hS (g_pr h33) h34 dX7_setGate_84 (fun H locs hP hS => ?_)
        refine lv_iload hx hb dX7_setGate_85 (lv_at hl 0 rfl) ?_
        exact g_retI hx hb hr hlocks hF hP hS (Nat.le_of_ble_eq_true rfl) (Nat.le_of_ble_eq_true rfl) dX7_setGate_87
      · have hF := g_t c17 hF
        exact HB39 _ _ _ _ _ hF hP hS (lv_sub hl [0] rfl)
  · have hF := g_t c5 hF
    refine lv_aload_n hx hb dX7_setGate_13 rfl (lv_at hl 0 rfl) ?_
    refine lv_iconst (v := 1) hx hb dX7_setGate_14 (by decide) ?_
    obtain ⟨h36, hF⟩ := g_if hF
    obtain ⟨v38, g37, h35, hF⟩ := g_bind2 hF
    refine g_calli (va_runV (As := [.int ((1 : Int32))]) (rest := []) ⟨hx, hb, hml, hown, hts⟩ (k7_fail l D base g3 a0 ((1 : Int32)) v38 g37 h35) (cwV 1 hts gX7_setGate_X7_fail rfl rfl rfl (by decide +kernel) ⟨Nat.le_of_ble_eq_true rfl, Nat.le_of_ble_eq_true rfl⟩) (gC.preV hE hP hS 7 rfl (by decide) h36 [.int ((1 : Int32))]) rfl rfl hl.1 rfl (lv_room (Nat.le_of_ble_eq_true rfl)) dX7_setGate_15 ⟨(Nat.le_of_ble_eq_true rfl), (Nat.le_of_ble_eq_true rfl)⟩) hS (fun H locs hP hS => ?_)
    exact g_retI hx hb hr hlocks hF hP hS (Nat.le_of_ble_eq_true rfl) (Nat.le_of_ble_eq_true rfl) dX7_setGate_18
set_option maxHeartbeats 4000000 in
set_option maxRecDepth 100000 in
theorem k7_away (l : Launch) (D : va_G) (base : Nat) (g : g_H) (a0 : Nat) (x1 : Int32) (x2 : Int32) (rr : Int32) (gz : g_H) (hF : f7_away g a0 x1 x2 = some (rr, gz)) : Met l yX7_away wsX7_away ({ frames := 1, cells := 0, slots := 0, locals := 24 } : Room) (va_Pc [.ref a0, .int x1, .int x2] (gC base D g)) (gQi base D rr gz) 0 0 (gA base) := by
  refine g_met (cc := cX7_away) (maxL := 3) (ret := (some .int)) (lst := [(0, .ref a0), (1, .int x1), (2, .int x2)]) (by decide) rfl (Nat.le_of_ble_eq_true rfl) rfl ?_
  intro p e s m args below meth c ls hx hb hr hml hown hlocks hname hts hE hP hl
  have hown : s.vm.findClass RX7 = some m.cls := hown
  have hK := hE.1
  have hov := hE.2.2.2.2.2.2.2.1
  have hbz := hE.2.2.2.2.2.2.2.2.2.2.2.2
  have hS : va_S (gA base) s.heap s.heap [] := va_S.rf
  have hiX7 : ∀ w ∈ wsX70, w ∈ wsX7_away := by decide +kernel
  unfold f7_away at hF
  refine lv_sipush (v := 9999) hx hb dX7_away_0 (by decide) ?_
  refine lv_aload_n hx hb dX7_away_3 rfl (lv_at hl 0 rfl) ?_
  obtain ⟨h1, hF⟩ := g_if hF
  obtain ⟨q2, hq3, hF⟩ := g_bind hF
  refine g_get hx hb hts hiX7 hown hK hP 7 rfl (by decide) h1 5 (by decide) (hts (.fieldLink RX7 17 "CourierBeesModel" "ways" "[I") (by decide +kernel)) (fun _ h9 => h9) ((gFv_r (by decide)).trans (congrArg va_rf hq3)) dX7_away_4 ?_
  refine lv_bipush (v := 14) hx hb dX7_away_7 (by decide) ?_
  refine lv_iload_n hx hb dX7_away_9 rfl (lv_at hl 1 rfl) ?_
  refine lv_imul hx hb dX7_away_10 ?_
  refine lv_iload_n hx hb dX7_away_11 rfl (lv_at hl 2 rfl) ?_
  refine lv_iadd hx hb dX7_away_12 ?_
  obtain ⟨h4, hF⟩ := g_if hF
  obtain ⟨h5, hF⟩ := g_if hF
  refine g_iald hx hb hP (g_pr h4) h5 dX7_away_13 ?_
  refine va_mmin hx hb (hml.trans hl.1.symm) hown (hts (.methodLink RX7 70 Lib.Math.min.name) (by decide +kernel)) (hts (.static Lib.Math.min.name) (by decide +kernel)) (hts (.initialized "java/lang/Math") (by decide +kernel)) (hts (.code Lib.Math.min.name Lib.Math.min.code 2 (some .int)) (by decide +kernel)) (Nat.le_of_ble_eq_true rfl) (Nat.le_of_ble_eq_true rfl) (Nat.le_of_ble_eq_true rfl) (Nat.le_of_ble_eq_true rfl) dX7_away_14 ?_
  exact g_retI hx hb hr hlocks hF hP hS (Nat.le_of_ble_eq_true rfl) (Nat.le_of_ble_eq_true rfl) dX7_away_17
set_option maxHeartbeats 4000000 in
set_option maxRecDepth 100000 in
theorem k7_way (l : Launch) (D : va_G) (base : Nat) (g : g_H) (a0 : Nat) (x1 : Int32) (x2 : Int32) (rr : Int32) (gz : g_H) (hF : f7_way g a0 x1 x2 = some (rr, gz)) : Met l yX7_way wsX7_way ({ frames := 2, cells := 0, slots := 0, locals := 46 } : Room) (va_Pc [.ref a0, .int x1, .int x2] (gC base D g)) (gQi base D rr gz) 0 0 (gA base) := by
  refine g_met (cc := cX7_way) (maxL := 3) (ret := (some .int)) (lst := [(0, .ref a0), (1, .int x1), (2, .int x2)]) (by decide) rfl (Nat.le_of_ble_eq_true rfl) rfl ?_
  intro p e s m args below meth c ls hx hb hr hml hown hlocks hname hts hE hP hl
  have hown : s.vm.findClass RX7 = some m.cls := hown
  have hK := hE.1
  have hov := hE.2.2.2.2.2.2.2.1
  have hbz := hE.2.2.2.2.2.2.2.2.2.2.2.2
  have hS : va_S (gA base) s.heap s.heap [] := va_S.rf
  have hiX7 : ∀ w ∈ wsX70, w ∈ wsX7_way := by decide +kernel
  have HB21 : ∀ (g : g_H) (a0 : Nat) (H : Heap) (locs : List Loc) (ls : Array Slot), f7_way_21 g a0 = some (rr, gz) → gP base D s g H → va_S (gA base) s.heap H locs → lv_has ls 3 [(0, .ref a0)] → W p l e ({ frames := 2, cells := 0, slots := 0, locals := 46 } : Room) s m args below meth c H locs 0 0 (MQ below (gQi base D rr gz) args s 0 0 (gA base)) (F0 m 21 ls []) := by
    intro g a0 H locs ls hF hP hS hl
    unfold f7_way_21 at hF
    refine lv_aload_n hx hb dX7_way_21 rfl (lv_at hl 0 rfl) ?_
    refine lv_iconst (v := 1) hx hb dX7_way_22 (by decide) ?_
    obtain ⟨h7, hF⟩ := g_if hF
    obtain ⟨v9, g8, h6, hF⟩ := g_bind2 hF
    refine g_calli (va_runV (As := [.int ((1 : Int32))]) (rest := []) ⟨hx, hb, hml, hown, hts⟩ (k7_fail l D base g a0 ((1 : Int32)) v9 g8 h6) (cwV 1 hts gX7_way_X7_fail rfl rfl rfl (by decide +kernel) ⟨Nat.le_of_ble_eq_true rfl, Nat.le_of_ble_eq_true rfl⟩) (gC.preV hE hP hS 7 rfl (by decide) h7 [.int ((1 : Int32))]) rfl rfl hl.1 rfl (lv_room (Nat.le_of_ble_eq_true rfl)) dX7_way_23 ⟨(Nat.le_of_ble_eq_true rfl), (Nat.le_of_ble_eq_true rfl)⟩) hS (fun H locs hP hS => ?_)
    exact g_retI hx hb hr hlocks hF hP hS (Nat.le_of_ble_eq_true rfl) (Nat.le_of_ble_eq_true rfl) dX7_way_26
  unfold f7_way at hF
  refine lv_aload_n hx hb dX7_way_0 rfl (lv_at hl 0 rfl) ?_
  refine lv_iconst (v := 0) hx hb dX7_way_1 (by decide) ?_
  obtain ⟨h1, hF⟩ := g_if hF
  refine g_puti hx hb hts hiX7 tyX7 tyX7_ok nmX7 hown hK hP hS 7 rfl (by decide) h1 0 (by decide) (hts (.fieldLink RX7 35 "CourierBeesModel" "thrown" "I") (by decide +kernel)) (fun _ h9 => h9) (Or.inl rfl) (Or.inl rfl) rfl rfl dX7_way_2 (fun H locs hP hS => ?_)
  refine lv_aload_n hx hb dX7_way_5 rfl (lv_at hl 0 rfl) ?_
  refine lv_iload_n hx hb dX7_way_6 rfl (lv_at hl 1 rfl) ?_
  obtain ⟨v4, g3, h2, hF⟩ := g_bind2 hF
  refine g_calli (va_runV (As := [.int x1]) (rest := []) ⟨hx, hb, hml, hown, hts⟩ (k7_isHouse l D base (gPI g a0 0 ((0 : Int32))) a0 x1 v4 g3 h2) (cwV 1 hts gX7_way_X7_isHouse rfl rfl rfl (by decide +kernel) ⟨Nat.le_of_ble_eq_true rfl, Nat.le_of_ble_eq_true rfl⟩) (gC.preV hE hP hS 7 rfl (by decide) h1 [.int x1]) rfl rfl hl.1 rfl (lv_room (Nat.le_of_ble_eq_true rfl)) dX7_way_7 ⟨(Nat.le_of_ble_eq_true rfl), (Nat.le_of_ble_eq_true rfl)⟩) hS (fun H locs hP hS => ?_)
  refine lv_if_eq (tgt := 21) hx hb dX7_way_10 (by decide) (fun c5 => ?_) (fun c5 => ?_)
  · have hF := g_t c5 hF
    exact HB21 _ _ _ _ _ hF hP hS (lv_sub hl [0] rfl)
  · have hF := g_f c5 hF
    refine lv_aload_n hx hb dX7_way_13 rfl (lv_at hl 0 rfl) ?_
    refine lv_iload_n hx hb dX7_way_14 rfl (lv_at hl 2 rfl) ?_
    obtain ⟨h11, hF⟩ := g_if hF
    obtain ⟨v13, g12, h10, hF⟩ := g_bind2 hF
    refine g_calli (va_runV (As := [.int x2]) (rest := []) ⟨hx, hb, hml, hown, hts⟩ (k7_isHouse l D base g3 a0 x2 v13 g12 h10) (cwV 1 hts gX7_way_X7_isHouse rfl rfl rfl (by decide +kernel) ⟨Nat.le_of_ble_eq_true rfl, Nat.le_of_ble_eq_true rfl⟩) (gC.preV hE hP hS 7 rfl (by decide) h11 [.int x2]) rfl rfl hl.1 rfl (lv_room (Nat.le_of_ble_eq_true rfl)) dX7_way_15 ⟨(Nat.le_of_ble_eq_true rfl), (Nat.le_of_ble_eq_true rfl)⟩) hS (fun H locs hP hS => ?_)
    refine lv_if_ne (tgt := 27) hx hb dX7_way_18 (by decide) (fun c14 => ?_) (fun c14 => ?_)
    · have hF := g_f c14 hF
      refine lv_aload_n hx hb dX7_way_27 rfl (lv_at hl 0 rfl) ?_
      refine lv_iload_n hx hb dX7_way_28 rfl (lv_at hl 1 rfl) ?_
      refine lv_iload_n hx hb dX7_way_29 rfl (lv_at hl 2 rfl) ?_
      obtain ⟨h16, hF⟩ := g_if hF
      obtain ⟨v18, g17, h15, hF⟩ := g_bind2 hF
      refine g_calli (va_runV (As := [.int x1, .int x2]) (rest := []) ⟨hx, hb, hml, hown, hts⟩ (k7_away l D base g12 a0 x1 x2 v18 g17 h15) (cwV 2 hts gX7_way_X7_away rfl rfl rfl (by decide +kernel) ⟨Nat.le_of_ble_eq_true rfl, Nat.le_of_ble_eq_true rfl⟩) (gC.preV hE hP hS 7 rfl (by decide) h16 [.int x1, .int x2]) rfl rfl hl.1 rfl (lv_room (Nat.le_of_ble_eq_true rfl)) dX7_way_30 ⟨(Nat.le_of_ble_eq_true rfl), (Nat.le_of_ble_eq_true rfl)⟩) hS (fun H locs hP hS => ?_)
      refine lv_sipush (v := 9999) hx hb dX7_way_33 (by decide) ?_
      refine lv_icmp_ne (tgt := 43) hx hb dX7_way_36 (by decide) (fun c19 => ?_) (fun c19 => ?_)
      · have hF := g_f c19 hF
        refine lv_aload_n hx hb dX7_way_43 rfl (lv_at hl 0 rfl) ?_
        refine lv_iload_n hx hb dX7_way_44 rfl (lv_at hl 1 rfl) ?_
        refine lv_iload_n hx hb dX7_way_45 rfl (lv_at hl 2 rfl) ?_
        obtain ⟨h21, hF⟩ := g_if hF
        obtain ⟨v23, g22, h20, hF⟩ := g_bind2 hF
        refine g_calli (va_runV (As := [.int x1, .int x2]) (rest := []) ⟨hx, hb, hml, hown, hts⟩ (k7_away l D base g17 a0 x1 x2 v23 g22 h20) (cwV 2 hts gX7_way_X7_away rfl rfl rfl (by decide +kernel) ⟨Nat.le_of_ble_eq_true rfl, Nat.le_of_ble_eq_true rfl⟩) (gC.preV hE hP hS 7 rfl (by decide) h21 [.int x1, .int x2]) rfl rfl hl.1 rfl (lv_room (Nat.le_of_ble_eq_true rfl)) dX7_way_46 ⟨(Nat.le_of_ble_eq_true rfl), (Nat.le_of_ble_eq_true rfl)⟩) hS (fun H locs hP hS => ?_)
        exact g_retI hx hb hr hlocks hF hP hS (Nat.le_of_ble_eq_true rfl) (Nat.le_of_ble_eq_true rfl) dX7_way_49
      · have hF := g_t c19 hF
        refine lv_iconst (v := (-1)) hx hb dX7_way_39 (by decide) ?_
        refine lv_goto (tgt := 49) hx hb dX7_way_40 (by decide) ?_
        exact g_retI hx hb hr hlocks hF hP hS (Nat.le_of_ble_eq_true rfl) (Nat.le_of_ble_eq_true rfl) dX7_way_49
    · have hF := g_t c14 hF
      exact HB21 _ _ _ _ _ hF hP hS (lv_sub hl [0] rfl)
set_option maxHeartbeats 4000000 in
set_option maxRecDepth 100000 in
theorem k7_lane (l : Launch) (D : va_G) (base : Nat) (g : g_H) (a0 : Nat) (x1 : Int32) (x2 : Int32) (rr : Int32) (gz : g_H) (hF : f7_lane g a0 x1 x2 = some (rr, gz)) : Met l yX7_lane wsX7_lane ({ frames := 1, cells := 0, slots := 0, locals := 22 } : Room) (va_Pc [.ref a0, .int x1, .int x2] (gC base D g)) (gQi base D rr gz) 0 0 (gA base) := by
  refine g_met (cc := cX7_lane) (maxL := 6) (ret := (some .int)) (lst := [(0, .ref a0), (1, .int x1), (2, .int x2)]) (by decide) rfl (Nat.le_of_ble_eq_true rfl) rfl ?_
  intro p e s m args below meth c ls hx hb hr hml hown hlocks hname hts hE hP hl
  have hown : s.vm.findClass RX7 = some m.cls := hown
  have hK := hE.1
  have hov := hE.2.2.2.2.2.2.2.1
  have hbz := hE.2.2.2.2.2.2.2.2.2.2.2.2
  have hS : va_S (gA base) s.heap s.heap [] := va_S.rf
  have hiX7 : ∀ w ∈ wsX70, w ∈ wsX7_lane := by decide +kernel
  have HL5 : ∀ (n5 : Nat), ∀ (g : g_H) (a0 : Nat) (x1 : Int32) (x2 : Int32) (x3 : Int32) (x4 : Int32) (H : Heap) (locs : List Loc) (ls : Array Slot), f7_lane_5 n5 g a0 x1 x2 x3 x4 = some (rr, gz) → gP base D s g H → va_S (gA base) s.heap H locs → lv_has ls 6 [(0, .ref a0), (1, .int x1), (2, .int x2), (3, .int x3), (4, .int x4)] → W p l e ({ frames := 1, cells := 0, slots := 0, locals := 22 } : Room) s m args below meth c H locs 0 0 (MQ below (gQi base D rr gz) args s 0 0 (gA base)) (F0 m 5 ls []) := by
    intro n5
    induction n5 with
    | zero => intro g a0 x1 x2 x3 x4 H locs ls hF hP hS hl; exact g_no hF
    | succ n5 ih5 =>
      have HB94 : ∀ (g : g_H) (a0 : Nat) (x1 : Int32) (x2 : Int32) (x3 : Int32) (x4 : Int32) (H : Heap) (locs : List Loc) (ls : Array Slot), f7_lane_94 (f7_lane_5 n5) g a0 x1 x2 x3 x4 = some (rr, gz) → gP base D s g H → va_S (gA base) s.heap H locs → lv_has ls 6 [(0, .ref a0), (1, .int x1), (2, .int x2), (3, .int x3), (4, .int x4)] → W p l e ({ frames := 1, cells := 0, slots := 0, locals := 22 } : Room) s m args below meth c H locs 0 0 (MQ below (gQi base D rr gz) args s 0 0 (gA base)) (F0 m 94 ls []) := by
        intro g a0 x1 x2 x3 x4 H locs ls hF hP hS hl
        unfold f7_lane_94 at hF
        refine lv_iinc (v := x4 + (1 : Int32)) (lv' := [(4, .int (x4 + (1 : Int32))), (0, .ref a0), (1, .int x1), (2, .int x2), (3, .int x3)]) hx hb dX7_lane_94 hl (k := 4) rfl rfl (by decide) rfl (fun ls hl => ?_)
        refine lv_goto (tgt := 5) hx hb dX7_lane_97 (by decide) ?_
        exact ih5 _ _ _ _ _ _ _ _ _ hF hP hS (lv_sub hl [1, 2, 3, 4, 0] rfl)
      have HB91 : ∀ (g : g_H) (a0 : Nat) (x1 : Int32) (x2 : Int32) (x4 : Int32) (H : Heap) (locs : List Loc) (ls : Array Slot), f7_lane_91 (f7_lane_5 n5) g a0 x1 x2 x4 = some (rr, gz) → gP base D s g H → va_S (gA base) s.heap H locs → lv_has ls 6 [(0, .ref a0), (1, .int x1), (2, .int x2), (4, .int x4)] → W p l e ({ frames := 1, cells := 0, slots := 0, locals := 22 } : Room) s m args below meth c H locs 0 0 (MQ below (gQi base D rr gz) args s 0 0 (gA base)) (F0 m 91 ls []) := by
        intro g a0 x1 x2 x4 H locs ls hF hP hS hl
        unfold f7_lane_91 at hF
        refine lv_iload hx hb dX7_lane_91 (lv_at hl 3 rfl) ?_
        refine lv_istore_n (lv' := [(3, .int x4), (0, .ref a0), (1, .int x1), (2, .int x2), (4, .int x4)]) hx hb dX7_lane_93 rfl hl (by decide) rfl (fun ls hl => ?_)
        exact HB94 _ _ _ _ _ _ _ _ _ hF hP hS (lv_sub hl [1, 2, 3, 0, 4] rfl)
      have HB63 : ∀ (g : g_H) (a0 : Nat) (x1 : Int32) (x2 : Int32) (x3 : Int32) (x4 : Int32) (s0 : Int32) (H : Heap) (locs : List Loc) (ls : Array Slot), f7_lane_63 (f7_lane_5 n5) g a0 x1 x2 x3 x4 s0 = some (rr, gz) → gP base D s g H → va_S (gA base) s.heap H locs → lv_has ls 6 [(0, .ref a0), (1, .int x1), (2, .int x2), (3, .int x3), (4, .int x4)] → W p l e ({ frames := 1, cells := 0, slots := 0, locals := 22 } : Room) s m args below meth c H locs 0 0 (MQ below (gQi base D rr gz) args s 0 0 (gA base)) (F0 m 63 ls [.int s0]) := by
        intro g a0 x1 x2 x3 x4 s0 H locs ls hF hP hS hl
        unfold f7_lane_63 at hF
        refine lv_istore (lv' := [(5, .int s0), (0, .ref a0), (1, .int x1), (2, .int x2), (3, .int x3), (4, .int x4)]) hx hb dX7_lane_63 hl (by decide) rfl (fun ls hl => ?_)
        refine lv_iload hx hb dX7_lane_65 (lv_at hl 0 rfl) ?_
        refine lv_if_eq (tgt := 94) hx hb dX7_lane_67 (by decide) (fun c12 => ?_) (fun c12 => ?_)
        · have hF := g_t c12 hF
          exact HB94 _ _ _ _ _ _ _ _ _ hF hP hS (lv_sub hl [1, 2, 3, 4, 5] rfl)
        · have hF := g_f c12 hF
          refine lv_iload_n hx hb dX7_lane_70 rfl (lv_at hl 4 rfl) ?_
          refine lv_iconst (v := (-1)) hx hb dX7_lane_71 (by decide) ?_
          refine lv_icmp_eq (tgt := 91) hx hb dX7_lane_72 (by decide) (fun c13 => ?_) (fun c13 => ?_)
          · have hF := g_t c13 hF
            exact HB91 _ _ _ _ _ _ _ _ hF hP hS (lv_sub hl [1, 2, 3, 5] rfl)
          · have hF := g_f c13 hF
            refine lv_aload_n hx hb dX7_lane_75 rfl (lv_at hl 1 rfl) ?_
            refine lv_iload hx hb dX7_lane_76 (lv_at hl 5 rfl) ?_
            refine lv_iconst (v := 2) hx hb dX7_lane_78 (by decide) ?_
            obtain ⟨h15, hF⟩ := g_if hF
            obtain ⟨v17, g16, h14, hF⟩ := g_bind2 hF
            refine g_calli (va_runV (As := [.int x4, .int ((2 : Int32))]) (rest := []) ⟨hx, hb, hml, hown, hts⟩ (k7_ro l D base g a0 x4 ((2 : Int32)) v17 g16 h14) (cwV 2 hts gX7_lane_X7_ro rfl rfl rfl (by decide +kernel) ⟨Nat.le_of_ble_eq_true rfl, Nat.le_of_ble_eq_true rfl⟩) (gC.preV hE hP hS 7 rfl (by decide) h15 [.int x4, .int ((2 : Int32))]) rfl rfl hl.1 rfl (lv_room (Nat.le_of_ble_eq_true rfl)) dX7_lane_79 ⟨(Nat.le_of_ble_eq_true rfl), (Nat.le_of_ble_eq_true rfl)⟩) hS (fun H locs hP hS => ?_)
            refine lv_aload_n hx hb dX7_lane_82 rfl (lv_at hl 1 rfl) ?_
            refine lv_iload_n hx hb dX7_lane_83 rfl (lv_at hl 4 rfl) ?_
            refine lv_iconst (v := 2) hx hb dX7_lane_84 (by decide) ?_
            obtain ⟨h19, hF⟩ := g_if hF
            obtain ⟨v21, g20, h18, hF⟩ := g_bind2 hF
            refine g_calli (va_runV (As := [.int x3, .int ((2 : Int32))]) (rest := [.int v17]) ⟨hx, hb, hml, hown, hts⟩ (k7_ro l D base g16 a0 x3 ((2 : Int32)) v21 g20 h18) (cwV 2 hts gX7_lane_X7_ro rfl rfl rfl (by decide +kernel) ⟨Nat.le_of_ble_eq_true rfl, Nat.le_of_ble_eq_true rfl⟩) (gC.preV hE hP hS 7 rfl (by decide) h19 [.int x3, .int ((2 : Int32))]) rfl rfl hl.1 rfl (lv_room (Nat.le_of_ble_eq_true rfl)) dX7_lane_85 ⟨(Nat.le_of_ble_eq_true rfl), (Nat.le_of_ble_eq_true rfl)⟩) hS (fun H locs hP hS => ?_)
            refine lv_icmp_ge (tgt := 94) hx hb dX7_lane_88 (by decide) (fun c22 => ?_) (fun c22 => ?_)
            · have hF := g_t c22 hF
              exact HB94 _ _ _ _ _ _ _ _ _ hF hP hS (lv_sub hl [1, 2, 3, 4, 5] rfl)
            · have hF := g_f c22 hF
              exact HB91 _ _ _ _ _ _ _ _ hF hP hS (lv_sub hl [1, 2, 3, 5] rfl)
      have HB62 : ∀ (g : g_H) (a0 : Nat) (x1 : Int32) (x2 : Int32) (x3 : Int32) (x4 : Int32) (H : Heap) (locs : List Loc) (ls : Array Slot), f7_lane_62 (f7_lane_5 n5) g a0 x1 x2 x3 x4 = some (rr, gz) → gP base D s g H → va_S (gA base) s.heap H locs → lv_has ls 6 [(0, .ref a0), (1, .int x1), (2, .int x2), (3, .int x3), (4, .int x4)] → W p l e ({ frames := 1, cells := 0, slots := 0, locals := 22 } : Room) s m args below meth c H locs 0 0 (MQ below (gQi base D rr gz) args s 0 0 (gA base)) (F0 m 62 ls []) := by
        intro g a0 x1 x2 x3 x4 H locs ls hF hP hS hl
        unfold f7_lane_62 at hF
        refine lv_iconst (v := 0) hx hb dX7_lane_62 (by decide) ?_
        exact HB63 _ _ _ _ _ _ _ _ _ _ hF hP hS (lv_sub hl [0, 1, 2, 3, 4] rfl)
      have HB58 : ∀ (g : g_H) (a0 : Nat) (x1 : Int32) (x2 : Int32) (x3 : Int32) (x4 : Int32) (H : Heap) (locs : List Loc) (ls : Array Slot), f7_lane_58 (f7_lane_5 n5) g a0 x1 x2 x3 x4 = some (rr, gz) → gP base D s g H → va_S (gA base) s.heap H locs → lv_has ls 6 [(0, .ref a0), (1, .int x1), (2, .int x2), (3, .int x3), (4, .int x4)] → W p l e ({ frames := 1, cells := 0, slots := 0, locals := 22 } : Room) s m args below meth c H locs 0 0 (MQ below (gQi base D rr gz) args s 0 0 (gA base)) (F0 m 58 ls []) := by
        intro g a0 x1 x2 x3 x4 H locs ls hF hP hS hl
        unfold f7_lane_58 at hF
        refine lv_iconst (v := 1) hx hb dX7_lane_58 (by decide) ?_
        refine lv_goto (tgt := 63) hx hb dX7_lane_59 (by decide) ?_
        exact HB63 _ _ _ _ _ _ _ _ _ _ hF hP hS (lv_sub hl [0, 1, 2, 3, 4] rfl)
      have HB36 : ∀ (g : g_H) (a0 : Nat) (x1 : Int32) (x2 : Int32) (x3 : Int32) (x4 : Int32) (H : Heap) (locs : List Loc) (ls : Array Slot), f7_lane_36 (f7_lane_5 n5) g a0 x1 x2 x3 x4 = some (rr, gz) → gP base D s g H → va_S (gA base) s.heap H locs → lv_has ls 6 [(0, .ref a0), (1, .int x1), (2, .int x2), (3, .int x3), (4, .int x4)] → W p l e ({ frames := 1, cells := 0, slots := 0, locals := 22 } : Room) s m args below meth c H locs 0 0 (MQ below (gQi base D rr gz) args s 0 0 (gA base)) (F0 m 36 ls []) := by
        intro g a0 x1 x2 x3 x4 H locs ls hF hP hS hl
        unfold f7_lane_36 at hF
        refine lv_aload_n hx hb dX7_lane_36 rfl (lv_at hl 0 rfl) ?_
        refine lv_iload hx hb dX7_lane_37 (lv_at hl 4 rfl) ?_
        refine lv_iconst (v := 0) hx hb dX7_lane_39 (by decide) ?_
        obtain ⟨h8, hF⟩ := g_if hF
        obtain ⟨v10, g9, h7, hF⟩ := g_bind2 hF
        refine g_calli (va_runV (As := [.int x4, .int ((0 : Int32))]) (rest := []) ⟨hx, hb, hml, hown, hts⟩ (k7_ro l D base g a0 x4 ((0 : Int32)) v10 g9 h7) (cwV 2 hts gX7_lane_X7_ro rfl rfl rfl (by decide +kernel) ⟨Nat.le_of_ble_eq_true rfl, Nat.le_of_ble_eq_true rfl⟩) (gC.preV hE hP hS 7 rfl (by decide) h8 [.int x4, .int ((0 : Int32))]) rfl rfl hl.1 rfl (lv_room (Nat.le_of_ble_eq_true rfl)) dX7_lane_40 ⟨(Nat.le_of_ble_eq_true rfl), (Nat.le_of_ble_eq_true rfl)⟩) hS (fun H locs hP hS => ?_)
        refine lv_iload_n hx hb dX7_lane_43 rfl (lv_at hl 2 rfl) ?_
        refine lv_icmp_ne (tgt := 62) hx hb dX7_lane_44 (by decide) (fun c11 => ?_) (fun c11 => ?_)
        · have hF := g_f c11 hF
          exact HB62 _ _ _ _ _ _ _ _ _ hF hP hS (lv_sub hl [0, 1, 2, 3, 4] rfl)
        · have hF := g_t c11 hF
          refine lv_aload_n hx hb dX7_lane_47 rfl (lv_at hl 0 rfl) ?_
          refine lv_iload hx hb dX7_lane_48 (lv_at hl 4 rfl) ?_
          refine lv_iconst (v := 1) hx hb dX7_lane_50 (by decide) ?_
          obtain ⟨h24, hF⟩ := g_if hF
          obtain ⟨v26, g25, h23, hF⟩ := g_bind2 hF
          refine g_calli (va_runV (As := [.int x4, .int ((1 : Int32))]) (rest := []) ⟨hx, hb, hml, hown, hts⟩ (k7_ro l D base g9 a0 x4 ((1 : Int32)) v26 g25 h23) (cwV 2 hts gX7_lane_X7_ro rfl rfl rfl (by decide +kernel) ⟨Nat.le_of_ble_eq_true rfl, Nat.le_of_ble_eq_true rfl⟩) (gC.preV hE hP hS 7 rfl (by decide) h24 [.int x4, .int ((1 : Int32))]) rfl rfl hl.1 rfl (lv_room (Nat.le_of_ble_eq_true rfl)) dX7_lane_51 ⟨(Nat.le_of_ble_eq_true rfl), (Nat.le_of_ble_eq_true rfl)⟩) hS (fun H locs hP hS => ?_)
          refine lv_iload_n hx hb dX7_lane_54 rfl (lv_at hl 1 rfl) ?_
          refine lv_icmp_ne (tgt := 62) hx hb dX7_lane_55 (by decide) (fun c27 => ?_) (fun c27 => ?_)
          · have hF := g_f c27 hF
            exact HB62 _ _ _ _ _ _ _ _ _ hF hP hS (lv_sub hl [0, 1, 2, 3, 4] rfl)
          · have hF := g_t c27 hF
            exact HB58 _ _ _ _ _ _ _ _ _ hF hP hS (lv_sub hl [0, 1, 2, 3, 4] rfl)
      intro g a0 x1 x2 x3 x4 H locs ls hF hP hS hl
      have hF : f7_lane_5b (f7_lane_5 n5) g a0 x1 x2 x3 x4 = some (rr, gz) := hF
      unfold f7_lane_5b at hF
      refine lv_iload hx hb dX7_lane_5 (lv_at hl 4 rfl) ?_
      refine lv_aload_n hx hb dX7_lane_7 rfl (lv_at hl 0 rfl) ?_
      obtain ⟨h1, hF⟩ := g_if hF
      refine g_get hx hb hts hiX7 hown hK hP 7 rfl (by decide) h1 3 (by decide) (hts (.fieldLink RX7 46 "CourierBeesModel" "lanes" "I") (by decide +kernel)) (fun _ h9 => h9) (gFv_i (Or.inl rfl)) dX7_lane_8 ?_
      refine lv_icmp_ge (tgt := 100) hx hb dX7_lane_11 (by decide) (fun c2 => ?_) (fun c2 => ?_)
      · have hF := g_t c2 hF
        refine lv_iload_n hx hb dX7_lane_100 rfl (lv_at hl 3 rfl) ?_
        exact g_retI hx hb hr hlocks hF hP hS (Nat.le_of_ble_eq_true rfl) (Nat.le_of_ble_eq_true rfl) dX7_lane_101
      · have hF := g_f c2 hF
        refine lv_aload_n hx hb dX7_lane_14 rfl (lv_at hl 0 rfl) ?_
        refine lv_iload hx hb dX7_lane_15 (lv_at hl 4 rfl) ?_
        refine lv_iconst (v := 0) hx hb dX7_lane_17 (by decide) ?_
        obtain ⟨v5, g4, h3, hF⟩ := g_bind2 hF
        refine g_calli (va_runV (As := [.int x4, .int ((0 : Int32))]) (rest := []) ⟨hx, hb, hml, hown, hts⟩ (k7_ro l D base g a0 x4 ((0 : Int32)) v5 g4 h3) (cwV 2 hts gX7_lane_X7_ro rfl rfl rfl (by decide +kernel) ⟨Nat.le_of_ble_eq_true rfl, Nat.le_of_ble_eq_true rfl⟩) (gC.preV hE hP hS 7 rfl (by decide) h1 [.int x4, .int ((0 : Int32))]) rfl rfl hl.1 rfl (lv_room (Nat.le_of_ble_eq_true rfl)) dX7_lane_18 ⟨(Nat.le_of_ble_eq_true rfl), (Nat.le_of_ble_eq_true rfl)⟩) hS (fun H locs hP hS => ?_)
        refine lv_iload_n hx hb dX7_lane_21 rfl (lv_at hl 1 rfl) ?_
        refine lv_icmp_ne (tgt := 36) hx hb dX7_lane_22 (by decide) (fun c6 => ?_) (fun c6 => ?_)
        · have hF := g_f c6 hF
          exact HB36 _ _ _ _ _ _ _ _ _ hF hP hS (lv_sub hl [0, 1, 2, 3, 4] rfl)
        · have hF := g_t c6 hF
          refine lv_aload_n hx hb dX7_lane_25 rfl (lv_at hl 0 rfl) ?_
          refine lv_iload hx hb dX7_lane_26 (lv_at hl 4 rfl) ?_
          refine lv_iconst (v := 1) hx hb dX7_lane_28 (by decide) ?_
          obtain ⟨h29, hF⟩ := g_if hF
          obtain ⟨v31, g30, h28, hF⟩ := g_bind2 hF
          refine g_calli (va_runV (As := [.int x4, .int ((1 : Int32))]) (rest := []) ⟨hx, hb, hml, hown, hts⟩ (k7_ro l D base g4 a0 x4 ((1 : Int32)) v31 g30 h28) (cwV 2 hts gX7_lane_X7_ro rfl rfl rfl (by decide +kernel) ⟨Nat.le_of_ble_eq_true rfl, Nat.le_of_ble_eq_true rfl⟩) (gC.preV hE hP hS 7 rfl (by decide) h29 [.int x4, .int ((1 : Int32))]) rfl rfl hl.1 rfl (lv_room (Nat.le_of_ble_eq_true rfl)) dX7_lane_29 ⟨(Nat.le_of_ble_eq_true rfl), (Nat.le_of_ble_eq_true rfl)⟩) hS (fun H locs hP hS => ?_)
          refine lv_iload_n hx hb dX7_lane_32 rfl (lv_at hl 2 rfl) ?_
          refine lv_icmp_eq (tgt := 58) hx hb dX7_lane_33 (by decide) (fun c32 => ?_) (fun c32 => ?_)
          · have hF := g_t c32 hF
            exact HB58 _ _ _ _ _ _ _ _ _ hF hP hS (lv_sub hl [0, 1, 2, 3, 4] rfl)
          · have hF := g_f c32 hF
            exact HB36 _ _ _ _ _ _ _ _ _ hF hP hS (lv_sub hl [0, 1, 2, 3, 4] rfl)
  unfold f7_lane at hF
  refine lv_iconst (v := (-1)) hx hb dX7_lane_0 (by decide) ?_
  refine lv_istore_n (lv' := [(3, .int ((-1 : Int32))), (0, .ref a0), (1, .int x1), (2, .int x2)]) hx hb dX7_lane_1 rfl hl (by decide) rfl (fun ls hl => ?_)
  refine lv_iconst (v := 0) hx hb dX7_lane_2 (by decide) ?_
  refine lv_istore (lv' := [(4, .int ((0 : Int32))), (3, .int ((-1 : Int32))), (0, .ref a0), (1, .int x1), (2, .int x2)]) hx hb dX7_lane_3 hl (by decide) rfl (fun ls hl => ?_)
  exact HL5 300 _ _ _ _ _ _ _ _ _ hF hP hS (lv_sub hl [2, 3, 4, 1, 0] rfl)
set_option maxHeartbeats 4000000 in
set_option maxRecDepth 100000 in
theorem k7_read (l : Launch) (D : va_G) (base : Nat) (g : g_H) (a0 : Nat) (x1 : Int32) (rr : Int32) (gz : g_H) (hF : f7_read g a0 x1 = some (rr, gz)) : Met l yX7_read wsX7_read ({ frames := 2, cells := 0, slots := 0, locals := 47 } : Room) (va_Pc [.ref a0, .int x1] (gC base D g)) (gQi base D rr gz) 0 0 (gA base) := by
  refine g_met (cc := cX7_read) (maxL := 6) (ret := (some .int)) (lst := [(0, .ref a0), (1, .int x1)]) (by decide) rfl (Nat.le_of_ble_eq_true rfl) rfl ?_
  intro p e s m args below meth c ls hx hb hr hml hown hlocks hname hts hE hP hl
  have hown : s.vm.findClass RX7 = some m.cls := hown
  have hK := hE.1
  have hov := hE.2.2.2.2.2.2.2.1
  have hbz := hE.2.2.2.2.2.2.2.2.2.2.2.2
  have hS : va_S (gA base) s.heap s.heap [] := va_S.rf
  have hiX7 : ∀ w ∈ wsX70, w ∈ wsX7_read := by decide +kernel
  have HL17 : ∀ (n17 : Nat), ∀ (g : g_H) (a0 : Nat) (x1 : Int32) (x2 : Int32) (x3 : Int32) (H : Heap) (locs : List Loc) (ls : Array Slot), f7_read_17 n17 g a0 x1 x2 x3 = some (rr, gz) → gP base D s g H → va_S (gA base) s.heap H locs → lv_has ls 6 [(0, .ref a0), (1, .int x1), (2, .int x2), (3, .int x3)] → W p l e ({ frames := 2, cells := 0, slots := 0, locals := 47 } : Room) s m args below meth c H locs 0 0 (MQ below (gQi base D rr gz) args s 0 0 (gA base)) (F0 m 17 ls []) := by
    intro n17
    induction n17 with
    | zero => intro g a0 x1 x2 x3 H locs ls hF hP hS hl; exact g_no hF
    | succ n17 ih17 =>
      have HB117 : ∀ (g : g_H) (a0 : Nat) (x1 : Int32) (x2 : Int32) (x3 : Int32) (H : Heap) (locs : List Loc) (ls : Array Slot), f7_read_117 (f7_read_17 n17) g a0 x1 x2 x3 = some (rr, gz) → gP base D s g H → va_S (gA base) s.heap H locs → lv_has ls 6 [(0, .ref a0), (1, .int x1), (2, .int x2), (3, .int x3)] → W p l e ({ frames := 2, cells := 0, slots := 0, locals := 47 } : Room) s m args below meth c H locs 0 0 (MQ below (gQi base D rr gz) args s 0 0 (gA base)) (F0 m 117 ls []) := by
        intro g a0 x1 x2 x3 H locs ls hF hP hS hl
        unfold f7_read_117 at hF
        refine lv_iinc (v := x3 + (-4 : Int32)) (lv' := [(3, .int (x3 + (-4 : Int32))), (0, .ref a0), (1, .int x1), (2, .int x2)]) hx hb dX7_read_117 hl (k := 3) rfl rfl (by decide) rfl (fun ls hl => ?_)
        refine lv_goto (tgt := 17) hx hb dX7_read_120 (by decide) ?_
        exact ih17 _ _ _ _ _ _ _ _ hF hP hS (lv_sub hl [1, 2, 3, 0] rfl)
      have HL80 : ∀ (n80 : Nat), ∀ (g : g_H) (a0 : Nat) (x1 : Int32) (x2 : Int32) (x3 : Int32) (x4 : Int32) (x5 : Int32) (H : Heap) (locs : List Loc) (ls : Array Slot), f7_read_80 (f7_read_17 n17) n80 g a0 x1 x2 x3 x4 x5 = some (rr, gz) → gP base D s g H → va_S (gA base) s.heap H locs → lv_has ls 6 [(0, .ref a0), (1, .int x1), (2, .int x2), (3, .int x3), (4, .int x4), (5, .int x5)] → W p l e ({ frames := 2, cells := 0, slots := 0, locals := 47 } : Room) s m args below meth c H locs 0 0 (MQ below (gQi base D rr gz) args s 0 0 (gA base)) (F0 m 80 ls []) := by
        intro n80
        induction n80 with
        | zero => intro g a0 x1 x2 x3 x4 x5 H locs ls hF hP hS hl; exact g_no hF
        | succ n80 ih80 =>
          intro g a0 x1 x2 x3 x4 x5 H locs ls hF hP hS hl
          have hF : f7_read_80b (f7_read_17 n17) (f7_read_80 (f7_read_17 n17) n80) g a0 x1 x2 x3 x4 x5 = some (rr, gz) := hF
          unfold f7_read_80b at hF
          refine lv_iload hx hb dX7_read_80 (lv_at hl 5 rfl) ?_
          refine lv_iload_n hx hb dX7_read_82 rfl (lv_at hl 2 rfl) ?_
          refine lv_icmp_ge (tgt := 106) hx hb dX7_read_83 (by decide) (fun c11 => ?_) (fun c11 => ?_)
          · have hF := g_t c11 hF
            refine lv_aload_n hx hb dX7_read_106 rfl (lv_at hl 0 rfl) ?_
            obtain ⟨h12, hF⟩ := g_if hF
            obtain ⟨q13, hq14, hF⟩ := g_bind hF
            refine g_get hx hb hts hiX7 hown hK hP 7 rfl (by decide) h12 12 (by decide) (hts (.fieldLink RX7 32 "CourierBeesModel" "row" "[I") (by decide +kernel)) (fun _ h9 => h9) ((gFv_r (by decide)).trans (congrArg va_rf hq14)) dX7_read_107 ?_
            refine lv_iload_n hx hb dX7_read_110 rfl (lv_at hl 2 rfl) ?_
            refine lv_iload hx hb dX7_read_111 (lv_at hl 4 rfl) ?_
            obtain ⟨h15, hF⟩ := g_if hF
            obtain ⟨h16, hF⟩ := g_if hF
            refine g_iast hx hb hP hS (g_pr h15) h16 dX7_read_113 (fun H locs hP hS => ?_)
            refine lv_iinc (v := x2 + (1 : Int32)) (lv' := [(2, .int (x2 + (1 : Int32))), (0, .ref a0), (1, .int x1), (3, .int x3), (4, .int x4), (5, .int x5)]) hx hb dX7_read_114 hl (k := 2) rfl rfl (by decide) rfl (fun ls hl => ?_)
            exact HB117 _ _ _ _ _ _ _ _ hF hP hS (lv_sub hl [1, 2, 0, 3] rfl)
          · have hF := g_f c11 hF
            refine lv_aload_n hx hb dX7_read_86 rfl (lv_at hl 0 rfl) ?_
            obtain ⟨h17, hF⟩ := g_if hF
            obtain ⟨q18, hq19, hF⟩ := g_bind hF
            refine g_get hx hb hts hiX7 hown hK hP 7 rfl (by decide) h17 12 (by decide) (hts (.fieldLink RX7 32 "CourierBeesModel" "row" "[I") (by decide +kernel)) (fun _ h9 => h9) ((gFv_r (by decide)).trans (congrArg va_rf hq19)) dX7_read_87 ?_
            refine lv_iload hx hb dX7_read_90 (lv_at hl 5 rfl) ?_
            obtain ⟨h20, hF⟩ := g_if hF
            obtain ⟨h21, hF⟩ := g_if hF
            refine g_iald hx hb hP (g_pr h20) h21 dX7_read_92 ?_
            refine lv_iload hx hb dX7_read_93 (lv_at hl 4 rfl) ?_
            refine lv_icmp_ne (tgt := 100) hx hb dX7_read_95 (by decide) (fun c22 => ?_) (fun c22 => ?_)
            · have hF := g_f c22 hF
              refine lv_iinc (v := x5 + (1 : Int32)) (lv' := [(5, .int (x5 + (1 : Int32))), (0, .ref a0), (1, .int x1), (2, .int x2), (3, .int x3), (4, .int x4)]) hx hb dX7_read_100 hl (k := 5) rfl rfl (by decide) rfl (fun ls hl => ?_)
              refine lv_goto (tgt := 80) hx hb dX7_read_103 (by decide) ?_
              exact ih80 _ _ _ _ _ _ _ _ _ _ hF hP hS (lv_sub hl [1, 2, 3, 4, 5, 0] rfl)
            · have hF := g_t c22 hF
              refine lv_iconst (v := 0) hx hb dX7_read_98 (by decide) ?_
              exact g_retI hx hb hr hlocks hF hP hS (Nat.le_of_ble_eq_true rfl) (Nat.le_of_ble_eq_true rfl) dX7_read_99
      have HB77 : ∀ (g : g_H) (a0 : Nat) (x1 : Int32) (x2 : Int32) (x3 : Int32) (x4 : Int32) (H : Heap) (locs : List Loc) (ls : Array Slot), f7_read_77 (f7_read_17 n17) g a0 x1 x2 x3 x4 = some (rr, gz) → gP base D s g H → va_S (gA base) s.heap H locs → lv_has ls 6 [(0, .ref a0), (1, .int x1), (2, .int x2), (3, .int x3), (4, .int x4)] → W p l e ({ frames := 2, cells := 0, slots := 0, locals := 47 } : Room) s m args below meth c H locs 0 0 (MQ below (gQi base D rr gz) args s 0 0 (gA base)) (F0 m 77 ls []) := by
        intro g a0 x1 x2 x3 x4 H locs ls hF hP hS hl
        unfold f7_read_77 at hF
        refine lv_iconst (v := 0) hx hb dX7_read_77 (by decide) ?_
        refine lv_istore (lv' := [(5, .int ((0 : Int32))), (0, .ref a0), (1, .int x1), (2, .int x2), (3, .int x3), (4, .int x4)]) hx hb dX7_read_78 hl (by decide) rfl (fun ls hl => ?_)
        exact HL80 300 _ _ _ _ _ _ _ _ _ _ hF hP hS (lv_sub hl [1, 2, 3, 4, 5, 0] rfl)
      have HB44 : ∀ (g : g_H) (a0 : Nat) (x1 : Int32) (x2 : Int32) (x3 : Int32) (x4 : Int32) (H : Heap) (locs : List Loc) (ls : Array Slot), f7_read_44 (f7_read_17 n17) g a0 x1 x2 x3 x4 = some (rr, gz) → gP base D s g H → va_S (gA base) s.heap H locs → lv_has ls 6 [(0, .ref a0), (1, .int x1), (2, .int x2), (3, .int x3), (4, .int x4)] → W p l e ({ frames := 2, cells := 0, slots := 0, locals := 47 } : Room) s m args below meth c H locs 0 0 (MQ below (gQi base D rr gz) args s 0 0 (gA base)) (F0 m 44 ls []) := by
        intro g a0 x1 x2 x3 x4 H locs ls hF hP hS hl
        unfold f7_read_44 at hF
        refine lv_aload_n hx hb dX7_read_44 rfl (lv_at hl 0 rfl) ?_
        refine lv_iload hx hb dX7_read_45 (lv_at hl 4 rfl) ?_
        obtain ⟨h6, hF⟩ := g_if hF
        obtain ⟨v8, g7, h5, hF⟩ := g_bind2 hF
        refine g_calli (va_runV (As := [.int x4]) (rest := []) ⟨hx, hb, hml, hown, hts⟩ (k7_isHouse l D base g a0 x4 v8 g7 h5) (cwV 1 hts gX7_read_X7_isHouse rfl rfl rfl (by decide +kernel) ⟨Nat.le_of_ble_eq_true rfl, Nat.le_of_ble_eq_true rfl⟩) (gC.preV hE hP hS 7 rfl (by decide) h6 [.int x4]) rfl rfl hl.1 rfl (lv_room (Nat.le_of_ble_eq_true rfl)) dX7_read_47 ⟨(Nat.le_of_ble_eq_true rfl), (Nat.le_of_ble_eq_true rfl)⟩) hS (fun H locs hP hS => ?_)
        refine lv_if_eq (tgt := 75) hx hb dX7_read_50 (by decide) (fun c9 => ?_) (fun c9 => ?_)
        · have hF := g_t c9 hF
          refine lv_iconst (v := 0) hx hb dX7_read_75 (by decide) ?_
          exact g_retI hx hb hr hlocks hF hP hS (Nat.le_of_ble_eq_true rfl) (Nat.le_of_ble_eq_true rfl) dX7_read_76
        · have hF := g_f c9 hF
          refine lv_iload_n hx hb dX7_read_53 rfl (lv_at hl 2 rfl) ?_
          refine lv_if_le (tgt := 77) hx hb dX7_read_54 (by decide) (fun c10 => ?_) (fun c10 => ?_)
          · have hF := g_t c10 hF
            exact HB77 _ _ _ _ _ _ _ _ _ hF hP hS (lv_sub hl [0, 1, 2, 3, 4] rfl)
          · have hF := g_f c10 hF
            refine lv_aload_n hx hb dX7_read_57 rfl (lv_at hl 0 rfl) ?_
            refine lv_aload_n hx hb dX7_read_58 rfl (lv_at hl 0 rfl) ?_
            obtain ⟨h23, hF⟩ := g_if hF
            obtain ⟨q24, hq25, hF⟩ := g_bind hF
            refine g_get hx hb hts hiX7 hown hK hP 7 rfl (by decide) h23 12 (by decide) (hts (.fieldLink RX7 32 "CourierBeesModel" "row" "[I") (by decide +kernel)) (fun _ h9 => h9) ((gFv_r (by decide)).trans (congrArg va_rf hq25)) dX7_read_59 ?_
            refine lv_iload_n hx hb dX7_read_62 rfl (lv_at hl 2 rfl) ?_
            refine lv_iconst (v := 1) hx hb dX7_read_63 (by decide) ?_
            refine lv_isub hx hb dX7_read_64 ?_
            obtain ⟨h26, hF⟩ := g_if hF
            obtain ⟨h27, hF⟩ := g_if hF
            refine g_iald hx hb hP (g_pr h26) h27 dX7_read_65 ?_
            refine lv_iload hx hb dX7_read_66 (lv_at hl 4 rfl) ?_
            obtain ⟨v30, g29, h28, hF⟩ := g_bind2 hF
            refine g_calli (va_runV (As := [.int (gI g7 q24 (Int32.toNatClampNeg (x2 - ((1 : Int32))))), .int x4]) (rest := []) ⟨hx, hb, hml, hown, hts⟩ (k7_lane l D base g7 a0 (gI g7 q24 (Int32.toNatClampNeg (x2 - ((1 : Int32))))) x4 v30 g29 h28) (cwV 2 hts gX7_read_X7_lane rfl rfl rfl (by decide +kernel) ⟨Nat.le_of_ble_eq_true rfl, Nat.le_of_ble_eq_true rfl⟩) (gC.preV hE hP hS 7 rfl (by decide) h23 [.int (gI g7 q24 (Int32.toNatClampNeg (x2 - ((1 : Int32))))), .int x4]) rfl rfl hl.1 rfl (lv_room (Nat.le_of_ble_eq_true rfl)) dX7_read_68 ⟨(Nat.le_of_ble_eq_true rfl), (Nat.le_of_ble_eq_true rfl)⟩) hS (fun H locs hP hS => ?_)
            refine lv_iconst (v := (-1)) hx hb dX7_read_71 (by decide) ?_
            refine lv_icmp_ne (tgt := 77) hx hb dX7_read_72 (by decide) (fun c31 => ?_) (fun c31 => ?_)
            · have hF := g_f c31 hF
              exact HB77 _ _ _ _ _ _ _ _ _ hF hP hS (lv_sub hl [0, 1, 2, 3, 4] rfl)
            · have hF := g_t c31 hF
              refine lv_iconst (v := 0) hx hb dX7_read_75 (by decide) ?_
              exact g_retI hx hb hr hlocks hF hP hS (Nat.le_of_ble_eq_true rfl) (Nat.le_of_ble_eq_true rfl) dX7_read_76
      intro g a0 x1 x2 x3 H locs ls hF hP hS hl
      have hF : f7_read_17b (f7_read_17 n17) g a0 x1 x2 x3 = some (rr, gz) := hF
      unfold f7_read_17b at hF
      refine lv_iload_n hx hb dX7_read_17 rfl (lv_at hl 3 rfl) ?_
      refine lv_if_lt (tgt := 123) hx hb dX7_read_18 (by decide) (fun c3 => ?_) (fun c3 => ?_)
      · have hF := g_t c3 hF
        refine lv_iload_n hx hb dX7_read_123 rfl (lv_at hl 2 rfl) ?_
        exact g_retI hx hb hr hlocks hF hP hS (Nat.le_of_ble_eq_true rfl) (Nat.le_of_ble_eq_true rfl) dX7_read_124
      · have hF := g_f c3 hF
        refine lv_iload_n hx hb dX7_read_21 rfl (lv_at hl 1 rfl) ?_
        refine lv_iload_n hx hb dX7_read_22 rfl (lv_at hl 3 rfl) ?_
        refine lv_ishr hx hb dX7_read_23 ?_
        refine lv_bipush (v := 15) hx hb dX7_read_24 (by decide) ?_
        refine lv_iand hx hb dX7_read_26 ?_
        refine lv_iconst (v := 1) hx hb dX7_read_27 (by decide) ?_
        refine lv_isub hx hb dX7_read_28 ?_
        refine lv_istore (lv' := [(4, .int (((x1 >>> (x3 &&& 31)) &&& ((15 : Int32))) - ((1 : Int32)))), (0, .ref a0), (1, .int x1), (2, .int x2), (3, .int x3)]) hx hb dX7_read_29 hl (by decide) rfl (fun ls hl => ?_)
        refine lv_iload_n hx hb dX7_read_31 rfl (lv_at hl 3 rfl) ?_
        refine lv_if_ne (tgt := 44) hx hb dX7_read_32 (by decide) (fun c4 => ?_) (fun c4 => ?_)
        · have hF := g_f c4 hF
          exact HB44 _ _ _ _ _ _ _ _ _ hF hP hS (lv_sub hl [1, 2, 3, 4, 0] rfl)
        · have hF := g_t c4 hF
          refine lv_iload_n hx hb dX7_read_35 rfl (lv_at hl 2 rfl) ?_
          refine lv_iload_n hx hb dX7_read_36 rfl (lv_at hl 4 rfl) ?_
          refine lv_ishr hx hb dX7_read_37 ?_
          refine lv_if_ne (tgt := 44) hx hb dX7_read_38 (by decide) (fun c32 => ?_) (fun c32 => ?_)
          · have hF := g_f c32 hF
            exact HB44 _ _ _ _ _ _ _ _ _ hF hP hS (lv_sub hl [1, 2, 3, 4, 0] rfl)
          · have hF := g_t c32 hF
            refine lv_goto (tgt := 117) hx hb dX7_read_41 (by decide) ?_
            exact HB117 _ _ _ _ _ _ _ _ hF hP hS (lv_sub hl [1, 2, 3, 4] rfl)
  unfold f7_read at hF
  refine lv_iconst (v := 0) hx hb dX7_read_0 (by decide) ?_
  refine lv_istore_n (lv' := [(2, .int ((0 : Int32))), (0, .ref a0), (1, .int x1)]) hx hb dX7_read_1 rfl hl (by decide) rfl (fun ls hl => ?_)
  refine lv_iload_n hx hb dX7_read_2 rfl (lv_at hl 2 rfl) ?_
  refine lv_if_le (tgt := 12) hx hb dX7_read_3 (by decide) (fun c1 => ?_) (fun c1 => ?_)
  · have hF := g_t c1 hF
    refine lv_iconst (v := 0) hx hb dX7_read_12 (by decide) ?_
    exact g_retI hx hb hr hlocks hF hP hS (Nat.le_of_ble_eq_true rfl) (Nat.le_of_ble_eq_true rfl) dX7_read_13
  · have hF := g_f c1 hF
    refine lv_iload_n hx hb dX7_read_6 rfl (lv_at hl 2 rfl) ?_
    refine lv_ldc (v := 268435456) hx hb hown (hts (.constant RX7 87 268435456) (by decide +kernel)) dX7_read_7 ?_
    refine lv_icmp_lt (tgt := 14) hx hb dX7_read_9 (by decide) (fun c2 => ?_) (fun c2 => ?_)
    · have hF := g_t c2 hF
      refine lv_bipush (v := 24) hx hb dX7_read_14 (by decide) ?_
      refine lv_istore_n (lv' := [(3, .int ((24 : Int32))), (2, .int ((0 : Int32))), (0, .ref a0), (1, .int x1)]) hx hb dX7_read_16 rfl hl (by decide) rfl (fun ls hl => ?_)
      exact HL17 300 _ _ _ _ _ _ _ _ hF hP hS (lv_sub hl [2, 3, 1, 0] rfl)
    · have hF := g_f c2 hF
      refine lv_iconst (v := 0) hx hb dX7_read_12 (by decide) ?_
      exact g_retI hx hb hr hlocks hF hP hS (Nat.le_of_ble_eq_true rfl) (Nat.le_of_ble_eq_true rfl) dX7_read_13
set_option maxHeartbeats 4000000 in
set_option maxRecDepth 100000 in
theorem k7_addBee (l : Launch) (D : va_G) (base : Nat) (g : g_H) (a0 : Nat) (x1 : Int32) (rr : Int32) (gz : g_H) (hF : f7_addBee g a0 x1 = some (rr, gz)) : Met l yX7_addBee wsX7_addBee ({ frames := 3, cells := 1, slots := 8, locals := 72 } : Room) (va_Pc [.ref a0, .int x1] (gC base D g)) (gQi base D rr gz) 1 8 (gA base) := by
  refine g_met (cc := cX7_addBee) (maxL := 4) (ret := (some .int)) (lst := [(0, .ref a0), (1, .int x1)]) (by decide) rfl (Nat.le_of_ble_eq_true rfl) rfl ?_
  intro p e s m args below meth c ls hx hb hr hml hown hlocks hname hts hE hP hl
  have hown : s.vm.findClass RX7 = some m.cls := hown
  have hK := hE.1
  have hov := hE.2.2.2.2.2.2.2.1
  have hbz := hE.2.2.2.2.2.2.2.2.2.2.2.2
  have hS : va_S (gA base) s.heap s.heap [] := va_S.rf
  have hiX7 : ∀ w ∈ wsX70, w ∈ wsX7_addBee := by decide +kernel
  unfold f7_addBee at hF
  refine lv_aload_n hx hb dX7_addBee_0 rfl (lv_at hl 0 rfl) ?_
  refine lv_iconst (v := 0) hx hb dX7_addBee_1 (by decide) ?_
  obtain ⟨h1, hF⟩ := g_if hF
  refine g_puti hx hb hts hiX7 tyX7 tyX7_ok nmX7 hown hK hP hS 7 rfl (by decide) h1 0 (by decide) (hts (.fieldLink RX7 35 "CourierBeesModel" "thrown" "I") (by decide +kernel)) (fun _ h9 => h9) (Or.inl rfl) (Or.inl rfl) rfl rfl dX7_addBee_2 (fun H locs hP hS => ?_)
  refine lv_aload_n hx hb dX7_addBee_5 rfl (lv_at hl 0 rfl) ?_
  refine lv_iload_n hx hb dX7_addBee_6 rfl (lv_at hl 1 rfl) ?_
  obtain ⟨v4, g3, h2, hF⟩ := g_bind2 hF
  refine g_calli (va_runV (As := [.int x1]) (rest := []) ⟨hx, hb, hml, hown, hts⟩ (k7_read l D base (gPI g a0 0 ((0 : Int32))) a0 x1 v4 g3 h2) (cwV 1 hts gX7_addBee_X7_read rfl rfl rfl (by decide +kernel) ⟨Nat.le_of_ble_eq_true rfl, Nat.le_of_ble_eq_true rfl⟩) (gC.preV hE hP hS 7 rfl (by decide) h1 [.int x1]) rfl rfl hl.1 rfl (lv_room (Nat.le_of_ble_eq_true rfl)) dX7_addBee_7 ⟨(Nat.le_of_ble_eq_true rfl), (Nat.le_of_ble_eq_true rfl)⟩) hS (fun H locs hP hS => ?_)
  refine lv_istore_n (lv' := [(2, .int v4), (0, .ref a0), (1, .int x1)]) hx hb dX7_addBee_10 rfl hl (by decide) rfl (fun ls hl => ?_)
  refine lv_iload_n hx hb dX7_addBee_11 rfl (lv_at hl 0 rfl) ?_
  refine lv_if_ne (tgt := 21) hx hb dX7_addBee_12 (by decide) (fun c5 => ?_) (fun c5 => ?_)
  · have hF := g_f c5 hF
    refine lv_aload_n hx hb dX7_addBee_21 rfl (lv_at hl 1 rfl) ?_
    obtain ⟨h6, hF⟩ := g_if hF
    refine g_get hx hb hts hiX7 hown hK hP 7 rfl (by decide) h6 6 (by decide) (hts (.fieldLink RX7 49 "CourierBeesModel" "bees" "I") (by decide +kernel)) (fun _ h9 => h9) (gFv_i (Or.inl rfl)) dX7_addBee_22 ?_
    refine lv_bipush (v := 6) hx hb dX7_addBee_25 (by decide) ?_
    refine lv_icmp_ne (tgt := 36) hx hb dX7_addBee_27 (by decide) (fun c7 => ?_) (fun c7 => ?_)
    · have hF := g_f c7 hF
      refine lv_bipush (v := 8) hx hb dX7_addBee_36 (by decide) ?_
      obtain ⟨q8, g9, e10, e11, h12, hF⟩ := g_nw hF
      refine g_newa (atype := .int) hx hb (hts (.arrayClass .int) (by decide +kernel)) 11 rfl (by decide) rfl hP hS hbz (n := 8) (N' := 8) (by decide) (by decide) (Nat.le_of_ble_eq_true rfl) (Nat.le_of_ble_eq_true rfl) (Nat.le_of_ble_eq_true rfl) dX7_addBee_38 (fun H hP hS => ?_)
      rw [e11] at hP
      rw [e10]
      refine lv_dup hx hb dX7_addBee_40 rfl ?_
      refine lv_iconst (v := 0) hx hb dX7_addBee_41 (by decide) ?_
      refine lv_iconst (v := 0) hx hb dX7_addBee_42 (by decide) ?_
      obtain ⟨h13, hF⟩ := g_if hF
      refine g_iast hx hb hP hS (g_pr h12) h13 dX7_addBee_43 (fun H locs hP hS => ?_)
      refine lv_dup hx hb dX7_addBee_44 rfl ?_
      refine lv_iconst (v := 1) hx hb dX7_addBee_45 (by decide) ?_
      refine lv_iconst (v := 0) hx hb dX7_addBee_46 (by decide) ?_
      obtain ⟨h14, hF⟩ := g_if hF
      refine g_iast hx hb hP hS (g_pr h12) h14 dX7_addBee_47 (fun H locs hP hS => ?_)
      refine lv_dup hx hb dX7_addBee_48 rfl ?_
      refine lv_iconst (v := 2) hx hb dX7_addBee_49 (by decide) ?_
      refine lv_bipush (v := 30) hx hb dX7_addBee_50 (by decide) ?_
      obtain ⟨h15, hF⟩ := g_if hF
      refine g_iast hx hb hP hS (g_pr h12) h15 dX7_addBee_52 (fun H locs hP hS => ?_)
      refine lv_dup hx hb dX7_addBee_53 rfl ?_
      refine lv_iconst (v := 3) hx hb dX7_addBee_54 (by decide) ?_
      refine lv_bipush (v := 10) hx hb dX7_addBee_55 (by decide) ?_
      obtain ⟨h16, hF⟩ := g_if hF
      refine g_iast hx hb hP hS (g_pr h12) h16 dX7_addBee_57 (fun H locs hP hS => ?_)
      obtain ⟨g17, e18, hF⟩ := g_let hF
      rw [e18] at hP
      have h19 : (gS g17 q8).1 = 11 := by rw [← e18]; exact h12
      refine lv_dup hx hb dX7_addBee_58 rfl ?_
      refine lv_iconst (v := 4) hx hb dX7_addBee_59 (by decide) ?_
      refine lv_iconst (v := 0) hx hb dX7_addBee_60 (by decide) ?_
      obtain ⟨h20, hF⟩ := g_if hF
      refine g_iast hx hb hP hS (g_pr h19) h20 dX7_addBee_61 (fun H locs hP hS => ?_)
      refine lv_dup hx hb dX7_addBee_62 rfl ?_
      refine lv_iconst (v := 5) hx hb dX7_addBee_63 (by decide) ?_
      refine lv_iload_n hx hb dX7_addBee_64 rfl (lv_at hl 0 rfl) ?_
      obtain ⟨h21, hF⟩ := g_if hF
      refine g_iast hx hb hP hS (g_pr h19) h21 dX7_addBee_65 (fun H locs hP hS => ?_)
      refine lv_dup hx hb dX7_addBee_66 rfl ?_
      refine lv_bipush (v := 6) hx hb dX7_addBee_67 (by decide) ?_
      refine lv_iconst (v := 0) hx hb dX7_addBee_69 (by decide) ?_
      obtain ⟨h22, hF⟩ := g_if hF
      refine g_iast hx hb hP hS (g_pr h19) h22 dX7_addBee_70 (fun H locs hP hS => ?_)
      refine lv_dup hx hb dX7_addBee_71 rfl ?_
      refine lv_bipush (v := 7) hx hb dX7_addBee_72 (by decide) ?_
      refine lv_iconst (v := 1) hx hb dX7_addBee_74 (by decide) ?_
      obtain ⟨h23, hF⟩ := g_if hF
      refine g_iast hx hb hP hS (g_pr h19) h23 dX7_addBee_75 (fun H locs hP hS => ?_)
      obtain ⟨g24, e25, hF⟩ := g_let hF
      rw [e25] at hP
      have h26 : (gS g24 q8).1 = 11 := by rw [← e25]; exact h19
      refine lv_astore_n (lv' := [(3, .ref q8), (2, .int v4), (0, .ref a0), (1, .int x1)]) hx hb dX7_addBee_76 rfl hl (by decide) rfl (fun ls hl => ?_)
      refine lv_aload_n hx hb dX7_addBee_77 rfl (lv_at hl 0 rfl) ?_
      refine lv_iconst (v := 0) hx hb dX7_addBee_78 (by decide) ?_
      refine lv_aload_n hx hb dX7_addBee_79 rfl (lv_at hl 2 rfl) ?_
      obtain ⟨h27, hF⟩ := g_if hF
      obtain ⟨q28, hq29, hF⟩ := g_bind hF
      refine g_get hx hb hts hiX7 hown hK hP 7 rfl (by decide) h27 7 (by decide) (hts (.fieldLink RX7 20 "CourierBeesModel" "swarm" "[I") (by decide +kernel)) (fun _ h9 => h9) ((gFv_r (by decide)).trans (congrArg va_rf hq29)) dX7_addBee_80 ?_
      refine lv_bipush (v := 8) hx hb dX7_addBee_83 (by decide) ?_
      refine lv_aload_n hx hb dX7_addBee_85 rfl (lv_at hl 2 rfl) ?_
      refine g_get hx hb hts hiX7 hown hK hP 7 rfl (by decide) h27 6 (by decide) (hts (.fieldLink RX7 49 "CourierBeesModel" "bees" "I") (by decide +kernel)) (fun _ h9 => h9) (gFv_i (Or.inl rfl)) dX7_addBee_86 ?_
      refine lv_imul hx hb dX7_addBee_89 ?_
      refine lv_bipush (v := 8) hx hb dX7_addBee_90 (by decide) ?_
      obtain ⟨h30, hF⟩ := g_if hF
      obtain ⟨h31, hF⟩ := g_if hF
      refine g_copy hx hb (hml.trans hl.1.symm) hown (hts (.methodLink RX7 75 arraycopyName) (by decide +kernel)) (hts (.native arraycopyName) (by decide +kernel)) (hts (.static arraycopyName) (by decide +kernel)) (hts (.initialized "java/lang/System") (by decide +kernel)) hP hS (g_pr h26) (g_pr h30) h31.1 h31.2.1 h31.2.2.1 h31.2.2.2.1 h31.2.2.2.2 (Nat.le_of_ble_eq_true rfl) (by decide) dX7_addBee_92 (fun H locs hP hS => ?_)
      refine lv_aload_n hx hb dX7_addBee_95 rfl (lv_at hl 2 rfl) ?_
      obtain ⟨q32, hq33, hF⟩ := g_bind hF
      refine g_get hx hb hts hiX7 hown hK hP 7 rfl (by decide) h27 12 (by decide) (hts (.fieldLink RX7 32 "CourierBeesModel" "row" "[I") (by decide +kernel)) (fun _ h9 => h9) ((gFv_r (by decide)).trans (congrArg va_rf hq33)) dX7_addBee_96 ?_
      refine lv_iconst (v := 0) hx hb dX7_addBee_99 (by decide) ?_
      refine lv_aload_n hx hb dX7_addBee_100 rfl (lv_at hl 2 rfl) ?_
      obtain ⟨q34, hq35, hF⟩ := g_bind hF
      refine g_get hx hb hts hiX7 hown hK hP 7 rfl (by decide) h27 8 (by decide) (hts (.fieldLink RX7 23 "CourierBeesModel" "routes" "[I") (by decide +kernel)) (fun _ h9 => h9) ((gFv_r (by decide)).trans (congrArg va_rf hq35)) dX7_addBee_101 ?_
      refine lv_bipush (v := 7) hx hb dX7_addBee_104 (by decide) ?_
      refine lv_aload_n hx hb dX7_addBee_106 rfl (lv_at hl 2 rfl) ?_
      refine g_get hx hb hts hiX7 hown hK hP 7 rfl (by decide) h27 6 (by decide) (hts (.fieldLink RX7 49 "CourierBeesModel" "bees" "I") (by decide +kernel)) (fun _ h9 => h9) (gFv_i (Or.inl rfl)) dX7_addBee_107 ?_
      refine lv_imul hx hb dX7_addBee_110 ?_
      refine lv_iload_n hx hb dX7_addBee_111 rfl (lv_at hl 1 rfl) ?_
      obtain ⟨h36, hF⟩ := g_if hF
      obtain ⟨h37, hF⟩ := g_if hF
      obtain ⟨h38, hF⟩ := g_if hF
      refine g_copy hx hb (hml.trans hl.1.symm) hown (hts (.methodLink RX7 75 arraycopyName) (by decide +kernel)) (hts (.native arraycopyName) (by decide +kernel)) (hts (.static arraycopyName) (by decide +kernel)) (hts (.initialized "java/lang/System") (by decide +kernel)) hP hS (g_pr h36) (g_pr h37) h38.1 h38.2.1 h38.2.2.1 h38.2.2.2.1 h38.2.2.2.2 (Nat.le_of_ble_eq_true rfl) (by decide) dX7_addBee_112 (fun H locs hP hS => ?_)
      obtain ⟨g39, e40, hF⟩ := g_let hF
      rw [e40] at hP
      have h41 : (gS g39 q8).1 = 11 := by rw [← e40]; exact h26
      have h42 : (gS g39 a0).1 = 8 := by rw [← e40]; exact h27
      have h43 : (gS g39 q28).1 = 11 := by rw [← e40]; exact h30
      have h44 : (gS g39 q32).1 = 11 := by rw [← e40]; exact h36
      have h45 : (gS g39 q34).1 = 11 := by rw [← e40]; exact h37
      refine lv_aload_n hx hb dX7_addBee_115 rfl (lv_at hl 2 rfl) ?_
      refine lv_dup hx hb dX7_addBee_116 rfl ?_
      refine g_get hx hb hts hiX7 hown hK hP 7 rfl (by decide) h42 6 (by decide) (hts (.fieldLink RX7 49 "CourierBeesModel" "bees" "I") (by decide +kernel)) (fun _ h9 => h9) (gFv_i (Or.inl rfl)) dX7_addBee_117 ?_
      refine lv_iconst (v := 1) hx hb dX7_addBee_120 (by decide) ?_
      refine lv_iadd hx hb dX7_addBee_121 ?_
      obtain ⟨y46, e47, hF⟩ := g_let hF
      rw [e47]
      refine g_puti hx hb hts hiX7 tyX7 tyX7_ok nmX7 hown hK hP hS 7 rfl (by decide) h42 6 (by decide) (hts (.fieldLink RX7 49 "CourierBeesModel" "bees" "I") (by decide +kernel)) (fun _ h9 => h9) (Or.inl rfl) (Or.inl rfl) rfl rfl dX7_addBee_122 (fun H locs hP hS => ?_)
      refine lv_aload_n hx hb dX7_addBee_125 rfl (lv_at hl 2 rfl) ?_
      refine g_get hx hb hts hiX7 hown hK hP 7 rfl (by decide) h42 6 (by decide) (hts (.fieldLink RX7 49 "CourierBeesModel" "bees" "I") (by decide +kernel)) (fun _ h9 => h9) (gFv_i (Or.inl rfl)) dX7_addBee_126 ?_
      refine lv_iconst (v := 1) hx hb dX7_addBee_129 (by decide) ?_
      refine lv_isub hx hb dX7_addBee_130 ?_
      exact g_retI hx hb hr hlocks hF hP hS (Nat.le_of_ble_eq_true rfl) (Nat.le_of_ble_eq_true rfl) dX7_addBee_131
    · have hF := g_t c7 hF
      refine lv_aload_n hx hb dX7_addBee_30 rfl (lv_at hl 1 rfl) ?_
      refine lv_iconst (v := 2) hx hb dX7_addBee_31 (by decide) ?_
      obtain ⟨v50, g49, h48, hF⟩ := g_bind2 hF
      refine g_calli (va_runV (As := [.int ((2 : Int32))]) (rest := []) ⟨hx, hb, hml, hown, hts⟩ (k7_fail l D base g3 a0 ((2 : Int32)) v50 g49 h48) (cwV 1 hts gX7_addBee_X7_fail rfl rfl rfl (by decide +kernel) ⟨Nat.le_of_ble_eq_true rfl, Nat.le_of_ble_eq_true rfl⟩) (gC.preV hE hP hS 7 rfl (by decide) h6 [.int ((2 : Int32))]) rfl rfl hl.1 rfl (lv_room (Nat.le_of_ble_eq_true rfl)) dX7_addBee_32 ⟨(Nat.le_of_ble_eq_true rfl), (Nat.le_of_ble_eq_true rfl)⟩) hS (fun H locs hP hS => ?_)
      exact g_retI hx hb hr hlocks hF hP hS (Nat.le_of_ble_eq_true rfl) (Nat.le_of_ble_eq_true rfl) dX7_addBee_35
  · have hF := g_t c5 hF
    refine lv_aload_n hx hb dX7_addBee_15 rfl (lv_at hl 1 rfl) ?_
    refine lv_iconst (v := 1) hx hb dX7_addBee_16 (by decide) ?_
    obtain ⟨h52, hF⟩ := g_if hF
    obtain ⟨v54, g53, h51, hF⟩ := g_bind2 hF
    refine g_calli (va_runV (As := [.int ((1 : Int32))]) (rest := []) ⟨hx, hb, hml, hown, hts⟩ (k7_fail l D base g3 a0 ((1 : Int32)) v54 g53 h51) (cwV 1 hts gX7_addBee_X7_fail rfl rfl rfl (by decide +kernel) ⟨Nat.le_of_ble_eq_true rfl, Nat.le_of_ble_eq_true rfl⟩) (gC.preV hE hP hS 7 rfl (by decide) h52 [.int ((1 : Int32))]) rfl rfl hl.1 rfl (lv_room (Nat.le_of_ble_eq_true rfl)) dX7_addBee_17 ⟨(Nat.le_of_ble_eq_true rfl), (Nat.le_of_ble_eq_true rfl)⟩) hS (fun H locs hP hS => ?_)
    exact g_retI hx hb hr hlocks hF hP hS (Nat.le_of_ble_eq_true rfl) (Nat.le_of_ble_eq_true rfl) dX7_addBee_20
set_option maxHeartbeats 4000000 in
set_option maxRecDepth 100000 in
theorem k7_house (l : Launch) (D : va_G) (base : Nat) (g : g_H) (a0 : Nat) (x1 : Int32) (rr : Int32) (gz : g_H) (hF : f7_house g a0 x1 = some (rr, gz)) : Met l yX7_house wsX7_house ({ frames := 1, cells := 0, slots := 0, locals := 22 } : Room) (va_Pc [.ref a0, .int x1] (gC base D g)) (gQi base D rr gz) 0 0 (gA base) := by
  refine g_met (cc := cX7_house) (maxL := 2) (ret := (some .int)) (lst := [(0, .ref a0), (1, .int x1)]) (by decide) rfl (Nat.le_of_ble_eq_true rfl) rfl ?_
  intro p e s m args below meth c ls hx hb hr hml hown hlocks hname hts hE hP hl
  have hown : s.vm.findClass RX7 = some m.cls := hown
  have hK := hE.1
  have hov := hE.2.2.2.2.2.2.2.1
  have hbz := hE.2.2.2.2.2.2.2.2.2.2.2.2
  have hS : va_S (gA base) s.heap s.heap [] := va_S.rf
  have hiX7 : ∀ w ∈ wsX70, w ∈ wsX7_house := by decide +kernel
  unfold f7_house at hF
  refine lv_aload_n hx hb dX7_house_0 rfl (lv_at hl 0 rfl) ?_
  obtain ⟨h1, hF⟩ := g_if hF
  obtain ⟨q2, hq3, hF⟩ := g_bind hF
  refine g_get hx hb hts hiX7 hown hK hP 7 rfl (by decide) h1 8 (by decide) (hts (.fieldLink RX7 23 "CourierBeesModel" "routes" "[I") (by decide +kernel)) (fun _ h9 => h9) ((gFv_r (by decide)).trans (congrArg va_rf hq3)) dX7_house_1 ?_
  refine lv_bipush (v := 7) hx hb dX7_house_4 (by decide) ?_
  refine lv_iload_n hx hb dX7_house_6 rfl (lv_at hl 1 rfl) ?_
  refine lv_imul hx hb dX7_house_7 ?_
  refine lv_aload_n hx hb dX7_house_8 rfl (lv_at hl 0 rfl) ?_
  refine lv_iload_n hx hb dX7_house_9 rfl (lv_at hl 1 rfl) ?_
  refine lv_iconst (v := 0) hx hb dX7_house_10 (by decide) ?_
  obtain ⟨v6, g5, h4, hF⟩ := g_bind2 hF
  refine g_calli (va_runV (As := [.int x1, .int ((0 : Int32))]) (rest := [.int (((7 : Int32)) * x1), .ref q2]) ⟨hx, hb, hml, hown, hts⟩ (k7_be l D base g a0 x1 ((0 : Int32)) v6 g5 h4) (cwV 2 hts gX7_house_X7_be rfl rfl rfl (by decide +kernel) ⟨Nat.le_of_ble_eq_true rfl, Nat.le_of_ble_eq_true rfl⟩) (gC.preV hE hP hS 7 rfl (by decide) h1 [.int x1, .int ((0 : Int32))]) rfl rfl hl.1 rfl (lv_room (Nat.le_of_ble_eq_true rfl)) dX7_house_11 ⟨(Nat.le_of_ble_eq_true rfl), (Nat.le_of_ble_eq_true rfl)⟩) hS (fun H locs hP hS => ?_)
  refine lv_iadd hx hb dX7_house_14 ?_
  obtain ⟨h7, hF⟩ := g_if hF
  obtain ⟨h8, hF⟩ := g_if hF
  refine g_iald hx hb hP (g_pr h7) h8 dX7_house_15 ?_
  exact g_retI hx hb hr hlocks hF hP hS (Nat.le_of_ble_eq_true rfl) (Nat.le_of_ble_eq_true rfl) dX7_house_16
set_option maxHeartbeats 4000000 in
set_option maxRecDepth 100000 in
theorem k7_swear (l : Launch) (D : va_G) (base : Nat) (g : g_H) (a0 : Nat) (x1 : Int32) (x2 : Int32) (rr : Int32) (gz : g_H) (hF : f7_swear g a0 x1 x2 = some (rr, gz)) : Met l yX7_swear wsX7_swear ({ frames := 3, cells := 0, slots := 0, locals := 72 } : Room) (va_Pc [.ref a0, .int x1, .int x2] (gC base D g)) (gQi base D rr gz) 0 0 (gA base) := by
  refine g_met (cc := cX7_swear) (maxL := 6) (ret := (some .int)) (lst := [(0, .ref a0), (1, .int x1), (2, .int x2)]) (by decide) rfl (Nat.le_of_ble_eq_true rfl) rfl ?_
  intro p e s m args below meth c ls hx hb hr hml hown hlocks hname hts hE hP hl
  have hown : s.vm.findClass RX7 = some m.cls := hown
  have hK := hE.1
  have hov := hE.2.2.2.2.2.2.2.1
  have hbz := hE.2.2.2.2.2.2.2.2.2.2.2.2
  have hS : va_S (gA base) s.heap s.heap [] := va_S.rf
  have hiX7 : ∀ w ∈ wsX70, w ∈ wsX7_swear := by decide +kernel
  have HB87 : ∀ (g : g_H) (a0 : Nat) (H : Heap) (locs : List Loc) (ls : Array Slot), f7_swear_87 g a0 = some (rr, gz) → gP base D s g H → va_S (gA base) s.heap H locs → lv_has ls 6 [(0, .ref a0)] → W p l e ({ frames := 3, cells := 0, slots := 0, locals := 72 } : Room) s m args below meth c H locs 0 0 (MQ below (gQi base D rr gz) args s 0 0 (gA base)) (F0 m 87 ls []) := by
    intro g a0 H locs ls hF hP hS hl
    unfold f7_swear_87 at hF
    refine lv_aload_n hx hb dX7_swear_87 rfl (lv_at hl 0 rfl) ?_
    refine lv_iconst (v := 3) hx hb dX7_swear_88 (by decide) ?_
    obtain ⟨h18, hF⟩ := g_if hF
    obtain ⟨v20, g19, h17, hF⟩ := g_bind2 hF
    refine g_calli (va_runV (As := [.int ((3 : Int32))]) (rest := []) ⟨hx, hb, hml, hown, hts⟩ (k7_fail l D base g a0 ((3 : Int32)) v20 g19 h17) (cwV 1 hts gX7_swear_X7_fail rfl rfl rfl (by decide +kernel) ⟨Nat.le_of_ble_eq_true rfl, Nat.le_of_ble_eq_true rfl⟩) (gC.preV hE hP hS 7 rfl (by decide) h18 [.int ((3 : Int32))]) rfl rfl hl.1 rfl (lv_room (Nat.le_of_ble_eq_true rfl)) dX7_swear_89 ⟨(Nat.le_of_ble_eq_true rfl), (Nat.le_of_ble_eq_true rfl)⟩) hS (fun H locs hP hS => ?_)
    exact g_retI hx hb hr hlocks hF hP hS (Nat.le_of_ble_eq_true rfl) (Nat.le_of_ble_eq_true rfl) dX7_swear_92
  have HL41 : ∀ (n41 : Nat), ∀ (g : g_H) (a0 : Nat) (x1 : Int32) (x3 : Int32) (x4 : Int32) (x5 : Int32) (H : Heap) (locs : List Loc) (ls : Array Slot), f7_swear_41 n41 g a0 x1 x3 x4 x5 = some (rr, gz) → gP base D s g H → va_S (gA base) s.heap H locs → lv_has ls 6 [(0, .ref a0), (1, .int x1), (3, .int x3), (4, .int x4), (5, .int x5)] → W p l e ({ frames := 3, cells := 0, slots := 0, locals := 72 } : Room) s m args below meth c H locs 0 0 (MQ below (gQi base D rr gz) args s 0 0 (gA base)) (F0 m 41 ls []) := by
    intro n41
    induction n41 with
    | zero => intro g a0 x1 x3 x4 x5 H locs ls hF hP hS hl; exact g_no hF
    | succ n41 ih41 =>
      have HB66 : ∀ (g : g_H) (a0 : Nat) (x1 : Int32) (x3 : Int32) (x4 : Int32) (x5 : Int32) (H : Heap) (locs : List Loc) (ls : Array Slot), f7_swear_66 (f7_swear_41 n41) g a0 x1 x3 x4 x5 = some (rr, gz) → gP base D s g H → va_S (gA base) s.heap H locs → lv_has ls 6 [(0, .ref a0), (1, .int x1), (3, .int x3), (4, .int x4), (5, .int x5)] → W p l e ({ frames := 3, cells := 0, slots := 0, locals := 72 } : Room) s m args below meth c H locs 0 0 (MQ below (gQi base D rr gz) args s 0 0 (gA base)) (F0 m 66 ls []) := by
        intro g a0 x1 x3 x4 x5 H locs ls hF hP hS hl
        unfold f7_swear_66 at hF
        refine lv_iinc (v := x5 + (1 : Int32)) (lv' := [(5, .int (x5 + (1 : Int32))), (0, .ref a0), (1, .int x1), (3, .int x3), (4, .int x4)]) hx hb dX7_swear_66 hl (k := 4) rfl rfl (by decide) rfl (fun ls hl => ?_)
        refine lv_goto (tgt := 41) hx hb dX7_swear_69 (by decide) ?_
        exact ih41 _ _ _ _ _ _ _ _ _ hF hP hS (lv_sub hl [1, 2, 3, 4, 0] rfl)
      intro g a0 x1 x3 x4 x5 H locs ls hF hP hS hl
      have hF : f7_swear_41b (f7_swear_41 n41) g a0 x1 x3 x4 x5 = some (rr, gz) := hF
      unfold f7_swear_41b at hF
      refine lv_iload hx hb dX7_swear_41 (lv_at hl 4 rfl) ?_
      refine lv_iload_n hx hb dX7_swear_43 rfl (lv_at hl 2 rfl) ?_
      refine lv_icmp_ge (tgt := 72) hx hb dX7_swear_44 (by decide) (fun c11 => ?_) (fun c11 => ?_)
      · have hF := g_t c11 hF
        refine lv_aload_n hx hb dX7_swear_72 rfl (lv_at hl 0 rfl) ?_
        refine lv_iload_n hx hb dX7_swear_73 rfl (lv_at hl 1 rfl) ?_
        refine lv_iconst (v := 1) hx hb dX7_swear_74 (by decide) ?_
        obtain ⟨h13, hF⟩ := g_if hF
        obtain ⟨v15, g14, h12, hF⟩ := g_bind2 hF
        refine g_calli (va_runV (As := [.int x1, .int ((1 : Int32))]) (rest := []) ⟨hx, hb, hml, hown, hts⟩ (k7_be l D base g a0 x1 ((1 : Int32)) v15 g14 h12) (cwV 2 hts gX7_swear_X7_be rfl rfl rfl (by decide +kernel) ⟨Nat.le_of_ble_eq_true rfl, Nat.le_of_ble_eq_true rfl⟩) (gC.preV hE hP hS 7 rfl (by decide) h13 [.int x1, .int ((1 : Int32))]) rfl rfl hl.1 rfl (lv_room (Nat.le_of_ble_eq_true rfl)) dX7_swear_75 ⟨(Nat.le_of_ble_eq_true rfl), (Nat.le_of_ble_eq_true rfl)⟩) hS (fun H locs hP hS => ?_)
        refine lv_if_gt (tgt := 87) hx hb dX7_swear_78 (by decide) (fun c16 => ?_) (fun c16 => ?_)
        · have hF := g_t c16 hF
          exact HB87 _ _ _ _ _ hF hP hS (lv_sub hl [0] rfl)
        · have hF := g_f c16 hF
          refine lv_iload hx hb dX7_swear_81 (lv_at hl 3 rfl) ?_
          refine lv_iconst (v := (-1)) hx hb dX7_swear_83 (by decide) ?_
          refine lv_icmp_ne (tgt := 93) hx hb dX7_swear_84 (by decide) (fun c21 => ?_) (fun c21 => ?_)
          · have hF := g_f c21 hF
            refine lv_aload_n hx hb dX7_swear_93 rfl (lv_at hl 0 rfl) ?_
            obtain ⟨h22, hF⟩ := g_if hF
            obtain ⟨q23, hq24, hF⟩ := g_bind hF
            refine g_get hx hb hts hiX7 hown hK hP 7 rfl (by decide) h22 12 (by decide) (hts (.fieldLink RX7 32 "CourierBeesModel" "row" "[I") (by decide +kernel)) (fun _ h9 => h9) ((gFv_r (by decide)).trans (congrArg va_rf hq24)) dX7_swear_94 ?_
            refine lv_iconst (v := 0) hx hb dX7_swear_97 (by decide) ?_
            refine lv_aload_n hx hb dX7_swear_98 rfl (lv_at hl 0 rfl) ?_
            obtain ⟨q25, hq26, hF⟩ := g_bind hF
            refine g_get hx hb hts hiX7 hown hK hP 7 rfl (by decide) h22 8 (by decide) (hts (.fieldLink RX7 23 "CourierBeesModel" "routes" "[I") (by decide +kernel)) (fun _ h9 => h9) ((gFv_r (by decide)).trans (congrArg va_rf hq26)) dX7_swear_99 ?_
            refine lv_bipush (v := 7) hx hb dX7_swear_102 (by decide) ?_
            refine lv_iload_n hx hb dX7_swear_104 rfl (lv_at hl 1 rfl) ?_
            refine lv_imul hx hb dX7_swear_105 ?_
            refine lv_iload_n hx hb dX7_swear_106 rfl (lv_at hl 2 rfl) ?_
            obtain ⟨h27, hF⟩ := g_if hF
            obtain ⟨h28, hF⟩ := g_if hF
            obtain ⟨h29, hF⟩ := g_if hF
            refine g_copy hx hb (hml.trans hl.1.symm) hown (hts (.methodLink RX7 75 arraycopyName) (by decide +kernel)) (hts (.native arraycopyName) (by decide +kernel)) (hts (.static arraycopyName) (by decide +kernel)) (hts (.initialized "java/lang/System") (by decide +kernel)) hP hS (g_pr h27) (g_pr h28) h29.1 h29.2.1 h29.2.2.1 h29.2.2.2.1 h29.2.2.2.2 (Nat.le_of_ble_eq_true rfl) (by decide) dX7_swear_107 (fun H locs hP hS => ?_)
            refine lv_aload_n hx hb dX7_swear_110 rfl (lv_at hl 0 rfl) ?_
            refine lv_iload_n hx hb dX7_swear_111 rfl (lv_at hl 1 rfl) ?_
            refine lv_iconst (v := 0) hx hb dX7_swear_112 (by decide) ?_
            refine lv_iload hx hb dX7_swear_113 (lv_at hl 3 rfl) ?_
            obtain ⟨g31, h30, hF⟩ := g_bind hF
            refine g_callv (va_runV (As := [.int x1, .int ((0 : Int32)), .int x4]) (rest := []) ⟨hx, hb, hml, hown, hts⟩ (k7_setBe l D base (gPW g14 q25 (va_cpy (gI g14 q23) (gI g14 q25) (Int32.toNatClampNeg ((0 : Int32))) (Int32.toNatClampNeg (((7 : Int32)) * x1)) (Int32.toNatClampNeg x3))) a0 x1 ((0 : Int32)) x4 g31 h30) (cwV 3 hts gX7_swear_X7_setBe rfl rfl rfl (by decide +kernel) ⟨Nat.le_of_ble_eq_true rfl, Nat.le_of_ble_eq_true rfl⟩) (gC.preV hE hP hS 7 rfl (by decide) h22 [.int x1, .int ((0 : Int32)), .int x4]) rfl rfl hl.1 rfl (lv_room (Nat.le_of_ble_eq_true rfl)) dX7_swear_115 ⟨(Nat.le_of_ble_eq_true rfl), (Nat.le_of_ble_eq_true rfl)⟩) hS (fun H locs hP hS => ?_)
            refine lv_aload_n hx hb dX7_swear_118 rfl (lv_at hl 0 rfl) ?_
            refine lv_iload_n hx hb dX7_swear_119 rfl (lv_at hl 1 rfl) ?_
            refine lv_iconst (v := 5) hx hb dX7_swear_120 (by decide) ?_
            refine lv_iload_n hx hb dX7_swear_121 rfl (lv_at hl 2 rfl) ?_
            obtain ⟨h34, hF⟩ := g_if hF
            obtain ⟨g35, h33, hF⟩ := g_bind hF
            refine g_callv (va_runV (As := [.int x1, .int ((5 : Int32)), .int x3]) (rest := []) ⟨hx, hb, hml, hown, hts⟩ (k7_setBe l D base g31 a0 x1 ((5 : Int32)) x3 g35 h33) (cwV 3 hts gX7_swear_X7_setBe rfl rfl rfl (by decide +kernel) ⟨Nat.le_of_ble_eq_true rfl, Nat.le_of_ble_eq_true rfl⟩) (gC.preV hE hP hS 7 rfl (by decide) h34 [.int x1, .int ((5 : Int32)), .int x3]) rfl rfl hl.1 rfl (lv_room (Nat.le_of_ble_eq_true rfl)) dX7_swear_122 ⟨(Nat.le_of_ble_eq_true rfl), (Nat.le_of_ble_eq_true rfl)⟩) hS (fun H locs hP hS => ?_)
            refine lv_aload_n hx hb dX7_swear_125 rfl (lv_at hl 0 rfl) ?_
            refine lv_iload_n hx hb dX7_swear_126 rfl (lv_at hl 1 rfl) ?_
            refine lv_bipush (v := 7) hx hb dX7_swear_127 (by decide) ?_
            refine lv_iconst (v := 1) hx hb dX7_swear_129 (by decide) ?_
            obtain ⟨h38, hF⟩ := g_if hF
            obtain ⟨g39, h37, hF⟩ := g_bind hF
            refine g_callv (va_runV (As := [.int x1, .int ((7 : Int32)), .int ((1 : Int32))]) (rest := []) ⟨hx, hb, hml, hown, hts⟩ (k7_setBe l D base g35 a0 x1 ((7 : Int32)) ((1 : Int32)) g39 h37) (cwV 3 hts gX7_swear_X7_setBe rfl rfl rfl (by decide +kernel) ⟨Nat.le_of_ble_eq_true rfl, Nat.le_of_ble_eq_true rfl⟩) (gC.preV hE hP hS 7 rfl (by decide) h38 [.int x1, .int ((7 : Int32)), .int ((1 : Int32))]) rfl rfl hl.1 rfl (lv_room (Nat.le_of_ble_eq_true rfl)) dX7_swear_130 ⟨(Nat.le_of_ble_eq_true rfl), (Nat.le_of_ble_eq_true rfl)⟩) hS (fun H locs hP hS => ?_)
            refine lv_aload_n hx hb dX7_swear_133 rfl (lv_at hl 0 rfl) ?_
            refine lv_iload_n hx hb dX7_swear_134 rfl (lv_at hl 1 rfl) ?_
            refine lv_iconst (v := 3) hx hb dX7_swear_135 (by decide) ?_
            refine lv_iconst (v := 0) hx hb dX7_swear_136 (by decide) ?_
            refine lv_aload_n hx hb dX7_swear_137 rfl (lv_at hl 0 rfl) ?_
            refine lv_iload_n hx hb dX7_swear_138 rfl (lv_at hl 1 rfl) ?_
            refine lv_iconst (v := 3) hx hb dX7_swear_139 (by decide) ?_
            obtain ⟨h42, hF⟩ := g_if hF
            obtain ⟨v44, g43, h41, hF⟩ := g_bind2 hF
            refine g_calli (va_runV (As := [.int x1, .int ((3 : Int32))]) (rest := [.int ((0 : Int32)), .int ((3 : Int32)), .int x1, .ref a0]) ⟨hx, hb, hml, hown, hts⟩ (k7_be l D base g39 a0 x1 ((3 : Int32)) v44 g43 h41) (cwV 2 hts gX7_swear_X7_be rfl rfl rfl (by decide +kernel) ⟨Nat.le_of_ble_eq_true rfl, Nat.le_of_ble_eq_true rfl⟩) (gC.preV hE hP hS 7 rfl (by decide) h42 [.int x1, .int ((3 : Int32))]) rfl rfl hl.1 rfl (lv_room (Nat.le_of_ble_eq_true rfl)) dX7_swear_140 ⟨(Nat.le_of_ble_eq_true rfl), (Nat.le_of_ble_eq_true rfl)⟩) hS (fun H locs hP hS => ?_)
            refine lv_iconst (v := 3) hx hb dX7_swear_143 (by decide) ?_
            refine lv_isub hx hb dX7_swear_144 ?_
            refine va_mmax hx hb (hml.trans hl.1.symm) hown (hts (.methodLink RX7 107 Lib.Math.max.name) (by decide +kernel)) (hts (.static Lib.Math.max.name) (by decide +kernel)) (hts (.initialized "java/lang/Math") (by decide +kernel)) (hts (.code Lib.Math.max.name Lib.Math.max.code 2 (some .int)) (by decide +kernel)) (Nat.le_of_ble_eq_true rfl) (Nat.le_of_ble_eq_true rfl) (Nat.le_of_ble_eq_true rfl) (Nat.le_of_ble_eq_true rfl) dX7_swear_145 ?_
            obtain ⟨h46, hF⟩ := g_if hF
            obtain ⟨g47, h45, hF⟩ := g_bind hF
            refine g_callv (va_runV (As := [.int x1, .int ((3 : Int32)), .int (if ((0 : Int32)) < (v44 - ((3 : Int32))) then (v44 - ((3 : Int32))) else ((0 : Int32)))]) (rest := []) ⟨hx, hb, hml, hown, hts⟩ (k7_setBe l D base g43 a0 x1 ((3 : Int32)) (if ((0 : Int32)) < (v44 - ((3 : Int32))) then (v44 - ((3 : Int32))) else ((0 : Int32))) g47 h45) (cwV 3 hts gX7_swear_X7_setBe rfl rfl rfl (by decide +kernel) ⟨Nat.le_of_ble_eq_true rfl, Nat.le_of_ble_eq_true rfl⟩) (gC.preV hE hP hS 7 rfl (by decide) h46 [.int x1, .int ((3 : Int32)), .int (if ((0 : Int32)) < (v44 - ((3 : Int32))) then (v44 - ((3 : Int32))) else ((0 : Int32)))]) rfl rfl hl.1 rfl (lv_room (Nat.le_of_ble_eq_true rfl)) dX7_swear_148 ⟨(Nat.le_of_ble_eq_true rfl), (Nat.le_of_ble_eq_true rfl)⟩) hS (fun H locs hP hS => ?_)
            refine lv_aload_n hx hb dX7_swear_151 rfl (lv_at hl 0 rfl) ?_
            refine lv_iload_n hx hb dX7_swear_152 rfl (lv_at hl 1 rfl) ?_
            refine lv_iconst (v := 3) hx hb dX7_swear_153 (by decide) ?_
            obtain ⟨h50, hF⟩ := g_if hF
            obtain ⟨v52, g51, h49, hF⟩ := g_bind2 hF
            refine g_calli (va_runV (As := [.int x1, .int ((3 : Int32))]) (rest := []) ⟨hx, hb, hml, hown, hts⟩ (k7_be l D base g47 a0 x1 ((3 : Int32)) v52 g51 h49) (cwV 2 hts gX7_swear_X7_be rfl rfl rfl (by decide +kernel) ⟨Nat.le_of_ble_eq_true rfl, Nat.le_of_ble_eq_true rfl⟩) (gC.preV hE hP hS 7 rfl (by decide) h50 [.int x1, .int ((3 : Int32))]) rfl rfl hl.1 rfl (lv_room (Nat.le_of_ble_eq_true rfl)) dX7_swear_154 ⟨(Nat.le_of_ble_eq_true rfl), (Nat.le_of_ble_eq_true rfl)⟩) hS (fun H locs hP hS => ?_)
            exact g_retI hx hb hr hlocks hF hP hS (Nat.le_of_ble_eq_true rfl) (Nat.le_of_ble_eq_true rfl) dX7_swear_157
          · have hF := g_t c21 hF
            exact HB87 _ _ _ _ _ hF hP hS (lv_sub hl [0] rfl)
      · have hF := g_f c11 hF
        refine lv_aload_n hx hb dX7_swear_47 rfl (lv_at hl 0 rfl) ?_
        obtain ⟨h53, hF⟩ := g_if hF
        obtain ⟨q54, hq55, hF⟩ := g_bind hF
        refine g_get hx hb hts hiX7 hown hK hP 7 rfl (by decide) h53 12 (by decide) (hts (.fieldLink RX7 32 "CourierBeesModel" "row" "[I") (by decide +kernel)) (fun _ h9 => h9) ((gFv_r (by decide)).trans (congrArg va_rf hq55)) dX7_swear_48 ?_
        refine lv_iload hx hb dX7_swear_51 (lv_at hl 4 rfl) ?_
        obtain ⟨h56, hF⟩ := g_if hF
        obtain ⟨h57, hF⟩ := g_if hF
        refine g_iald hx hb hP (g_pr h56) h57 dX7_swear_53 ?_
        refine lv_aload_n hx hb dX7_swear_54 rfl (lv_at hl 0 rfl) ?_
        refine lv_iload_n hx hb dX7_swear_55 rfl (lv_at hl 1 rfl) ?_
        obtain ⟨v60, g59, h58, hF⟩ := g_bind2 hF
        refine g_calli (va_runV (As := [.int x1]) (rest := [.int (gI g q54 (Int32.toNatClampNeg x5))]) ⟨hx, hb, hml, hown, hts⟩ (k7_house l D base g a0 x1 v60 g59 h58) (cwV 1 hts gX7_swear_X7_house rfl rfl rfl (by decide +kernel) ⟨Nat.le_of_ble_eq_true rfl, Nat.le_of_ble_eq_true rfl⟩) (gC.preV hE hP hS 7 rfl (by decide) h53 [.int x1]) rfl rfl hl.1 rfl (lv_room (Nat.le_of_ble_eq_true rfl)) dX7_swear_56 ⟨(Nat.le_of_ble_eq_true rfl), (Nat.le_of_ble_eq_true rfl)⟩) hS (fun H locs hP hS => ?_)
        refine lv_icmp_ne (tgt := 66) hx hb dX7_swear_59 (by decide) (fun c61 => ?_) (fun c61 => ?_)
        · have hF := g_f c61 hF
          exact HB66 _ _ _ _ _ _ _ _ _ hF hP hS (lv_sub hl [0, 1, 2, 3, 4] rfl)
        · have hF := g_t c61 hF
          refine lv_iload hx hb dX7_swear_62 (lv_at hl 4 rfl) ?_
          refine lv_istore (lv' := [(4, .int x5), (0, .ref a0), (1, .int x1), (3, .int x3), (5, .int x5)]) hx hb dX7_swear_64 hl (by decide) rfl (fun ls hl => ?_)
          exact HB66 _ _ _ _ _ _ _ _ _ hF hP hS (lv_sub hl [1, 2, 3, 0, 4] rfl)
  unfold f7_swear at hF
  refine lv_aload_n hx hb dX7_swear_0 rfl (lv_at hl 0 rfl) ?_
  refine lv_iconst (v := 0) hx hb dX7_swear_1 (by decide) ?_
  obtain ⟨h1, hF⟩ := g_if hF
  refine g_puti hx hb hts hiX7 tyX7 tyX7_ok nmX7 hown hK hP hS 7 rfl (by decide) h1 0 (by decide) (hts (.fieldLink RX7 35 "CourierBeesModel" "thrown" "I") (by decide +kernel)) (fun _ h9 => h9) (Or.inl rfl) (Or.inl rfl) rfl rfl dX7_swear_2 (fun H locs hP hS => ?_)
  refine lv_aload_n hx hb dX7_swear_5 rfl (lv_at hl 0 rfl) ?_
  refine lv_iload_n hx hb dX7_swear_6 rfl (lv_at hl 1 rfl) ?_
  obtain ⟨v4, g3, h2, hF⟩ := g_bind2 hF
  refine g_calli (va_runV (As := [.int x1]) (rest := []) ⟨hx, hb, hml, hown, hts⟩ (k7_isBee l D base (gPI g a0 0 ((0 : Int32))) a0 x1 v4 g3 h2) (cwV 1 hts gX7_swear_X7_isBee rfl rfl rfl (by decide +kernel) ⟨Nat.le_of_ble_eq_true rfl, Nat.le_of_ble_eq_true rfl⟩) (gC.preV hE hP hS 7 rfl (by decide) h1 [.int x1]) rfl rfl hl.1 rfl (lv_room (Nat.le_of_ble_eq_true rfl)) dX7_swear_7 ⟨(Nat.le_of_ble_eq_true rfl), (Nat.le_of_ble_eq_true rfl)⟩) hS (fun H locs hP hS => ?_)
  refine lv_if_ne (tgt := 19) hx hb dX7_swear_10 (by decide) (fun c5 => ?_) (fun c5 => ?_)
  · have hF := g_f c5 hF
    refine lv_aload_n hx hb dX7_swear_19 rfl (lv_at hl 0 rfl) ?_
    refine lv_iload_n hx hb dX7_swear_20 rfl (lv_at hl 2 rfl) ?_
    obtain ⟨h7, hF⟩ := g_if hF
    obtain ⟨v9, g8, h6, hF⟩ := g_bind2 hF
    refine g_calli (va_runV (As := [.int x2]) (rest := []) ⟨hx, hb, hml, hown, hts⟩ (k7_read l D base g3 a0 x2 v9 g8 h6) (cwV 1 hts gX7_swear_X7_read rfl rfl rfl (by decide +kernel) ⟨Nat.le_of_ble_eq_true rfl, Nat.le_of_ble_eq_true rfl⟩) (gC.preV hE hP hS 7 rfl (by decide) h7 [.int x2]) rfl rfl hl.1 rfl (lv_room (Nat.le_of_ble_eq_true rfl)) dX7_swear_21 ⟨(Nat.le_of_ble_eq_true rfl), (Nat.le_of_ble_eq_true rfl)⟩) hS (fun H locs hP hS => ?_)
    refine lv_istore_n (lv' := [(3, .int v9), (0, .ref a0), (1, .int x1), (2, .int x2)]) hx hb dX7_swear_24 rfl hl (by decide) rfl (fun ls hl => ?_)
    refine lv_iload_n hx hb dX7_swear_25 rfl (lv_at hl 0 rfl) ?_
    refine lv_if_ne (tgt := 35) hx hb dX7_swear_26 (by decide) (fun c10 => ?_) (fun c10 => ?_)
    · have hF := g_f c10 hF
      refine lv_iconst (v := (-1)) hx hb dX7_swear_35 (by decide) ?_
      refine lv_istore (lv' := [(4, .int ((-1 : Int32))), (3, .int v9), (0, .ref a0), (1, .int x1), (2, .int x2)]) hx hb dX7_swear_36 hl (by decide) rfl (fun ls hl => ?_)
      refine lv_iconst (v := 0) hx hb dX7_swear_38 (by decide) ?_
      refine lv_istore (lv' := [(5, .int ((0 : Int32))), (4, .int ((-1 : Int32))), (3, .int v9), (0, .ref a0), (1, .int x1), (2, .int x2)]) hx hb dX7_swear_39 hl (by decide) rfl (fun ls hl => ?_)
      exact HL41 300 _ _ _ _ _ _ _ _ _ hF hP hS (lv_sub hl [3, 4, 2, 1, 0] rfl)
    · have hF := g_t c10 hF
      refine lv_aload_n hx hb dX7_swear_29 rfl (lv_at hl 1 rfl) ?_
      refine lv_iconst (v := 2) hx hb dX7_swear_30 (by decide) ?_
      obtain ⟨h63, hF⟩ := g_if hF
      obtain ⟨v65, g64, h62, hF⟩ := g_bind2 hF
      refine g_calli (va_runV (As := [.int ((2 : Int32))]) (rest := []) ⟨hx, hb, hml, hown, hts⟩ (k7_fail l D base g8 a0 ((2 : Int32)) v65 g64 h62) (cwV 1 hts gX7_swear_X7_fail rfl rfl rfl (by decide +kernel) ⟨Nat.le_of_ble_eq_true rfl, Nat.le_of_ble_eq_true rfl⟩) (gC.preV hE hP hS 7 rfl (by decide) h63 [.int ((2 : Int32))]) rfl rfl hl.1 rfl (lv_room (Nat.le_of_ble_eq_true rfl)) dX7_swear_31 ⟨(Nat.le_of_ble_eq_true rfl), (Nat.le_of_ble_eq_true rfl)⟩) hS (fun H locs hP hS => ?_)
      exact g_retI hx hb hr hlocks hF hP hS (Nat.le_of_ble_eq_true rfl) (Nat.le_of_ble_eq_true rfl) dX7_swear_34
  · have hF := g_t c5 hF
    refine lv_aload_n hx hb dX7_swear_13 rfl (lv_at hl 0 rfl) ?_
    refine lv_iconst (v := 1) hx hb dX7_swear_14 (by decide) ?_
    obtain ⟨h67, hF⟩ := g_if hF
    obtain ⟨v69, g68, h66, hF⟩ := g_bind2 hF
    refine g_calli (va_runV (As := [.int ((1 : Int32))]) (rest := []) ⟨hx, hb, hml, hown, hts⟩ (k7_fail l D base g3 a0 ((1 : Int32)) v69 g68 h66) (cwV 1 hts gX7_swear_X7_fail rfl rfl rfl (by decide +kernel) ⟨Nat.le_of_ble_eq_true rfl, Nat.le_of_ble_eq_true rfl⟩) (gC.preV hE hP hS 7 rfl (by decide) h67 [.int ((1 : Int32))]) rfl rfl hl.1 rfl (lv_room (Nat.le_of_ble_eq_true rfl)) dX7_swear_15 ⟨(Nat.le_of_ble_eq_true rfl), (Nat.le_of_ble_eq_true rfl)⟩) hS (fun H locs hP hS => ?_)
    exact g_retI hx hb hr hlocks hF hP hS (Nat.le_of_ble_eq_true rfl) (Nat.le_of_ble_eq_true rfl) dX7_swear_18
set_option maxHeartbeats 4000000 in
set_option maxRecDepth 100000 in
theorem k7_write (l : Launch) (D : va_G) (base : Nat) (g : g_H) (a0 : Nat) (x1 : Int32) (x2 : Int32) (rr : Int32) (gz : g_H) (hF : f7_write g a0 x1 x2 = some (rr, gz)) : Met l yX7_write wsX7_write ({ frames := 2, cells := 1, slots := 5, locals := 43 } : Room) (va_Pc [.ref a0, .int x1, .int x2] (gC base D g)) (gQi base D rr gz) 1 5 (gA base) := by
  refine g_met (cc := cX7_write) (maxL := 4) (ret := (some .int)) (lst := [(0, .ref a0), (1, .int x1), (2, .int x2)]) (by decide) rfl (Nat.le_of_ble_eq_true rfl) rfl ?_
  intro p e s m args below meth c ls hx hb hr hml hown hlocks hname hts hE hP hl
  have hown : s.vm.findClass RX7 = some m.cls := hown
  have hK := hE.1
  have hov := hE.2.2.2.2.2.2.2.1
  have hbz := hE.2.2.2.2.2.2.2.2.2.2.2.2
  have hS : va_S (gA base) s.heap s.heap [] := va_S.rf
  have hiX7 : ∀ w ∈ wsX70, w ∈ wsX7_write := by decide +kernel
  have HB21 : ∀ (g : g_H) (a0 : Nat) (H : Heap) (locs : List Loc) (ls : Array Slot), f7_write_21 g a0 = some (rr, gz) → gP base D s g H → va_S (gA base) s.heap H locs → lv_has ls 4 [(0, .ref a0)] → W p l e ({ frames := 2, cells := 1, slots := 5, locals := 43 } : Room) s m args below meth c H locs 0 0 (MQ below (gQi base D rr gz) args s 1 5 (gA base)) (F0 m 21 ls []) := by
    intro g a0 H locs ls hF hP hS hl
    unfold f7_write_21 at hF
    refine lv_aload_n hx hb dX7_write_21 rfl (lv_at hl 0 rfl) ?_
    refine lv_iconst (v := 1) hx hb dX7_write_22 (by decide) ?_
    obtain ⟨h7, hF⟩ := g_if hF
    obtain ⟨v9, g8, h6, hF⟩ := g_bind2 hF
    refine g_calli (va_runV (As := [.int ((1 : Int32))]) (rest := []) ⟨hx, hb, hml, hown, hts⟩ (k7_fail l D base g a0 ((1 : Int32)) v9 g8 h6) (cwV 1 hts gX7_write_X7_fail rfl rfl rfl (by decide +kernel) ⟨Nat.le_of_ble_eq_true rfl, Nat.le_of_ble_eq_true rfl⟩) (gC.preV hE hP hS 7 rfl (by decide) h7 [.int ((1 : Int32))]) rfl rfl hl.1 rfl (lv_room (Nat.le_of_ble_eq_true rfl)) dX7_write_23 ⟨(Nat.le_of_ble_eq_true rfl), (Nat.le_of_ble_eq_true rfl)⟩) hS (fun H locs hP hS => ?_)
    exact g_retI hx hb hr hlocks hF hP hS (Nat.le_of_ble_eq_true rfl) (Nat.le_of_ble_eq_true rfl) dX7_write_26
  unfold f7_write at hF
  refine lv_aload_n hx hb dX7_write_0 rfl (lv_at hl 0 rfl) ?_
  refine lv_iconst (v := 0) hx hb dX7_write_1 (by decide) ?_
  obtain ⟨h1, hF⟩ := g_if hF
  refine g_puti hx hb hts hiX7 tyX7 tyX7_ok nmX7 hown hK hP hS 7 rfl (by decide) h1 0 (by decide) (hts (.fieldLink RX7 35 "CourierBeesModel" "thrown" "I") (by decide +kernel)) (fun _ h9 => h9) (Or.inl rfl) (Or.inl rfl) rfl rfl dX7_write_2 (fun H locs hP hS => ?_)
  refine lv_aload_n hx hb dX7_write_5 rfl (lv_at hl 0 rfl) ?_
  refine lv_iload_n hx hb dX7_write_6 rfl (lv_at hl 1 rfl) ?_
  obtain ⟨v4, g3, h2, hF⟩ := g_bind2 hF
  refine g_calli (va_runV (As := [.int x1]) (rest := []) ⟨hx, hb, hml, hown, hts⟩ (k7_isHouse l D base (gPI g a0 0 ((0 : Int32))) a0 x1 v4 g3 h2) (cwV 1 hts gX7_write_X7_isHouse rfl rfl rfl (by decide +kernel) ⟨Nat.le_of_ble_eq_true rfl, Nat.le_of_ble_eq_true rfl⟩) (gC.preV hE hP hS 7 rfl (by decide) h1 [.int x1]) rfl rfl hl.1 rfl (lv_room (Nat.le_of_ble_eq_true rfl)) dX7_write_7 ⟨(Nat.le_of_ble_eq_true rfl), (Nat.le_of_ble_eq_true rfl)⟩) hS (fun H locs hP hS => ?_)
  refine lv_if_eq (tgt := 21) hx hb dX7_write_10 (by decide) (fun c5 => ?_) (fun c5 => ?_)
  · have hF := g_t c5 hF
    exact HB21 _ _ _ _ _ hF hP hS (lv_sub hl [0] rfl)
  · have hF := g_f c5 hF
    refine lv_aload_n hx hb dX7_write_13 rfl (lv_at hl 0 rfl) ?_
    refine lv_iload_n hx hb dX7_write_14 rfl (lv_at hl 2 rfl) ?_
    obtain ⟨h11, hF⟩ := g_if hF
    obtain ⟨v13, g12, h10, hF⟩ := g_bind2 hF
    refine g_calli (va_runV (As := [.int x2]) (rest := []) ⟨hx, hb, hml, hown, hts⟩ (k7_isHouse l D base g3 a0 x2 v13 g12 h10) (cwV 1 hts gX7_write_X7_isHouse rfl rfl rfl (by decide +kernel) ⟨Nat.le_of_ble_eq_true rfl, Nat.le_of_ble_eq_true rfl⟩) (gC.preV hE hP hS 7 rfl (by decide) h11 [.int x2]) rfl rfl hl.1 rfl (lv_room (Nat.le_of_ble_eq_true rfl)) dX7_write_15 ⟨(Nat.le_of_ble_eq_true rfl), (Nat.le_of_ble_eq_true rfl)⟩) hS (fun H locs hP hS => ?_)
    refine lv_if_ne (tgt := 27) hx hb dX7_write_18 (by decide) (fun c14 => ?_) (fun c14 => ?_)
    · have hF := g_f c14 hF
      refine lv_iload_n hx hb dX7_write_27 rfl (lv_at hl 1 rfl) ?_
      refine lv_iload_n hx hb dX7_write_28 rfl (lv_at hl 2 rfl) ?_
      refine lv_icmp_ne (tgt := 38) hx hb dX7_write_29 (by decide) (fun c15 => ?_) (fun c15 => ?_)
      · have hF := g_f c15 hF
        refine lv_aload_n hx hb dX7_write_38 rfl (lv_at hl 0 rfl) ?_
        obtain ⟨h16, hF⟩ := g_if hF
        refine g_get hx hb hts hiX7 hown hK hP 7 rfl (by decide) h16 9 (by decide) (hts (.fieldLink RX7 52 "CourierBeesModel" "letters" "I") (by decide +kernel)) (fun _ h9 => h9) (gFv_i (Or.inl rfl)) dX7_write_39 ?_
        refine lv_bipush (v := 20) hx hb dX7_write_42 (by decide) ?_
        refine lv_icmp_ne (tgt := 53) hx hb dX7_write_44 (by decide) (fun c17 => ?_) (fun c17 => ?_)
        · have hF := g_f c17 hF
          refine lv_iconst (v := 5) hx hb dX7_write_53 (by decide) ?_
          obtain ⟨q18, g19, e20, e21, h22, hF⟩ := g_nw hF
          refine g_newa (atype := .int) hx hb (hts (.arrayClass .int) (by decide +kernel)) 11 rfl (by decide) rfl hP hS hbz (n := 5) (N' := 5) (by decide) (by decide) (Nat.le_of_ble_eq_true rfl) (Nat.le_of_ble_eq_true rfl) (Nat.le_of_ble_eq_true rfl) dX7_write_54 (fun H hP hS => ?_)
          rw [e21] at hP
          rw [e20]
          refine lv_dup hx hb dX7_write_56 rfl ?_
          refine lv_iconst (v := 0) hx hb dX7_write_57 (by decide) ?_
          refine lv_iload_n hx hb dX7_write_58 rfl (lv_at hl 2 rfl) ?_
          obtain ⟨h23, hF⟩ := g_if hF
          refine g_iast hx hb hP hS (g_pr h22) h23 dX7_write_59 (fun H locs hP hS => ?_)
          refine lv_dup hx hb dX7_write_60 rfl ?_
          refine lv_iconst (v := 1) hx hb dX7_write_61 (by decide) ?_
          refine lv_iload_n hx hb dX7_write_62 rfl (lv_at hl 1 rfl) ?_
          obtain ⟨h24, hF⟩ := g_if hF
          refine g_iast hx hb hP hS (g_pr h22) h24 dX7_write_63 (fun H locs hP hS => ?_)
          refine lv_dup hx hb dX7_write_64 rfl ?_
          refine lv_iconst (v := 2) hx hb dX7_write_65 (by decide) ?_
          refine lv_iconst (v := (-1)) hx hb dX7_write_66 (by decide) ?_
          obtain ⟨h25, hF⟩ := g_if hF
          refine g_iast hx hb hP hS (g_pr h22) h25 dX7_write_67 (fun H locs hP hS => ?_)
          refine lv_dup hx hb dX7_write_68 rfl ?_
          refine lv_iconst (v := 3) hx hb dX7_write_69 (by decide) ?_
          refine lv_iconst (v := (-1)) hx hb dX7_write_70 (by decide) ?_
          obtain ⟨h26, hF⟩ := g_if hF
          refine g_iast hx hb hP hS (g_pr h22) h26 dX7_write_71 (fun H locs hP hS => ?_)
          obtain ⟨g27, e28, hF⟩ := g_let hF
          rw [e28] at hP
          have h29 : (gS g27 q18).1 = 11 := by rw [← e28]; exact h22
          refine lv_dup hx hb dX7_write_72 rfl ?_
          refine lv_iconst (v := 4) hx hb dX7_write_73 (by decide) ?_
          refine lv_iconst (v := 0) hx hb dX7_write_74 (by decide) ?_
          obtain ⟨h30, hF⟩ := g_if hF
          refine g_iast hx hb hP hS (g_pr h29) h30 dX7_write_75 (fun H locs hP hS => ?_)
          refine lv_astore_n (lv' := [(3, .ref q18), (0, .ref a0), (1, .int x1), (2, .int x2)]) hx hb dX7_write_76 rfl hl (by decide) rfl (fun ls hl => ?_)
          refine lv_aload_n hx hb dX7_write_77 rfl (lv_at hl 0 rfl) ?_
          refine lv_iconst (v := 0) hx hb dX7_write_78 (by decide) ?_
          refine lv_aload_n hx hb dX7_write_79 rfl (lv_at hl 1 rfl) ?_
          obtain ⟨h31, hF⟩ := g_if hF
          obtain ⟨q32, hq33, hF⟩ := g_bind hF
          refine g_get hx hb hts hiX7 hown hK hP 7 rfl (by decide) h31 10 (by decide) (hts (.fieldLink RX7 26 "CourierBeesModel" "post" "[I") (by decide +kernel)) (fun _ h9 => h9) ((gFv_r (by decide)).trans (congrArg va_rf hq33)) dX7_write_80 ?_
          refine lv_iconst (v := 5) hx hb dX7_write_83 (by decide) ?_
          refine lv_aload_n hx hb dX7_write_84 rfl (lv_at hl 1 rfl) ?_
          refine g_get hx hb hts hiX7 hown hK hP 7 rfl (by decide) h31 9 (by decide) (hts (.fieldLink RX7 52 "CourierBeesModel" "letters" "I") (by decide +kernel)) (fun _ h9 => h9) (gFv_i (Or.inl rfl)) dX7_write_85 ?_
          refine lv_imul hx hb dX7_write_88 ?_
          refine lv_iconst (v := 5) hx hb dX7_write_89 (by decide) ?_
          obtain ⟨h34, hF⟩ := g_if hF
          obtain ⟨h35, hF⟩ := g_if hF
          refine g_copy hx hb (hml.trans hl.1.symm) hown (hts (.methodLink RX7 75 arraycopyName) (by decide +kernel)) (hts (.native arraycopyName) (by decide +kernel)) (hts (.static arraycopyName) (by decide +kernel)) (hts (.initialized "java/lang/System") (by decide +kernel)) hP hS (g_pr h29) (g_pr h34) h35.1 h35.2.1 h35.2.2.1 h35.2.2.2.1 h35.2.2.2.2 (Nat.le_of_ble_eq_true rfl) (by decide) dX7_write_90 (fun H locs hP hS => ?_)
          obtain ⟨g36, e37, hF⟩ := g_let hF
          rw [e37] at hP
          have h38 : (gS g36 q18).1 = 11 := by rw [← e37]; exact h29
          have h39 : (gS g36 a0).1 = 8 := by rw [← e37]; exact h31
          have h40 : (gS g36 q32).1 = 11 := by rw [← e37]; exact h34
          refine lv_aload_n hx hb dX7_write_93 rfl (lv_at hl 1 rfl) ?_
          refine lv_dup hx hb dX7_write_94 rfl ?_
          refine g_get hx hb hts hiX7 hown hK hP 7 rfl (by decide) h39 9 (by decide) (hts (.fieldLink RX7 52 "CourierBeesModel" "letters" "I") (by decide +kernel)) (fun _ h9 => h9) (gFv_i (Or.inl rfl)) dX7_write_95 ?_
          refine lv_iconst (v := 1) hx hb dX7_write_98 (by decide) ?_
          refine lv_iadd hx hb dX7_write_99 ?_
          obtain ⟨y41, e42, hF⟩ := g_let hF
          rw [e42]
          refine g_puti hx hb hts hiX7 tyX7 tyX7_ok nmX7 hown hK hP hS 7 rfl (by decide) h39 9 (by decide) (hts (.fieldLink RX7 52 "CourierBeesModel" "letters" "I") (by decide +kernel)) (fun _ h9 => h9) (Or.inl rfl) (Or.inl rfl) rfl rfl dX7_write_100 (fun H locs hP hS => ?_)
          refine lv_aload_n hx hb dX7_write_103 rfl (lv_at hl 1 rfl) ?_
          refine g_get hx hb hts hiX7 hown hK hP 7 rfl (by decide) h39 9 (by decide) (hts (.fieldLink RX7 52 "CourierBeesModel" "letters" "I") (by decide +kernel)) (fun _ h9 => h9) (gFv_i (Or.inl rfl)) dX7_write_104 ?_
          refine lv_iconst (v := 1) hx hb dX7_write_107 (by decide) ?_
          refine lv_isub hx hb dX7_write_108 ?_
          exact g_retI hx hb hr hlocks hF hP hS (Nat.le_of_ble_eq_true rfl) (Nat.le_of_ble_eq_true rfl) dX7_write_109
        · have hF := g_t c17 hF
          refine lv_aload_n hx hb dX7_write_47 rfl (lv_at hl 0 rfl) ?_
          refine lv_iconst (v := 3) hx hb dX7_write_48 (by decide) ?_
          obtain ⟨v45, g44, h43, hF⟩ := g_bind2 hF
          refine g_calli (va_runV (As := [.int ((3 : Int32))]) (rest := []) ⟨hx, hb, hml, hown, hts⟩ (k7_fail l D base g12 a0 ((3 : Int32)) v45 g44 h43) (cwV 1 hts gX7_write_X7_fail rfl rfl rfl (by decide +kernel) ⟨Nat.le_of_ble_eq_true rfl, Nat.le_of_ble_eq_true rfl⟩) (gC.preV hE hP hS 7 rfl (by decide) h16 [.int ((3 : Int32))]) rfl rfl hl.1 rfl (lv_room (Nat.le_of_ble_eq_true rfl)) dX7_write_49 ⟨(Nat.le_of_ble_eq_true rfl), (Nat.le_of_ble_eq_true rfl)⟩) hS (fun H locs hP hS => ?_)
          exact g_retI hx hb hr hlocks hF hP hS (Nat.le_of_ble_eq_true rfl) (Nat.le_of_ble_eq_true rfl) dX7_write_52
      · have hF := g_t c15 hF
        refine lv_aload_n hx hb dX7_write_32 rfl (lv_at hl 0 rfl) ?_
        refine lv_iconst (v := 2) hx hb dX7_write_33 (by decide) ?_
        obtain ⟨h47, hF⟩ := g_if hF
        obtain ⟨v49, g48, h46, hF⟩ := g_bind2 hF
        refine g_calli (va_runV (As := [.int ((2 : Int32))]) (rest := []) ⟨hx, hb, hml, hown, hts⟩ (k7_fail l D base g12 a0 ((2 : Int32)) v49 g48 h46) (cwV 1 hts gX7_write_X7_fail rfl rfl rfl (by decide +kernel) ⟨Nat.le_of_ble_eq_true rfl, Nat.le_of_ble_eq_true rfl⟩) (gC.preV hE hP hS 7 rfl (by decide) h47 [.int ((2 : Int32))]) rfl rfl hl.1 rfl (lv_room (Nat.le_of_ble_eq_true rfl)) dX7_write_34 ⟨(Nat.le_of_ble_eq_true rfl), (Nat.le_of_ble_eq_true rfl)⟩) hS (fun H locs hP hS => ?_)
        exact g_retI hx hb hr hlocks hF hP hS (Nat.le_of_ble_eq_true rfl) (Nat.le_of_ble_eq_true rfl) dX7_write_37
    · have hF := g_t c14 hF
      exact HB21 _ _ _ _ _ hF hP hS (lv_sub hl [0] rfl)
end
section
set_option maxHeartbeats 4000000 in
set_option maxRecDepth 100000 in
theorem k7_carries (l : Launch) (D : va_G) (base : Nat) (g : g_H) (a0 : Nat) (x1 : Int32) (rr : Int32) (gz : g_H) (hF : f7_carries g a0 x1 = some (rr, gz)) : Met l yX7_carries wsX7_carries ({ frames := 1, cells := 0, slots := 0, locals := 22 } : Room) (va_Pc [.ref a0, .int x1] (gC base D g)) (gQi base D rr gz) 0 0 (gA base) := by
  refine g_met (cc := cX7_carries) (maxL := 4) (ret := (some .int)) (lst := [(0, .ref a0), (1, .int x1)]) (by decide) rfl (Nat.le_of_ble_eq_true rfl) rfl ?_
  intro p e s m args below meth c ls hx hb hr hml hown hlocks hname hts hE hP hl
  have hown : s.vm.findClass RX7 = some m.cls := hown
  have hK := hE.1
  have hov := hE.2.2.2.2.2.2.2.1
  have hbz := hE.2.2.2.2.2.2.2.2.2.2.2.2
  have hS : va_S (gA base) s.heap s.heap [] := va_S.rf
  have hiX7 : ∀ w ∈ wsX70, w ∈ wsX7_carries := by decide +kernel
  have HL4 : ∀ (n4 : Nat), ∀ (g : g_H) (a0 : Nat) (x1 : Int32) (x2 : Int32) (x3 : Int32) (H : Heap) (locs : List Loc) (ls : Array Slot), f7_carries_4 n4 g a0 x1 x2 x3 = some (rr, gz) → gP base D s g H → va_S (gA base) s.heap H locs → lv_has ls 4 [(0, .ref a0), (1, .int x1), (2, .int x2), (3, .int x3)] → W p l e ({ frames := 1, cells := 0, slots := 0, locals := 22 } : Room) s m args below meth c H locs 0 0 (MQ below (gQi base D rr gz) args s 0 0 (gA base)) (F0 m 4 ls []) := by
    intro n4
    induction n4 with
    | zero => intro g a0 x1 x2 x3 H locs ls hF hP hS hl; exact g_no hF
    | succ n4 ih4 =>
      have HB28 : ∀ (g : g_H) (a0 : Nat) (x1 : Int32) (x3 : Int32) (s0 : Int32) (s1 : Int32) (H : Heap) (locs : List Loc) (ls : Array Slot), f7_carries_28 (f7_carries_4 n4) g a0 x1 x3 s0 s1 = some (rr, gz) → gP base D s g H → va_S (gA base) s.heap H locs → lv_has ls 4 [(0, .ref a0), (1, .int x1), (3, .int x3)] → W p l e ({ frames := 1, cells := 0, slots := 0, locals := 22 } : Room) s m args below meth c H locs 0 0 (MQ below (gQi base D rr gz) args s 0 0 (gA base)) (F0 m 28 ls [.int s1, .int s0]) := by
        intro g a0 x1 x3 s0 s1 H locs ls hF hP hS hl
        unfold f7_carries_28 at hF
        refine lv_iadd hx hb dX7_carries_28 ?_
        refine lv_istore_n (lv' := [(2, .int (s0 + s1)), (0, .ref a0), (1, .int x1), (3, .int x3)]) hx hb dX7_carries_29 rfl hl (by decide) rfl (fun ls hl => ?_)
        refine lv_iinc (v := x3 + (1 : Int32)) (lv' := [(3, .int (x3 + (1 : Int32))), (2, .int (s0 + s1)), (0, .ref a0), (1, .int x1)]) hx hb dX7_carries_30 hl (k := 3) rfl rfl (by decide) rfl (fun ls hl => ?_)
        refine lv_goto (tgt := 4) hx hb dX7_carries_33 (by decide) ?_
        exact ih4 _ _ _ _ _ _ _ _ hF hP hS (lv_sub hl [2, 3, 1, 0] rfl)
      intro g a0 x1 x2 x3 H locs ls hF hP hS hl
      have hF : f7_carries_4b (f7_carries_4 n4) g a0 x1 x2 x3 = some (rr, gz) := hF
      unfold f7_carries_4b at hF
      refine lv_iload_n hx hb dX7_carries_4 rfl (lv_at hl 3 rfl) ?_
      refine lv_aload_n hx hb dX7_carries_5 rfl (lv_at hl 0 rfl) ?_
      obtain ⟨h1, hF⟩ := g_if hF
      refine g_get hx hb hts hiX7 hown hK hP 7 rfl (by decide) h1 9 (by decide) (hts (.fieldLink RX7 52 "CourierBeesModel" "letters" "I") (by decide +kernel)) (fun _ h9 => h9) (gFv_i (Or.inl rfl)) dX7_carries_6 ?_
      refine lv_icmp_ge (tgt := 36) hx hb dX7_carries_9 (by decide) (fun c2 => ?_) (fun c2 => ?_)
      · have hF := g_t c2 hF
        refine lv_iload_n hx hb dX7_carries_36 rfl (lv_at hl 2 rfl) ?_
        exact g_retI hx hb hr hlocks hF hP hS (Nat.le_of_ble_eq_true rfl) (Nat.le_of_ble_eq_true rfl) dX7_carries_37
      · have hF := g_f c2 hF
        refine lv_iload_n hx hb dX7_carries_12 rfl (lv_at hl 2 rfl) ?_
        refine lv_aload_n hx hb dX7_carries_13 rfl (lv_at hl 0 rfl) ?_
        refine lv_iload_n hx hb dX7_carries_14 rfl (lv_at hl 3 rfl) ?_
        refine lv_iconst (v := 2) hx hb dX7_carries_15 (by decide) ?_
        obtain ⟨v5, g4, h3, hF⟩ := g_bind2 hF
        refine g_calli (va_runV (As := [.int x3, .int ((2 : Int32))]) (rest := [.int x2]) ⟨hx, hb, hml, hown, hts⟩ (k7_le l D base g a0 x3 ((2 : Int32)) v5 g4 h3) (cwV 2 hts gX7_carries_X7_le rfl rfl rfl (by decide +kernel) ⟨Nat.le_of_ble_eq_true rfl, Nat.le_of_ble_eq_true rfl⟩) (gC.preV hE hP hS 7 rfl (by decide) h1 [.int x3, .int ((2 : Int32))]) rfl rfl hl.1 rfl (lv_room (Nat.le_of_ble_eq_true rfl)) dX7_carries_16 ⟨(Nat.le_of_ble_eq_true rfl), (Nat.le_of_ble_eq_true rfl)⟩) hS (fun H locs hP hS => ?_)
        refine lv_iload_n hx hb dX7_carries_19 rfl (lv_at hl 1 rfl) ?_
        refine lv_icmp_ne (tgt := 27) hx hb dX7_carries_20 (by decide) (fun c6 => ?_) (fun c6 => ?_)
        · have hF := g_f c6 hF
          refine lv_iconst (v := 0) hx hb dX7_carries_27 (by decide) ?_
          exact HB28 _ _ _ _ _ _ _ _ _ hF hP hS (lv_sub hl [0, 1, 3] rfl)
        · have hF := g_t c6 hF
          refine lv_iconst (v := 1) hx hb dX7_carries_23 (by decide) ?_
          refine lv_goto (tgt := 28) hx hb dX7_carries_24 (by decide) ?_
          exact HB28 _ _ _ _ _ _ _ _ _ hF hP hS (lv_sub hl [0, 1, 3] rfl)
  unfold f7_carries at hF
  refine lv_iconst (v := 0) hx hb dX7_carries_0 (by decide) ?_
  refine lv_istore_n (lv' := [(2, .int ((0 : Int32))), (0, .ref a0), (1, .int x1)]) hx hb dX7_carries_1 rfl hl (by decide) rfl (fun ls hl => ?_)
  refine lv_iconst (v := 0) hx hb dX7_carries_2 (by decide) ?_
  refine lv_istore_n (lv' := [(3, .int ((0 : Int32))), (2, .int ((0 : Int32))), (0, .ref a0), (1, .int x1)]) hx hb dX7_carries_3 rfl hl (by decide) rfl (fun ls hl => ?_)
  exact HL4 300 _ _ _ _ _ _ _ _ hF hP hS (lv_sub hl [2, 3, 1, 0] rfl)
set_option maxHeartbeats 4000000 in
set_option maxRecDepth 100000 in
theorem k7_take (l : Launch) (D : va_G) (base : Nat) (g : g_H) (a0 : Nat) (x1 : Int32) (x2 : Int32) (gz : g_H) (hF : f7_take g a0 x1 x2 = some gz) : Met l yX7_take wsX7_take ({ frames := 1, cells := 0, slots := 0, locals := 23 } : Room) (va_Pc [.ref a0, .int x1, .int x2] (gC base D g)) (gQv base D gz) 0 0 (gA base) := by
  refine g_met (cc := cX7_take) (maxL := 3) (ret := none) (lst := [(0, .ref a0), (1, .int x1), (2, .int x2)]) (by decide) rfl (Nat.le_of_ble_eq_true rfl) rfl ?_
  intro p e s m args below meth c ls hx hb hr hml hown hlocks hname hts hE hP hl
  have hown : s.vm.findClass RX7 = some m.cls := hown
  have hK := hE.1
  have hov := hE.2.2.2.2.2.2.2.1
  have hbz := hE.2.2.2.2.2.2.2.2.2.2.2.2
  have hS : va_S (gA base) s.heap s.heap [] := va_S.rf
  unfold f7_take at hF
  refine lv_aload_n hx hb dX7_take_0 rfl (lv_at hl 0 rfl) ?_
  refine lv_iload_n hx hb dX7_take_1 rfl (lv_at hl 2 rfl) ?_
  refine lv_iconst (v := 1) hx hb dX7_take_2 (by decide) ?_
  refine lv_iconst (v := (-1)) hx hb dX7_take_3 (by decide) ?_
  obtain ⟨h2, hF⟩ := g_if hF
  obtain ⟨g3, h1, hF⟩ := g_bind hF
  refine g_callv (va_runV (As := [.int x2, .int ((1 : Int32)), .int ((-1 : Int32))]) (rest := []) ⟨hx, hb, hml, hown, hts⟩ (k7_setLe l D base g a0 x2 ((1 : Int32)) ((-1 : Int32)) g3 h1) (cwV 3 hts gX7_take_X7_setLe rfl rfl rfl (by decide +kernel) ⟨Nat.le_of_ble_eq_true rfl, Nat.le_of_ble_eq_true rfl⟩) (gC.preV hE hP hS 7 rfl (by decide) h2 [.int x2, .int ((1 : Int32)), .int ((-1 : Int32))]) rfl rfl hl.1 rfl (lv_room (Nat.le_of_ble_eq_true rfl)) dX7_take_4 ⟨(Nat.le_of_ble_eq_true rfl), (Nat.le_of_ble_eq_true rfl)⟩) hS (fun H locs hP hS => ?_)
  refine lv_aload_n hx hb dX7_take_7 rfl (lv_at hl 0 rfl) ?_
  refine lv_iload_n hx hb dX7_take_8 rfl (lv_at hl 2 rfl) ?_
  refine lv_iconst (v := 2) hx hb dX7_take_9 (by decide) ?_
  refine lv_iload_n hx hb dX7_take_10 rfl (lv_at hl 1 rfl) ?_
  obtain ⟨h6, hF⟩ := g_if hF
  obtain ⟨g7, h5, hF⟩ := g_bind hF
  refine g_callv (va_runV (As := [.int x2, .int ((2 : Int32)), .int x1]) (rest := []) ⟨hx, hb, hml, hown, hts⟩ (k7_setLe l D base g3 a0 x2 ((2 : Int32)) x1 g7 h5) (cwV 3 hts gX7_take_X7_setLe rfl rfl rfl (by decide +kernel) ⟨Nat.le_of_ble_eq_true rfl, Nat.le_of_ble_eq_true rfl⟩) (gC.preV hE hP hS 7 rfl (by decide) h6 [.int x2, .int ((2 : Int32)), .int x1]) rfl rfl hl.1 rfl (lv_room (Nat.le_of_ble_eq_true rfl)) dX7_take_11 ⟨(Nat.le_of_ble_eq_true rfl), (Nat.le_of_ble_eq_true rfl)⟩) hS (fun H locs hP hS => ?_)
  refine lv_aload_n hx hb dX7_take_14 rfl (lv_at hl 0 rfl) ?_
  refine lv_iload_n hx hb dX7_take_15 rfl (lv_at hl 2 rfl) ?_
  refine lv_iconst (v := 4) hx hb dX7_take_16 (by decide) ?_
  refine lv_aload_n hx hb dX7_take_17 rfl (lv_at hl 0 rfl) ?_
  refine lv_iload_n hx hb dX7_take_18 rfl (lv_at hl 2 rfl) ?_
  refine lv_iconst (v := 4) hx hb dX7_take_19 (by decide) ?_
  obtain ⟨h10, hF⟩ := g_if hF
  obtain ⟨v12, g11, h9, hF⟩ := g_bind2 hF
  refine g_calli (va_runV (As := [.int x2, .int ((4 : Int32))]) (rest := [.int ((4 : Int32)), .int x2, .ref a0]) ⟨hx, hb, hml, hown, hts⟩ (k7_le l D base g7 a0 x2 ((4 : Int32)) v12 g11 h9) (cwV 2 hts gX7_take_X7_le rfl rfl rfl (by decide +kernel) ⟨Nat.le_of_ble_eq_true rfl, Nat.le_of_ble_eq_true rfl⟩) (gC.preV hE hP hS 7 rfl (by decide) h10 [.int x2, .int ((4 : Int32))]) rfl rfl hl.1 rfl (lv_room (Nat.le_of_ble_eq_true rfl)) dX7_take_20 ⟨(Nat.le_of_ble_eq_true rfl), (Nat.le_of_ble_eq_true rfl)⟩) hS (fun H locs hP hS => ?_)
  refine lv_iconst (v := 1) hx hb dX7_take_23 (by decide) ?_
  refine lv_iadd hx hb dX7_take_24 ?_
  obtain ⟨h14, hF⟩ := g_if hF
  obtain ⟨g15, h13, hF⟩ := g_bind hF
  refine g_callv (va_runV (As := [.int x2, .int ((4 : Int32)), .int (v12 + ((1 : Int32)))]) (rest := []) ⟨hx, hb, hml, hown, hts⟩ (k7_setLe l D base g11 a0 x2 ((4 : Int32)) (v12 + ((1 : Int32))) g15 h13) (cwV 3 hts gX7_take_X7_setLe rfl rfl rfl (by decide +kernel) ⟨Nat.le_of_ble_eq_true rfl, Nat.le_of_ble_eq_true rfl⟩) (gC.preV hE hP hS 7 rfl (by decide) h14 [.int x2, .int ((4 : Int32)), .int (v12 + ((1 : Int32)))]) rfl rfl hl.1 rfl (lv_room (Nat.le_of_ble_eq_true rfl)) dX7_take_25 ⟨(Nat.le_of_ble_eq_true rfl), (Nat.le_of_ble_eq_true rfl)⟩) hS (fun H locs hP hS => ?_)
  exact g_retV hx hb hr hlocks hF hP hS (Nat.le_of_ble_eq_true rfl) (Nat.le_of_ble_eq_true rfl) dX7_take_28
set_option maxHeartbeats 4000000 in
set_option maxRecDepth 100000 in
theorem k7_honour (l : Launch) (D : va_G) (base : Nat) (g : g_H) (a0 : Nat) (x1 : Int32) (x2 : Int32) (gz : g_H) (hF : f7_honour g a0 x1 x2 = some gz) : Met l yX7_honour wsX7_honour ({ frames := 1, cells := 0, slots := 0, locals := 24 } : Room) (va_Pc [.ref a0, .int x1, .int x2] (gC base D g)) (gQv base D gz) 0 0 (gA base) := by
  refine g_met (cc := cX7_honour) (maxL := 3) (ret := none) (lst := [(0, .ref a0), (1, .int x1), (2, .int x2)]) (by decide) rfl (Nat.le_of_ble_eq_true rfl) rfl ?_
  intro p e s m args below meth c ls hx hb hr hml hown hlocks hname hts hE hP hl
  have hown : s.vm.findClass RX7 = some m.cls := hown
  have hK := hE.1
  have hov := hE.2.2.2.2.2.2.2.1
  have hbz := hE.2.2.2.2.2.2.2.2.2.2.2.2
  have hS : va_S (gA base) s.heap s.heap [] := va_S.rf
  unfold f7_honour at hF
  refine lv_aload_n hx hb dX7_honour_0 rfl (lv_at hl 0 rfl) ?_
  refine lv_iload_n hx hb dX7_honour_1 rfl (lv_at hl 1 rfl) ?_
  refine lv_iconst (v := 3) hx hb dX7_honour_2 (by decide) ?_
  refine lv_iconst (v := 0) hx hb dX7_honour_3 (by decide) ?_
  refine lv_bipush (v := 20) hx hb dX7_honour_4 (by decide) ?_
  refine lv_aload_n hx hb dX7_honour_6 rfl (lv_at hl 0 rfl) ?_
  refine lv_iload_n hx hb dX7_honour_7 rfl (lv_at hl 1 rfl) ?_
  refine lv_iconst (v := 3) hx hb dX7_honour_8 (by decide) ?_
  obtain ⟨h2, hF⟩ := g_if hF
  obtain ⟨v4, g3, h1, hF⟩ := g_bind2 hF
  refine g_calli (va_runV (As := [.int x1, .int ((3 : Int32))]) (rest := [.int ((20 : Int32)), .int ((0 : Int32)), .int ((3 : Int32)), .int x1, .ref a0]) ⟨hx, hb, hml, hown, hts⟩ (k7_be l D base g a0 x1 ((3 : Int32)) v4 g3 h1) (cwV 2 hts gX7_honour_X7_be rfl rfl rfl (by decide +kernel) ⟨Nat.le_of_ble_eq_true rfl, Nat.le_of_ble_eq_true rfl⟩) (gC.preV hE hP hS 7 rfl (by decide) h2 [.int x1, .int ((3 : Int32))]) rfl rfl hl.1 rfl (lv_room (Nat.le_of_ble_eq_true rfl)) dX7_honour_9 ⟨(Nat.le_of_ble_eq_true rfl), (Nat.le_of_ble_eq_true rfl)⟩) hS (fun H locs hP hS => ?_)
  refine lv_iload_n hx hb dX7_honour_12 rfl (lv_at hl 2 rfl) ?_
  refine lv_iadd hx hb dX7_honour_13 ?_
  refine va_mmin hx hb (hml.trans hl.1.symm) hown (hts (.methodLink RX7 70 Lib.Math.min.name) (by decide +kernel)) (hts (.static Lib.Math.min.name) (by decide +kernel)) (hts (.initialized "java/lang/Math") (by decide +kernel)) (hts (.code Lib.Math.min.name Lib.Math.min.code 2 (some .int)) (by decide +kernel)) (Nat.le_of_ble_eq_true rfl) (Nat.le_of_ble_eq_true rfl) (Nat.le_of_ble_eq_true rfl) (Nat.le_of_ble_eq_true rfl) dX7_honour_14 ?_
  refine va_mmax hx hb (hml.trans hl.1.symm) hown (hts (.methodLink RX7 107 Lib.Math.max.name) (by decide +kernel)) (hts (.static Lib.Math.max.name) (by decide +kernel)) (hts (.initialized "java/lang/Math") (by decide +kernel)) (hts (.code Lib.Math.max.name Lib.Math.max.code 2 (some .int)) (by decide +kernel)) (Nat.le_of_ble_eq_true rfl) (Nat.le_of_ble_eq_true rfl) (Nat.le_of_ble_eq_true rfl) (Nat.le_of_ble_eq_true rfl) dX7_honour_17 ?_
  obtain ⟨h6, hF⟩ := g_if hF
  obtain ⟨g7, h5, hF⟩ := g_bind hF
  refine g_callv (va_runV (As := [.int x1, .int ((3 : Int32)), .int (if ((0 : Int32)) < (if (v4 + x2) < ((20 : Int32)) then (v4 + x2) else ((20 : Int32))) then (if (v4 + x2) < ((20 : Int32)) then (v4 + x2) else ((20 : Int32))) else ((0 : Int32)))]) (rest := []) ⟨hx, hb, hml, hown, hts⟩ (k7_setBe l D base g3 a0 x1 ((3 : Int32)) (if ((0 : Int32)) < (if (v4 + x2) < ((20 : Int32)) then (v4 + x2) else ((20 : Int32))) then (if (v4 + x2) < ((20 : Int32)) then (v4 + x2) else ((20 : Int32))) else ((0 : Int32))) g7 h5) (cwV 3 hts gX7_honour_X7_setBe rfl rfl rfl (by decide +kernel) ⟨Nat.le_of_ble_eq_true rfl, Nat.le_of_ble_eq_true rfl⟩) (gC.preV hE hP hS 7 rfl (by decide) h6 [.int x1, .int ((3 : Int32)), .int (if ((0 : Int32)) < (if (v4 + x2) < ((20 : Int32)) then (v4 + x2) else ((20 : Int32))) then (if (v4 + x2) < ((20 : Int32)) then (v4 + x2) else ((20 : Int32))) else ((0 : Int32)))]) rfl rfl hl.1 rfl (lv_room (Nat.le_of_ble_eq_true rfl)) dX7_honour_20 ⟨(Nat.le_of_ble_eq_true rfl), (Nat.le_of_ble_eq_true rfl)⟩) hS (fun H locs hP hS => ?_)
  exact g_retV hx hb hr hlocks hF hP hS (Nat.le_of_ble_eq_true rfl) (Nat.le_of_ble_eq_true rfl) dX7_honour_23
set_option maxHeartbeats 4000000 in
set_option maxRecDepth 100000 in
theorem k7_bribe (l : Launch) (D : va_G) (base : Nat) (g : g_H) (a0 : Nat) (x1 : Int32) (x2 : Int32) (rr : Int32) (gz : g_H) (hF : f7_bribe g a0 x1 x2 = some (rr, gz)) : Met l yX7_bribe wsX7_bribe ({ frames := 2, cells := 0, slots := 0, locals := 46 } : Room) (va_Pc [.ref a0, .int x1, .int x2] (gC base D g)) (gQi base D rr gz) 0 0 (gA base) := by
  refine g_met (cc := cX7_bribe) (maxL := 4) (ret := (some .boolean)) (lst := [(0, .ref a0), (1, .int x1), (2, .int x2)]) (by decide) rfl (Nat.le_of_ble_eq_true rfl) rfl ?_
  intro p e s m args below meth c ls hx hb hr hml hown hlocks hname hts hE hP hl
  have hown : s.vm.findClass RX7 = some m.cls := hown
  have hK := hE.1
  have hov := hE.2.2.2.2.2.2.2.1
  have hbz := hE.2.2.2.2.2.2.2.2.2.2.2.2
  have hS : va_S (gA base) s.heap s.heap [] := va_S.rf
  have hiX7 : ∀ w ∈ wsX70, w ∈ wsX7_bribe := by decide +kernel
  have HB97 : ∀ (g : g_H) (a0 : Nat) (x1 : Int32) (x2 : Int32) (x3 : Int32) (s0 : Nat) (s1 : Int32) (s2 : Int32) (H : Heap) (locs : List Loc) (ls : Array Slot), f7_bribe_97 g a0 x1 x2 x3 s0 s1 s2 = some (rr, gz) → gP base D s g H → va_S (gA base) s.heap H locs → lv_has ls 4 [(0, .ref a0), (1, .int x1), (2, .int x2), (3, .int x3)] → W p l e ({ frames := 2, cells := 0, slots := 0, locals := 46 } : Room) s m args below meth c H locs 0 0 (MQ below (gQi base D rr gz) args s 0 0 (gA base)) (F0 m 97 ls [.int s2, .int s1, .ref s0]) := by
    intro g a0 x1 x2 x3 s0 s1 s2 H locs ls hF hP hS hl
    unfold f7_bribe_97 at hF
    obtain ⟨h15, hF⟩ := g_if hF
    obtain ⟨g16, h14, hF⟩ := g_bind hF
    refine g_callv (va_runV (As := [.int s1, .int s2]) (rest := []) ⟨hx, hb, hml, hown, hts⟩ (k7_honour l D base g s0 s1 s2 g16 h14) (cwV 2 hts gX7_bribe_X7_honour rfl rfl rfl (by decide +kernel) ⟨Nat.le_of_ble_eq_true rfl, Nat.le_of_ble_eq_true rfl⟩) (gC.preV hE hP hS 7 rfl (by decide) h15 [.int s1, .int s2]) rfl rfl hl.1 rfl (lv_room (Nat.le_of_ble_eq_true rfl)) dX7_bribe_97 ⟨(Nat.le_of_ble_eq_true rfl), (Nat.le_of_ble_eq_true rfl)⟩) hS (fun H locs hP hS => ?_)
    refine lv_iload_n hx hb dX7_bribe_100 rfl (lv_at hl 3 rfl) ?_
    refine lv_if_eq (tgt := 110) hx hb dX7_bribe_101 (by decide) (fun c18 => ?_) (fun c18 => ?_)
    · have hF := g_t c18 hF
      refine lv_iload_n hx hb dX7_bribe_110 rfl (lv_at hl 3 rfl) ?_
      obtain ⟨h19, hF⟩ := g_if hF
      exact g_retZ hx hb hr h19 hlocks hF hP hS (Nat.le_of_ble_eq_true rfl) (Nat.le_of_ble_eq_true rfl) dX7_bribe_111
    · have hF := g_f c18 hF
      refine lv_aload_n hx hb dX7_bribe_104 rfl (lv_at hl 0 rfl) ?_
      refine lv_iload_n hx hb dX7_bribe_105 rfl (lv_at hl 1 rfl) ?_
      refine lv_iload_n hx hb dX7_bribe_106 rfl (lv_at hl 2 rfl) ?_
      obtain ⟨h21, hF⟩ := g_if hF
      obtain ⟨g22, h20, hF⟩ := g_bind hF
      refine g_callv (va_runV (As := [.int x1, .int x2]) (rest := []) ⟨hx, hb, hml, hown, hts⟩ (k7_take l D base g16 a0 x1 x2 g22 h20) (cwV 2 hts gX7_bribe_X7_take rfl rfl rfl (by decide +kernel) ⟨Nat.le_of_ble_eq_true rfl, Nat.le_of_ble_eq_true rfl⟩) (gC.preV hE hP hS 7 rfl (by decide) h21 [.int x1, .int x2]) rfl rfl hl.1 rfl (lv_room (Nat.le_of_ble_eq_true rfl)) dX7_bribe_107 ⟨(Nat.le_of_ble_eq_true rfl), (Nat.le_of_ble_eq_true rfl)⟩) hS (fun H locs hP hS => ?_)
      refine lv_iload_n hx hb dX7_bribe_110 rfl (lv_at hl 3 rfl) ?_
      obtain ⟨h24, hF⟩ := g_if hF
      exact g_retZ hx hb hr h24 hlocks hF hP hS (Nat.le_of_ble_eq_true rfl) (Nat.le_of_ble_eq_true rfl) dX7_bribe_111
  have HB85 : ∀ (g : g_H) (a0 : Nat) (x1 : Int32) (x2 : Int32) (s0 : Int32) (H : Heap) (locs : List Loc) (ls : Array Slot), f7_bribe_85 g a0 x1 x2 s0 = some (rr, gz) → gP base D s g H → va_S (gA base) s.heap H locs → lv_has ls 4 [(0, .ref a0), (1, .int x1), (2, .int x2)] → W p l e ({ frames := 2, cells := 0, slots := 0, locals := 46 } : Room) s m args below meth c H locs 0 0 (MQ below (gQi base D rr gz) args s 0 0 (gA base)) (F0 m 85 ls [.int s0]) := by
    intro g a0 x1 x2 s0 H locs ls hF hP hS hl
    unfold f7_bribe_85 at hF
    refine lv_istore_n (lv' := [(3, .int s0), (0, .ref a0), (1, .int x1), (2, .int x2)]) hx hb dX7_bribe_85 rfl hl (by decide) rfl (fun ls hl => ?_)
    refine lv_aload_n hx hb dX7_bribe_86 rfl (lv_at hl 1 rfl) ?_
    refine lv_iload_n hx hb dX7_bribe_87 rfl (lv_at hl 2 rfl) ?_
    refine lv_iload_n hx hb dX7_bribe_88 rfl (lv_at hl 0 rfl) ?_
    refine lv_if_eq (tgt := 96) hx hb dX7_bribe_89 (by decide) (fun c13 => ?_) (fun c13 => ?_)
    · have hF := g_t c13 hF
      refine lv_iconst (v := 1) hx hb dX7_bribe_96 (by decide) ?_
      exact HB97 _ _ _ _ _ _ _ _ _ _ _ hF hP hS (lv_sub hl [1, 2, 3, 0] rfl)
    · have hF := g_f c13 hF
      refine lv_iconst (v := (-1)) hx hb dX7_bribe_92 (by decide) ?_
      refine lv_goto (tgt := 97) hx hb dX7_bribe_93 (by decide) ?_
      exact HB97 _ _ _ _ _ _ _ _ _ _ _ hF hP hS (lv_sub hl [1, 2, 3, 0] rfl)
  have HB58 : ∀ (g : g_H) (a0 : Nat) (x1 : Int32) (x2 : Int32) (s0 : Nat) (s1 : Int32) (H : Heap) (locs : List Loc) (ls : Array Slot), f7_bribe_58 g a0 x1 x2 s0 s1 = some (rr, gz) → gP base D s g H → va_S (gA base) s.heap H locs → lv_has ls 4 [(0, .ref a0), (1, .int x1), (2, .int x2)] → W p l e ({ frames := 2, cells := 0, slots := 0, locals := 46 } : Room) s m args below meth c H locs 0 0 (MQ below (gQi base D rr gz) args s 0 0 (gA base)) (F0 m 58 ls [.int s1, .ref s0]) := by
    intro g a0 x1 x2 s0 s1 H locs ls hF hP hS hl
    unfold f7_bribe_58 at hF
    obtain ⟨h6, hF⟩ := g_if hF
    refine g_puti hx hb hts hiX7 tyX7 tyX7_ok nmX7 hown hK hP hS 7 rfl (by decide) h6 0 (by decide) (hts (.fieldLink RX7 35 "CourierBeesModel" "thrown" "I") (by decide +kernel)) (fun _ h9 => h9) (Or.inl rfl) (Or.inl rfl) rfl rfl dX7_bribe_58 (fun H locs hP hS => ?_)
    refine lv_aload_n hx hb dX7_bribe_61 rfl (lv_at hl 0 rfl) ?_
    obtain ⟨h7, hF⟩ := g_if hF
    refine g_get hx hb hts hiX7 hown hK hP 7 rfl (by decide) h7 0 (by decide) (hts (.fieldLink RX7 35 "CourierBeesModel" "thrown" "I") (by decide +kernel)) (fun _ h9 => h9) (gFv_i (Or.inl rfl)) dX7_bribe_62 ?_
    refine lv_if_eq (tgt := 70) hx hb dX7_bribe_65 (by decide) (fun c8 => ?_) (fun c8 => ?_)
    · have hF := g_t c8 hF
      refine lv_aload_n hx hb dX7_bribe_70 rfl (lv_at hl 0 rfl) ?_
      refine lv_iload_n hx hb dX7_bribe_71 rfl (lv_at hl 1 rfl) ?_
      refine lv_iconst (v := 3) hx hb dX7_bribe_72 (by decide) ?_
      obtain ⟨v11, g10, h9, hF⟩ := g_bind2 hF
      refine g_calli (va_runV (As := [.int x1, .int ((3 : Int32))]) (rest := []) ⟨hx, hb, hml, hown, hts⟩ (k7_be l D base (gPI g s0 0 s1) a0 x1 ((3 : Int32)) v11 g10 h9) (cwV 2 hts gX7_bribe_X7_be rfl rfl rfl (by decide +kernel) ⟨Nat.le_of_ble_eq_true rfl, Nat.le_of_ble_eq_true rfl⟩) (gC.preV hE hP hS 7 rfl (by decide) h7 [.int x1, .int ((3 : Int32))]) rfl rfl hl.1 rfl (lv_room (Nat.le_of_ble_eq_true rfl)) dX7_bribe_73 ⟨(Nat.le_of_ble_eq_true rfl), (Nat.le_of_ble_eq_true rfl)⟩) hS (fun H locs hP hS => ?_)
      refine lv_iconst (v := 5) hx hb dX7_bribe_76 (by decide) ?_
      refine lv_icmp_ge (tgt := 84) hx hb dX7_bribe_77 (by decide) (fun c12 => ?_) (fun c12 => ?_)
      · have hF := g_t c12 hF
        refine lv_iconst (v := 0) hx hb dX7_bribe_84 (by decide) ?_
        exact HB85 _ _ _ _ _ _ _ _ hF hP hS (lv_sub hl [0, 1, 2] rfl)
      · have hF := g_f c12 hF
        refine lv_iconst (v := 1) hx hb dX7_bribe_80 (by decide) ?_
        refine lv_goto (tgt := 85) hx hb dX7_bribe_81 (by decide) ?_
        exact HB85 _ _ _ _ _ _ _ _ hF hP hS (lv_sub hl [0, 1, 2] rfl)
    · have hF := g_f c8 hF
      refine lv_iconst (v := 0) hx hb dX7_bribe_68 (by decide) ?_
      exact g_retZ hx hb hr (Or.inl rfl) hlocks hF hP hS (Nat.le_of_ble_eq_true rfl) (Nat.le_of_ble_eq_true rfl) dX7_bribe_69
  have HB17 : ∀ (g : g_H) (a0 : Nat) (x1 : Int32) (x2 : Int32) (s0 : Nat) (H : Heap) (locs : List Loc) (ls : Array Slot), f7_bribe_17 g a0 x1 x2 s0 = some (rr, gz) → gP base D s g H → va_S (gA base) s.heap H locs → lv_has ls 4 [(0, .ref a0), (1, .int x1), (2, .int x2)] → W p l e ({ frames := 2, cells := 0, slots := 0, locals := 46 } : Room) s m args below meth c H locs 0 0 (MQ below (gQi base D rr gz) args s 0 0 (gA base)) (F0 m 17 ls [.ref s0]) := by
    intro g a0 x1 x2 s0 H locs ls hF hP hS hl
    unfold f7_bribe_17 at hF
    refine lv_iconst (v := 1) hx hb dX7_bribe_17 (by decide) ?_
    refine lv_goto (tgt := 58) hx hb dX7_bribe_18 (by decide) ?_
    exact HB58 _ _ _ _ _ _ _ _ _ hF hP hS (lv_sub hl [0, 1, 2] rfl)
  have HB53 : ∀ (g : g_H) (a0 : Nat) (x1 : Int32) (x2 : Int32) (s0 : Nat) (H : Heap) (locs : List Loc) (ls : Array Slot), f7_bribe_53 g a0 x1 x2 s0 = some (rr, gz) → gP base D s g H → va_S (gA base) s.heap H locs → lv_has ls 4 [(0, .ref a0), (1, .int x1), (2, .int x2)] → W p l e ({ frames := 2, cells := 0, slots := 0, locals := 46 } : Room) s m args below meth c H locs 0 0 (MQ below (gQi base D rr gz) args s 0 0 (gA base)) (F0 m 53 ls [.ref s0]) := by
    intro g a0 x1 x2 s0 H locs ls hF hP hS hl
    unfold f7_bribe_53 at hF
    refine lv_iconst (v := 2) hx hb dX7_bribe_53 (by decide) ?_
    refine lv_goto (tgt := 58) hx hb dX7_bribe_54 (by decide) ?_
    exact HB58 _ _ _ _ _ _ _ _ _ hF hP hS (lv_sub hl [0, 1, 2] rfl)
  unfold f7_bribe at hF
  refine lv_aload_n hx hb dX7_bribe_0 rfl (lv_at hl 0 rfl) ?_
  refine lv_aload_n hx hb dX7_bribe_1 rfl (lv_at hl 0 rfl) ?_
  refine lv_iload_n hx hb dX7_bribe_2 rfl (lv_at hl 1 rfl) ?_
  obtain ⟨h2, hF⟩ := g_if hF
  obtain ⟨v4, g3, h1, hF⟩ := g_bind2 hF
  refine g_calli (va_runV (As := [.int x1]) (rest := [.ref a0]) ⟨hx, hb, hml, hown, hts⟩ (k7_isBee l D base g a0 x1 v4 g3 h1) (cwV 1 hts gX7_bribe_X7_isBee rfl rfl rfl (by decide +kernel) ⟨Nat.le_of_ble_eq_true rfl, Nat.le_of_ble_eq_true rfl⟩) (gC.preV hE hP hS 7 rfl (by decide) h2 [.int x1]) rfl rfl hl.1 rfl (lv_room (Nat.le_of_ble_eq_true rfl)) dX7_bribe_3 ⟨(Nat.le_of_ble_eq_true rfl), (Nat.le_of_ble_eq_true rfl)⟩) hS (fun H locs hP hS => ?_)
  refine lv_if_eq (tgt := 17) hx hb dX7_bribe_6 (by decide) (fun c5 => ?_) (fun c5 => ?_)
  · have hF := g_t c5 hF
    exact HB17 _ _ _ _ _ _ _ _ hF hP hS (lv_sub hl [0, 1, 2] rfl)
  · have hF := g_f c5 hF
    refine lv_aload_n hx hb dX7_bribe_9 rfl (lv_at hl 0 rfl) ?_
    refine lv_iload_n hx hb dX7_bribe_10 rfl (lv_at hl 2 rfl) ?_
    obtain ⟨h26, hF⟩ := g_if hF
    obtain ⟨v28, g27, h25, hF⟩ := g_bind2 hF
    refine g_calli (va_runV (As := [.int x2]) (rest := [.ref a0]) ⟨hx, hb, hml, hown, hts⟩ (k7_isLetter l D base g3 a0 x2 v28 g27 h25) (cwV 1 hts gX7_bribe_X7_isLetter rfl rfl rfl (by decide +kernel) ⟨Nat.le_of_ble_eq_true rfl, Nat.le_of_ble_eq_true rfl⟩) (gC.preV hE hP hS 7 rfl (by decide) h26 [.int x2]) rfl rfl hl.1 rfl (lv_room (Nat.le_of_ble_eq_true rfl)) dX7_bribe_11 ⟨(Nat.le_of_ble_eq_true rfl), (Nat.le_of_ble_eq_true rfl)⟩) hS (fun H locs hP hS => ?_)
    refine lv_if_ne (tgt := 21) hx hb dX7_bribe_14 (by decide) (fun c29 => ?_) (fun c29 => ?_)
    · have hF := g_f c29 hF
      refine lv_aload_n hx hb dX7_bribe_21 rfl (lv_at hl 0 rfl) ?_
      refine lv_iload_n hx hb dX7_bribe_22 rfl (lv_at hl 1 rfl) ?_
      refine lv_iconst (v := 1) hx hb dX7_bribe_23 (by decide) ?_
      obtain ⟨h31, hF⟩ := g_if hF
      obtain ⟨v33, g32, h30, hF⟩ := g_bind2 hF
      refine g_calli (va_runV (As := [.int x1, .int ((1 : Int32))]) (rest := [.ref a0]) ⟨hx, hb, hml, hown, hts⟩ (k7_be l D base g27 a0 x1 ((1 : Int32)) v33 g32 h30) (cwV 2 hts gX7_bribe_X7_be rfl rfl rfl (by decide +kernel) ⟨Nat.le_of_ble_eq_true rfl, Nat.le_of_ble_eq_true rfl⟩) (gC.preV hE hP hS 7 rfl (by decide) h31 [.int x1, .int ((1 : Int32))]) rfl rfl hl.1 rfl (lv_room (Nat.le_of_ble_eq_true rfl)) dX7_bribe_24 ⟨(Nat.le_of_ble_eq_true rfl), (Nat.le_of_ble_eq_true rfl)⟩) hS (fun H locs hP hS => ?_)
      refine lv_if_gt (tgt := 53) hx hb dX7_bribe_27 (by decide) (fun c34 => ?_) (fun c34 => ?_)
      · have hF := g_t c34 hF
        exact HB53 _ _ _ _ _ _ _ _ hF hP hS (lv_sub hl [0, 1, 2] rfl)
      · have hF := g_f c34 hF
        refine lv_aload_n hx hb dX7_bribe_30 rfl (lv_at hl 0 rfl) ?_
        refine lv_iload_n hx hb dX7_bribe_31 rfl (lv_at hl 2 rfl) ?_
        refine lv_iconst (v := 1) hx hb dX7_bribe_32 (by decide) ?_
        obtain ⟨h36, hF⟩ := g_if hF
        obtain ⟨v38, g37, h35, hF⟩ := g_bind2 hF
        refine g_calli (va_runV (As := [.int x2, .int ((1 : Int32))]) (rest := [.ref a0]) ⟨hx, hb, hml, hown, hts⟩ (k7_le l D base g32 a0 x2 ((1 : Int32)) v38 g37 h35) (cwV 2 hts gX7_bribe_X7_le rfl rfl rfl (by decide +kernel) ⟨Nat.le_of_ble_eq_true rfl, Nat.le_of_ble_eq_true rfl⟩) (gC.preV hE hP hS 7 rfl (by decide) h36 [.int x2, .int ((1 : Int32))]) rfl rfl hl.1 rfl (lv_room (Nat.le_of_ble_eq_true rfl)) dX7_bribe_33 ⟨(Nat.le_of_ble_eq_true rfl), (Nat.le_of_ble_eq_true rfl)⟩) hS (fun H locs hP hS => ?_)
        refine lv_aload_n hx hb dX7_bribe_36 rfl (lv_at hl 0 rfl) ?_
        refine lv_iload_n hx hb dX7_bribe_37 rfl (lv_at hl 1 rfl) ?_
        obtain ⟨h40, hF⟩ := g_if hF
        obtain ⟨v42, g41, h39, hF⟩ := g_bind2 hF
        refine g_calli (va_runV (As := [.int x1]) (rest := [.int v38, .ref a0]) ⟨hx, hb, hml, hown, hts⟩ (k7_house l D base g37 a0 x1 v42 g41 h39) (cwV 1 hts gX7_bribe_X7_house rfl rfl rfl (by decide +kernel) ⟨Nat.le_of_ble_eq_true rfl, Nat.le_of_ble_eq_true rfl⟩) (gC.preV hE hP hS 7 rfl (by decide) h40 [.int x1]) rfl rfl hl.1 rfl (lv_room (Nat.le_of_ble_eq_true rfl)) dX7_bribe_38 ⟨(Nat.le_of_ble_eq_true rfl), (Nat.le_of_ble_eq_true rfl)⟩) hS (fun H locs hP hS => ?_)
        refine lv_icmp_ne (tgt := 53) hx hb dX7_bribe_41 (by decide) (fun c43 => ?_) (fun c43 => ?_)
        · have hF := g_f c43 hF
          exact HB53 _ _ _ _ _ _ _ _ hF hP hS (lv_sub hl [0, 1, 2] rfl)
        · have hF := g_t c43 hF
          refine lv_aload_n hx hb dX7_bribe_44 rfl (lv_at hl 0 rfl) ?_
          refine lv_iload_n hx hb dX7_bribe_45 rfl (lv_at hl 1 rfl) ?_
          obtain ⟨h45, hF⟩ := g_if hF
          obtain ⟨v47, g46, h44, hF⟩ := g_bind2 hF
          refine g_calli (va_runV (As := [.int x1]) (rest := [.ref a0]) ⟨hx, hb, hml, hown, hts⟩ (k7_carries l D base g41 a0 x1 v47 g46 h44) (cwV 1 hts gX7_bribe_X7_carries rfl rfl rfl (by decide +kernel) ⟨Nat.le_of_ble_eq_true rfl, Nat.le_of_ble_eq_true rfl⟩) (gC.preV hE hP hS 7 rfl (by decide) h45 [.int x1]) rfl rfl hl.1 rfl (lv_room (Nat.le_of_ble_eq_true rfl)) dX7_bribe_46 ⟨(Nat.le_of_ble_eq_true rfl), (Nat.le_of_ble_eq_true rfl)⟩) hS (fun H locs hP hS => ?_)
          refine lv_iconst (v := 3) hx hb dX7_bribe_49 (by decide) ?_
          refine lv_icmp_ne (tgt := 57) hx hb dX7_bribe_50 (by decide) (fun c48 => ?_) (fun c48 => ?_)
          · have hF := g_f c48 hF
            refine lv_iconst (v := 0) hx hb dX7_bribe_57 (by decide) ?_
            exact HB58 _ _ _ _ _ _ _ _ _ hF hP hS (lv_sub hl [0, 1, 2] rfl)
          · have hF := g_t c48 hF
            exact HB53 _ _ _ _ _ _ _ _ hF hP hS (lv_sub hl [0, 1, 2] rfl)
    · have hF := g_t c29 hF
      exact HB17 _ _ _ _ _ _ _ _ hF hP hS (lv_sub hl [0, 1, 2] rfl)
set_option maxHeartbeats 4000000 in
set_option maxRecDepth 100000 in
theorem k7_beeTold (l : Launch) (D : va_G) (base : Nat) (g : g_H) (a0 : Nat) (x1 : Int32) (x2 : Int32) (rr : Int32) (gz : g_H) (hF : f7_beeTold g a0 x1 x2 = some (rr, gz)) : Met l yX7_beeTold wsX7_beeTold ({ frames := 2, cells := 1, slots := 9, locals := 45 } : Room) (va_Pc [.ref a0, .int x1, .int x2] (gC base D g)) (gQi base D rr gz) 1 9 (gA base) := by
  refine g_met (cc := cX7_beeTold) (maxL := 4) (ret := (some .int)) (lst := [(0, .ref a0), (1, .int x1), (2, .int x2)]) (by decide) rfl (Nat.le_of_ble_eq_true rfl) rfl ?_
  intro p e s m args below meth c ls hx hb hr hml hown hlocks hname hts hE hP hl
  have hown : s.vm.findClass RX7 = some m.cls := hown
  have hK := hE.1
  have hov := hE.2.2.2.2.2.2.2.1
  have hbz := hE.2.2.2.2.2.2.2.2.2.2.2.2
  have hS : va_S (gA base) s.heap s.heap [] := va_S.rf
  unfold f7_beeTold at hF
  refine lv_bipush (v := 9) hx hb dX7_beeTold_0 (by decide) ?_
  obtain ⟨q1, g2, e3, e4, h5, hF⟩ := g_nw hF
  refine g_newa (atype := .int) hx hb (hts (.arrayClass .int) (by decide +kernel)) 11 rfl (by decide) rfl hP hS hbz (n := 9) (N' := 9) (by decide) (by decide) (Nat.le_of_ble_eq_true rfl) (Nat.le_of_ble_eq_true rfl) (Nat.le_of_ble_eq_true rfl) dX7_beeTold_2 (fun H hP hS => ?_)
  rw [e4] at hP
  rw [e3]
  refine lv_dup hx hb dX7_beeTold_4 rfl ?_
  refine lv_iconst (v := 0) hx hb dX7_beeTold_5 (by decide) ?_
  refine lv_aload_n hx hb dX7_beeTold_6 rfl (lv_at hl 0 rfl) ?_
  refine lv_iload_n hx hb dX7_beeTold_7 rfl (lv_at hl 1 rfl) ?_
  obtain ⟨h7, hF⟩ := g_if hF
  obtain ⟨v9, g8, h6, hF⟩ := g_bind2 hF
  refine g_calli (va_runV (As := [.int x1]) (rest := [.int ((0 : Int32)), .ref q1, .ref q1]) ⟨hx, hb, hml, hown, hts⟩ (k7_house l D base g2 a0 x1 v9 g8 h6) (cwV 1 hts gX7_beeTold_X7_house rfl rfl rfl (by decide +kernel) ⟨Nat.le_of_ble_eq_true rfl, Nat.le_of_ble_eq_true rfl⟩) (gC.preV hE hP hS 7 rfl (by decide) h7 [.int x1]) rfl rfl hl.1 rfl (lv_room (Nat.le_of_ble_eq_true rfl)) dX7_beeTold_8 ⟨(Nat.le_of_ble_eq_true rfl), (Nat.le_of_ble_eq_true rfl)⟩) hS (fun H locs hP hS => ?_)
  obtain ⟨h10, hF⟩ := g_if hF
  obtain ⟨h11, hF⟩ := g_if hF
  refine g_iast hx hb hP hS (g_pr h10) h11 dX7_beeTold_11 (fun H locs hP hS => ?_)
  refine lv_dup hx hb dX7_beeTold_12 rfl ?_
  refine lv_iconst (v := 1) hx hb dX7_beeTold_13 (by decide) ?_
  refine lv_aload_n hx hb dX7_beeTold_14 rfl (lv_at hl 0 rfl) ?_
  refine lv_iload_n hx hb dX7_beeTold_15 rfl (lv_at hl 1 rfl) ?_
  refine lv_iconst (v := 1) hx hb dX7_beeTold_16 (by decide) ?_
  obtain ⟨h13, hF⟩ := g_if hF
  obtain ⟨v15, g14, h12, hF⟩ := g_bind2 hF
  refine g_calli (va_runV (As := [.int x1, .int ((1 : Int32))]) (rest := [.int ((1 : Int32)), .ref q1, .ref q1]) ⟨hx, hb, hml, hown, hts⟩ (k7_be l D base (gPI g8 q1 (Int32.toNatClampNeg ((0 : Int32))) v9) a0 x1 ((1 : Int32)) v15 g14 h12) (cwV 2 hts gX7_beeTold_X7_be rfl rfl rfl (by decide +kernel) ⟨Nat.le_of_ble_eq_true rfl, Nat.le_of_ble_eq_true rfl⟩) (gC.preV hE hP hS 7 rfl (by decide) h13 [.int x1, .int ((1 : Int32))]) rfl rfl hl.1 rfl (lv_room (Nat.le_of_ble_eq_true rfl)) dX7_beeTold_17 ⟨(Nat.le_of_ble_eq_true rfl), (Nat.le_of_ble_eq_true rfl)⟩) hS (fun H locs hP hS => ?_)
  obtain ⟨h16, hF⟩ := g_if hF
  obtain ⟨h17, hF⟩ := g_if hF
  refine g_iast hx hb hP hS (g_pr h16) h17 dX7_beeTold_20 (fun H locs hP hS => ?_)
  refine lv_dup hx hb dX7_beeTold_21 rfl ?_
  refine lv_iconst (v := 2) hx hb dX7_beeTold_22 (by decide) ?_
  refine lv_aload_n hx hb dX7_beeTold_23 rfl (lv_at hl 0 rfl) ?_
  refine lv_iload_n hx hb dX7_beeTold_24 rfl (lv_at hl 1 rfl) ?_
  refine lv_iconst (v := 2) hx hb dX7_beeTold_25 (by decide) ?_
  obtain ⟨h19, hF⟩ := g_if hF
  obtain ⟨v21, g20, h18, hF⟩ := g_bind2 hF
  refine g_calli (va_runV (As := [.int x1, .int ((2 : Int32))]) (rest := [.int ((2 : Int32)), .ref q1, .ref q1]) ⟨hx, hb, hml, hown, hts⟩ (k7_be l D base (gPI g14 q1 (Int32.toNatClampNeg ((1 : Int32))) v15) a0 x1 ((2 : Int32)) v21 g20 h18) (cwV 2 hts gX7_beeTold_X7_be rfl rfl rfl (by decide +kernel) ⟨Nat.le_of_ble_eq_true rfl, Nat.le_of_ble_eq_true rfl⟩) (gC.preV hE hP hS 7 rfl (by decide) h19 [.int x1, .int ((2 : Int32))]) rfl rfl hl.1 rfl (lv_room (Nat.le_of_ble_eq_true rfl)) dX7_beeTold_26 ⟨(Nat.le_of_ble_eq_true rfl), (Nat.le_of_ble_eq_true rfl)⟩) hS (fun H locs hP hS => ?_)
  obtain ⟨h22, hF⟩ := g_if hF
  obtain ⟨h23, hF⟩ := g_if hF
  refine g_iast hx hb hP hS (g_pr h22) h23 dX7_beeTold_29 (fun H locs hP hS => ?_)
  refine lv_dup hx hb dX7_beeTold_30 rfl ?_
  refine lv_iconst (v := 3) hx hb dX7_beeTold_31 (by decide) ?_
  refine lv_aload_n hx hb dX7_beeTold_32 rfl (lv_at hl 0 rfl) ?_
  refine lv_iload_n hx hb dX7_beeTold_33 rfl (lv_at hl 1 rfl) ?_
  refine lv_iconst (v := 3) hx hb dX7_beeTold_34 (by decide) ?_
  obtain ⟨h25, hF⟩ := g_if hF
  obtain ⟨v27, g26, h24, hF⟩ := g_bind2 hF
  refine g_calli (va_runV (As := [.int x1, .int ((3 : Int32))]) (rest := [.int ((3 : Int32)), .ref q1, .ref q1]) ⟨hx, hb, hml, hown, hts⟩ (k7_be l D base (gPI g20 q1 (Int32.toNatClampNeg ((2 : Int32))) v21) a0 x1 ((3 : Int32)) v27 g26 h24) (cwV 2 hts gX7_beeTold_X7_be rfl rfl rfl (by decide +kernel) ⟨Nat.le_of_ble_eq_true rfl, Nat.le_of_ble_eq_true rfl⟩) (gC.preV hE hP hS 7 rfl (by decide) h25 [.int x1, .int ((3 : Int32))]) rfl rfl hl.1 rfl (lv_room (Nat.le_of_ble_eq_true rfl)) dX7_beeTold_35 ⟨(Nat.le_of_ble_eq_true rfl), (Nat.le_of_ble_eq_true rfl)⟩) hS (fun H locs hP hS => ?_)
  obtain ⟨h28, hF⟩ := g_if hF
  obtain ⟨h29, hF⟩ := g_if hF
  refine g_iast hx hb hP hS (g_pr h28) h29 dX7_beeTold_38 (fun H locs hP hS => ?_)
  refine lv_dup hx hb dX7_beeTold_39 rfl ?_
  refine lv_iconst (v := 4) hx hb dX7_beeTold_40 (by decide) ?_
  refine lv_aload_n hx hb dX7_beeTold_41 rfl (lv_at hl 0 rfl) ?_
  refine lv_iload_n hx hb dX7_beeTold_42 rfl (lv_at hl 1 rfl) ?_
  obtain ⟨h31, hF⟩ := g_if hF
  obtain ⟨v33, g32, h30, hF⟩ := g_bind2 hF
  refine g_calli (va_runV (As := [.int x1]) (rest := [.int ((4 : Int32)), .ref q1, .ref q1]) ⟨hx, hb, hml, hown, hts⟩ (k7_carries l D base (gPI g26 q1 (Int32.toNatClampNeg ((3 : Int32))) v27) a0 x1 v33 g32 h30) (cwV 1 hts gX7_beeTold_X7_carries rfl rfl rfl (by decide +kernel) ⟨Nat.le_of_ble_eq_true rfl, Nat.le_of_ble_eq_true rfl⟩) (gC.preV hE hP hS 7 rfl (by decide) h31 [.int x1]) rfl rfl hl.1 rfl (lv_room (Nat.le_of_ble_eq_true rfl)) dX7_beeTold_43 ⟨(Nat.le_of_ble_eq_true rfl), (Nat.le_of_ble_eq_true rfl)⟩) hS (fun H locs hP hS => ?_)
  obtain ⟨h34, hF⟩ := g_if hF
  obtain ⟨h35, hF⟩ := g_if hF
  refine g_iast hx hb hP hS (g_pr h34) h35 dX7_beeTold_46 (fun H locs hP hS => ?_)
  refine lv_dup hx hb dX7_beeTold_47 rfl ?_
  refine lv_iconst (v := 5) hx hb dX7_beeTold_48 (by decide) ?_
  refine lv_aload_n hx hb dX7_beeTold_49 rfl (lv_at hl 0 rfl) ?_
  refine lv_iload_n hx hb dX7_beeTold_50 rfl (lv_at hl 1 rfl) ?_
  refine lv_iconst (v := 4) hx hb dX7_beeTold_51 (by decide) ?_
  obtain ⟨h37, hF⟩ := g_if hF
  obtain ⟨v39, g38, h36, hF⟩ := g_bind2 hF
  refine g_calli (va_runV (As := [.int x1, .int ((4 : Int32))]) (rest := [.int ((5 : Int32)), .ref q1, .ref q1]) ⟨hx, hb, hml, hown, hts⟩ (k7_be l D base (gPI g32 q1 (Int32.toNatClampNeg ((4 : Int32))) v33) a0 x1 ((4 : Int32)) v39 g38 h36) (cwV 2 hts gX7_beeTold_X7_be rfl rfl rfl (by decide +kernel) ⟨Nat.le_of_ble_eq_true rfl, Nat.le_of_ble_eq_true rfl⟩) (gC.preV hE hP hS 7 rfl (by decide) h37 [.int x1, .int ((4 : Int32))]) rfl rfl hl.1 rfl (lv_room (Nat.le_of_ble_eq_true rfl)) dX7_beeTold_52 ⟨(Nat.le_of_ble_eq_true rfl), (Nat.le_of_ble_eq_true rfl)⟩) hS (fun H locs hP hS => ?_)
  obtain ⟨h40, hF⟩ := g_if hF
  obtain ⟨h41, hF⟩ := g_if hF
  refine g_iast hx hb hP hS (g_pr h40) h41 dX7_beeTold_55 (fun H locs hP hS => ?_)
  refine lv_dup hx hb dX7_beeTold_56 rfl ?_
  refine lv_bipush (v := 6) hx hb dX7_beeTold_57 (by decide) ?_
  refine lv_aload_n hx hb dX7_beeTold_59 rfl (lv_at hl 0 rfl) ?_
  refine lv_iload_n hx hb dX7_beeTold_60 rfl (lv_at hl 1 rfl) ?_
  refine lv_iconst (v := 5) hx hb dX7_beeTold_61 (by decide) ?_
  obtain ⟨h43, hF⟩ := g_if hF
  obtain ⟨v45, g44, h42, hF⟩ := g_bind2 hF
  refine g_calli (va_runV (As := [.int x1, .int ((5 : Int32))]) (rest := [.int ((6 : Int32)), .ref q1, .ref q1]) ⟨hx, hb, hml, hown, hts⟩ (k7_be l D base (gPI g38 q1 (Int32.toNatClampNeg ((5 : Int32))) v39) a0 x1 ((5 : Int32)) v45 g44 h42) (cwV 2 hts gX7_beeTold_X7_be rfl rfl rfl (by decide +kernel) ⟨Nat.le_of_ble_eq_true rfl, Nat.le_of_ble_eq_true rfl⟩) (gC.preV hE hP hS 7 rfl (by decide) h43 [.int x1, .int ((5 : Int32))]) rfl rfl hl.1 rfl (lv_room (Nat.le_of_ble_eq_true rfl)) dX7_beeTold_62 ⟨(Nat.le_of_ble_eq_true rfl), (Nat.le_of_ble_eq_true rfl)⟩) hS (fun H locs hP hS => ?_)
  obtain ⟨h46, hF⟩ := g_if hF
  obtain ⟨h47, hF⟩ := g_if hF
  refine g_iast hx hb hP hS (g_pr h46) h47 dX7_beeTold_65 (fun H locs hP hS => ?_)
  refine lv_dup hx hb dX7_beeTold_66 rfl ?_
  refine lv_bipush (v := 7) hx hb dX7_beeTold_67 (by decide) ?_
  refine lv_aload_n hx hb dX7_beeTold_69 rfl (lv_at hl 0 rfl) ?_
  refine lv_iload_n hx hb dX7_beeTold_70 rfl (lv_at hl 1 rfl) ?_
  refine lv_bipush (v := 6) hx hb dX7_beeTold_71 (by decide) ?_
  obtain ⟨h49, hF⟩ := g_if hF
  obtain ⟨v51, g50, h48, hF⟩ := g_bind2 hF
  refine g_calli (va_runV (As := [.int x1, .int ((6 : Int32))]) (rest := [.int ((7 : Int32)), .ref q1, .ref q1]) ⟨hx, hb, hml, hown, hts⟩ (k7_be l D base (gPI g44 q1 (Int32.toNatClampNeg ((6 : Int32))) v45) a0 x1 ((6 : Int32)) v51 g50 h48) (cwV 2 hts gX7_beeTold_X7_be rfl rfl rfl (by decide +kernel) ⟨Nat.le_of_ble_eq_true rfl, Nat.le_of_ble_eq_true rfl⟩) (gC.preV hE hP hS 7 rfl (by decide) h49 [.int x1, .int ((6 : Int32))]) rfl rfl hl.1 rfl (lv_room (Nat.le_of_ble_eq_true rfl)) dX7_beeTold_73 ⟨(Nat.le_of_ble_eq_true rfl), (Nat.le_of_ble_eq_true rfl)⟩) hS (fun H locs hP hS => ?_)
  obtain ⟨h52, hF⟩ := g_if hF
  obtain ⟨h53, hF⟩ := g_if hF
  refine g_iast hx hb hP hS (g_pr h52) h53 dX7_beeTold_76 (fun H locs hP hS => ?_)
  refine lv_dup hx hb dX7_beeTold_77 rfl ?_
  refine lv_bipush (v := 8) hx hb dX7_beeTold_78 (by decide) ?_
  refine lv_aload_n hx hb dX7_beeTold_80 rfl (lv_at hl 0 rfl) ?_
  refine lv_iload_n hx hb dX7_beeTold_81 rfl (lv_at hl 1 rfl) ?_
  refine lv_bipush (v := 7) hx hb dX7_beeTold_82 (by decide) ?_
  obtain ⟨h55, hF⟩ := g_if hF
  obtain ⟨v57, g56, h54, hF⟩ := g_bind2 hF
  refine g_calli (va_runV (As := [.int x1, .int ((7 : Int32))]) (rest := [.int ((8 : Int32)), .ref q1, .ref q1]) ⟨hx, hb, hml, hown, hts⟩ (k7_be l D base (gPI g50 q1 (Int32.toNatClampNeg ((7 : Int32))) v51) a0 x1 ((7 : Int32)) v57 g56 h54) (cwV 2 hts gX7_beeTold_X7_be rfl rfl rfl (by decide +kernel) ⟨Nat.le_of_ble_eq_true rfl, Nat.le_of_ble_eq_true rfl⟩) (gC.preV hE hP hS 7 rfl (by decide) h55 [.int x1, .int ((7 : Int32))]) rfl rfl hl.1 rfl (lv_room (Nat.le_of_ble_eq_true rfl)) dX7_beeTold_84 ⟨(Nat.le_of_ble_eq_true rfl), (Nat.le_of_ble_eq_true rfl)⟩) hS (fun H locs hP hS => ?_)
  obtain ⟨h58, hF⟩ := g_if hF
  obtain ⟨h59, hF⟩ := g_if hF
  refine g_iast hx hb hP hS (g_pr h58) h59 dX7_beeTold_87 (fun H locs hP hS => ?_)
  refine lv_astore_n (lv' := [(3, .ref q1), (0, .ref a0), (1, .int x1), (2, .int x2)]) hx hb dX7_beeTold_88 rfl hl (by decide) rfl (fun ls hl => ?_)
  refine lv_aload_n hx hb dX7_beeTold_89 rfl (lv_at hl 0 rfl) ?_
  refine lv_iload_n hx hb dX7_beeTold_90 rfl (lv_at hl 3 rfl) ?_
  obtain ⟨h60, hF⟩ := g_if hF
  refine g_iald hx hb hP (g_pr h58) h60 dX7_beeTold_91 ?_
  exact g_retI hx hb hr hlocks hF hP hS (Nat.le_of_ble_eq_true rfl) (Nat.le_of_ble_eq_true rfl) dX7_beeTold_92
set_option maxHeartbeats 4000000 in
set_option maxRecDepth 100000 in
theorem k7_bee (l : Launch) (D : va_G) (base : Nat) (g : g_H) (a0 : Nat) (x1 : Int32) (x2 : Int32) (rr : Int32) (gz : g_H) (hF : f7_bee g a0 x1 x2 = some (rr, gz)) : Met l yX7_bee wsX7_bee ({ frames := 3, cells := 1, slots := 9, locals := 68 } : Room) (va_Pc [.ref a0, .int x1, .int x2] (gC base D g)) (gQi base D rr gz) 1 9 (gA base) := by
  refine g_met (cc := cX7_bee) (maxL := 3) (ret := (some .int)) (lst := [(0, .ref a0), (1, .int x1), (2, .int x2)]) (by decide) rfl (Nat.le_of_ble_eq_true rfl) rfl ?_
  intro p e s m args below meth c ls hx hb hr hml hown hlocks hname hts hE hP hl
  have hown : s.vm.findClass RX7 = some m.cls := hown
  have hK := hE.1
  have hov := hE.2.2.2.2.2.2.2.1
  have hbz := hE.2.2.2.2.2.2.2.2.2.2.2.2
  have hS : va_S (gA base) s.heap s.heap [] := va_S.rf
  have hiX7 : ∀ w ∈ wsX70, w ∈ wsX7_bee := by decide +kernel
  have HB32 : ∀ (g : g_H) (a0 : Nat) (H : Heap) (locs : List Loc) (ls : Array Slot), f7_bee_32 g a0 = some (rr, gz) → gP base D s g H → va_S (gA base) s.heap H locs → lv_has ls 3 [(0, .ref a0)] → W p l e ({ frames := 3, cells := 1, slots := 9, locals := 68 } : Room) s m args below meth c H locs 0 0 (MQ below (gQi base D rr gz) args s 1 9 (gA base)) (F0 m 32 ls []) := by
    intro g a0 H locs ls hF hP hS hl
    unfold f7_bee_32 at hF
    refine lv_aload_n hx hb dX7_bee_32 rfl (lv_at hl 0 rfl) ?_
    refine lv_iconst (v := 1) hx hb dX7_bee_33 (by decide) ?_
    obtain ⟨h7, hF⟩ := g_if hF
    obtain ⟨v9, g8, h6, hF⟩ := g_bind2 hF
    refine g_calli (va_runV (As := [.int ((1 : Int32))]) (rest := []) ⟨hx, hb, hml, hown, hts⟩ (k7_fail l D base g a0 ((1 : Int32)) v9 g8 h6) (cwV 1 hts gX7_bee_X7_fail rfl rfl rfl (by decide +kernel) ⟨Nat.le_of_ble_eq_true rfl, Nat.le_of_ble_eq_true rfl⟩) (gC.preV hE hP hS 7 rfl (by decide) h7 [.int ((1 : Int32))]) rfl rfl hl.1 rfl (lv_room (Nat.le_of_ble_eq_true rfl)) dX7_bee_34 ⟨(Nat.le_of_ble_eq_true rfl), (Nat.le_of_ble_eq_true rfl)⟩) hS (fun H locs hP hS => ?_)
    exact g_retI hx hb hr hlocks hF hP hS (Nat.le_of_ble_eq_true rfl) (Nat.le_of_ble_eq_true rfl) dX7_bee_37
  unfold f7_bee at hF
  refine lv_aload_n hx hb dX7_bee_0 rfl (lv_at hl 0 rfl) ?_
  refine lv_iconst (v := 0) hx hb dX7_bee_1 (by decide) ?_
  obtain ⟨h1, hF⟩ := g_if hF
  refine g_puti hx hb hts hiX7 tyX7 tyX7_ok nmX7 hown hK hP hS 7 rfl (by decide) h1 0 (by decide) (hts (.fieldLink RX7 35 "CourierBeesModel" "thrown" "I") (by decide +kernel)) (fun _ h9 => h9) (Or.inl rfl) (Or.inl rfl) rfl rfl dX7_bee_2 (fun H locs hP hS => ?_)
  refine lv_aload_n hx hb dX7_bee_5 rfl (lv_at hl 0 rfl) ?_
  refine lv_iload_n hx hb dX7_bee_6 rfl (lv_at hl 1 rfl) ?_
  obtain ⟨v4, g3, h2, hF⟩ := g_bind2 hF
  refine g_calli (va_runV (As := [.int x1]) (rest := []) ⟨hx, hb, hml, hown, hts⟩ (k7_isBee l D base (gPI g a0 0 ((0 : Int32))) a0 x1 v4 g3 h2) (cwV 1 hts gX7_bee_X7_isBee rfl rfl rfl (by decide +kernel) ⟨Nat.le_of_ble_eq_true rfl, Nat.le_of_ble_eq_true rfl⟩) (gC.preV hE hP hS 7 rfl (by decide) h1 [.int x1]) rfl rfl hl.1 rfl (lv_room (Nat.le_of_ble_eq_true rfl)) dX7_bee_7 ⟨(Nat.le_of_ble_eq_true rfl), (Nat.le_of_ble_eq_true rfl)⟩) hS (fun H locs hP hS => ?_)
  refine lv_if_eq (tgt := 32) hx hb dX7_bee_10 (by decide) (fun c5 => ?_) (fun c5 => ?_)
  · have hF := g_t c5 hF
    exact HB32 _ _ _ _ _ hF hP hS (lv_sub hl [0] rfl)
  · have hF := g_f c5 hF
    refine lv_iload_n hx hb dX7_bee_13 rfl (lv_at hl 2 rfl) ?_
    refine lv_iconst (v := 0) hx hb dX7_bee_14 (by decide) ?_
    refine lv_bipush (v := 8) hx hb dX7_bee_15 (by decide) ?_
    obtain ⟨v12, g11, h10, hF⟩ := g_bind2 hF
    refine g_calli (va_runS (As := [.int x2, .int ((0 : Int32)), .int ((8 : Int32))]) (rest := []) ⟨hx, hb, hml, hown, hts⟩ (k7_isIn l D base g3 x2 ((0 : Int32)) ((8 : Int32)) v12 g11 h10) (va_cwS 3 hts gX7_bee_X7_isIn rfl rfl rfl (by decide +kernel) ⟨Nat.le_of_ble_eq_true rfl, Nat.le_of_ble_eq_true rfl⟩) (gC.preS hE hP hS [.int x2, .int ((0 : Int32)), .int ((8 : Int32))]) rfl rfl hl.1 rfl (lv_room (Nat.le_of_ble_eq_true rfl)) dX7_bee_17 ⟨(Nat.le_of_ble_eq_true rfl), (Nat.le_of_ble_eq_true rfl)⟩) hS (fun H locs hP hS => ?_)
    refine lv_if_eq (tgt := 32) hx hb dX7_bee_20 (by decide) (fun c13 => ?_) (fun c13 => ?_)
    · have hF := g_t c13 hF
      exact HB32 _ _ _ _ _ hF hP hS (lv_sub hl [0] rfl)
    · have hF := g_f c13 hF
      refine lv_aload_n hx hb dX7_bee_23 rfl (lv_at hl 0 rfl) ?_
      refine lv_iload_n hx hb dX7_bee_24 rfl (lv_at hl 1 rfl) ?_
      refine lv_iload_n hx hb dX7_bee_25 rfl (lv_at hl 2 rfl) ?_
      obtain ⟨h15, hF⟩ := g_if hF
      obtain ⟨v17, g16, h14, hF⟩ := g_bind2 hF
      refine g_calli (va_runV (As := [.int x1, .int x2]) (rest := []) ⟨hx, hb, hml, hown, hts⟩ (k7_beeTold l D base g11 a0 x1 x2 v17 g16 h14) (cwV 2 hts gX7_bee_X7_beeTold rfl rfl rfl (by decide +kernel) ⟨Nat.le_of_ble_eq_true rfl, Nat.le_of_ble_eq_true rfl⟩) (gC.preV hE hP hS 7 rfl (by decide) h15 [.int x1, .int x2]) rfl rfl hl.1 rfl (lv_room (Nat.le_of_ble_eq_true rfl)) dX7_bee_26 ⟨(Nat.le_of_ble_eq_true rfl), (Nat.le_of_ble_eq_true rfl)⟩) hS (fun H locs hP hS => ?_)
      refine lv_goto (tgt := 37) hx hb dX7_bee_29 (by decide) ?_
      exact g_retI hx hb hr hlocks hF hP hS (Nat.le_of_ble_eq_true rfl) (Nat.le_of_ble_eq_true rfl) dX7_bee_37
set_option maxHeartbeats 4000000 in
set_option maxRecDepth 100000 in
theorem k7_letter (l : Launch) (D : va_G) (base : Nat) (g : g_H) (a0 : Nat) (x1 : Int32) (x2 : Int32) (rr : Int32) (gz : g_H) (hF : f7_letter g a0 x1 x2 = some (rr, gz)) : Met l yX7_letter wsX7_letter ({ frames := 2, cells := 0, slots := 0, locals := 43 } : Room) (va_Pc [.ref a0, .int x1, .int x2] (gC base D g)) (gQi base D rr gz) 0 0 (gA base) := by
  refine g_met (cc := cX7_letter) (maxL := 3) (ret := (some .int)) (lst := [(0, .ref a0), (1, .int x1), (2, .int x2)]) (by decide) rfl (Nat.le_of_ble_eq_true rfl) rfl ?_
  intro p e s m args below meth c ls hx hb hr hml hown hlocks hname hts hE hP hl
  have hown : s.vm.findClass RX7 = some m.cls := hown
  have hK := hE.1
  have hov := hE.2.2.2.2.2.2.2.1
  have hbz := hE.2.2.2.2.2.2.2.2.2.2.2.2
  have hS : va_S (gA base) s.heap s.heap [] := va_S.rf
  have hiX7 : ∀ w ∈ wsX70, w ∈ wsX7_letter := by decide +kernel
  have HB31 : ∀ (g : g_H) (a0 : Nat) (H : Heap) (locs : List Loc) (ls : Array Slot), f7_letter_31 g a0 = some (rr, gz) → gP base D s g H → va_S (gA base) s.heap H locs → lv_has ls 3 [(0, .ref a0)] → W p l e ({ frames := 2, cells := 0, slots := 0, locals := 43 } : Room) s m args below meth c H locs 0 0 (MQ below (gQi base D rr gz) args s 0 0 (gA base)) (F0 m 31 ls []) := by
    intro g a0 H locs ls hF hP hS hl
    unfold f7_letter_31 at hF
    refine lv_aload_n hx hb dX7_letter_31 rfl (lv_at hl 0 rfl) ?_
    refine lv_iconst (v := 1) hx hb dX7_letter_32 (by decide) ?_
    obtain ⟨h7, hF⟩ := g_if hF
    obtain ⟨v9, g8, h6, hF⟩ := g_bind2 hF
    refine g_calli (va_runV (As := [.int ((1 : Int32))]) (rest := []) ⟨hx, hb, hml, hown, hts⟩ (k7_fail l D base g a0 ((1 : Int32)) v9 g8 h6) (cwV 1 hts gX7_letter_X7_fail rfl rfl rfl (by decide +kernel) ⟨Nat.le_of_ble_eq_true rfl, Nat.le_of_ble_eq_true rfl⟩) (gC.preV hE hP hS 7 rfl (by decide) h7 [.int ((1 : Int32))]) rfl rfl hl.1 rfl (lv_room (Nat.le_of_ble_eq_true rfl)) dX7_letter_33 ⟨(Nat.le_of_ble_eq_true rfl), (Nat.le_of_ble_eq_true rfl)⟩) hS (fun H locs hP hS => ?_)
    exact g_retI hx hb hr hlocks hF hP hS (Nat.le_of_ble_eq_true rfl) (Nat.le_of_ble_eq_true rfl) dX7_letter_36
  unfold f7_letter at hF
  refine lv_aload_n hx hb dX7_letter_0 rfl (lv_at hl 0 rfl) ?_
  refine lv_iconst (v := 0) hx hb dX7_letter_1 (by decide) ?_
  obtain ⟨h1, hF⟩ := g_if hF
  refine g_puti hx hb hts hiX7 tyX7 tyX7_ok nmX7 hown hK hP hS 7 rfl (by decide) h1 0 (by decide) (hts (.fieldLink RX7 35 "CourierBeesModel" "thrown" "I") (by decide +kernel)) (fun _ h9 => h9) (Or.inl rfl) (Or.inl rfl) rfl rfl dX7_letter_2 (fun H locs hP hS => ?_)
  refine lv_aload_n hx hb dX7_letter_5 rfl (lv_at hl 0 rfl) ?_
  refine lv_iload_n hx hb dX7_letter_6 rfl (lv_at hl 1 rfl) ?_
  obtain ⟨v4, g3, h2, hF⟩ := g_bind2 hF
  refine g_calli (va_runV (As := [.int x1]) (rest := []) ⟨hx, hb, hml, hown, hts⟩ (k7_isLetter l D base (gPI g a0 0 ((0 : Int32))) a0 x1 v4 g3 h2) (cwV 1 hts gX7_letter_X7_isLetter rfl rfl rfl (by decide +kernel) ⟨Nat.le_of_ble_eq_true rfl, Nat.le_of_ble_eq_true rfl⟩) (gC.preV hE hP hS 7 rfl (by decide) h1 [.int x1]) rfl rfl hl.1 rfl (lv_room (Nat.le_of_ble_eq_true rfl)) dX7_letter_7 ⟨(Nat.le_of_ble_eq_true rfl), (Nat.le_of_ble_eq_true rfl)⟩) hS (fun H locs hP hS => ?_)
  refine lv_if_eq (tgt := 31) hx hb dX7_letter_10 (by decide) (fun c5 => ?_) (fun c5 => ?_)
  · have hF := g_t c5 hF
    exact HB31 _ _ _ _ _ hF hP hS (lv_sub hl [0] rfl)
  · have hF := g_f c5 hF
    refine lv_iload_n hx hb dX7_letter_13 rfl (lv_at hl 2 rfl) ?_
    refine lv_iconst (v := 0) hx hb dX7_letter_14 (by decide) ?_
    refine lv_iconst (v := 4) hx hb dX7_letter_15 (by decide) ?_
    obtain ⟨v12, g11, h10, hF⟩ := g_bind2 hF
    refine g_calli (va_runS (As := [.int x2, .int ((0 : Int32)), .int ((4 : Int32))]) (rest := []) ⟨hx, hb, hml, hown, hts⟩ (k7_isIn l D base g3 x2 ((0 : Int32)) ((4 : Int32)) v12 g11 h10) (va_cwS 3 hts gX7_letter_X7_isIn rfl rfl rfl (by decide +kernel) ⟨Nat.le_of_ble_eq_true rfl, Nat.le_of_ble_eq_true rfl⟩) (gC.preS hE hP hS [.int x2, .int ((0 : Int32)), .int ((4 : Int32))]) rfl rfl hl.1 rfl (lv_room (Nat.le_of_ble_eq_true rfl)) dX7_letter_16 ⟨(Nat.le_of_ble_eq_true rfl), (Nat.le_of_ble_eq_true rfl)⟩) hS (fun H locs hP hS => ?_)
    refine lv_if_eq (tgt := 31) hx hb dX7_letter_19 (by decide) (fun c13 => ?_) (fun c13 => ?_)
    · have hF := g_t c13 hF
      exact HB31 _ _ _ _ _ hF hP hS (lv_sub hl [0] rfl)
    · have hF := g_f c13 hF
      refine lv_aload_n hx hb dX7_letter_22 rfl (lv_at hl 0 rfl) ?_
      refine lv_iload_n hx hb dX7_letter_23 rfl (lv_at hl 1 rfl) ?_
      refine lv_iload_n hx hb dX7_letter_24 rfl (lv_at hl 2 rfl) ?_
      obtain ⟨h15, hF⟩ := g_if hF
      obtain ⟨v17, g16, h14, hF⟩ := g_bind2 hF
      refine g_calli (va_runV (As := [.int x1, .int x2]) (rest := []) ⟨hx, hb, hml, hown, hts⟩ (k7_le l D base g11 a0 x1 x2 v17 g16 h14) (cwV 2 hts gX7_letter_X7_le rfl rfl rfl (by decide +kernel) ⟨Nat.le_of_ble_eq_true rfl, Nat.le_of_ble_eq_true rfl⟩) (gC.preV hE hP hS 7 rfl (by decide) h15 [.int x1, .int x2]) rfl rfl hl.1 rfl (lv_room (Nat.le_of_ble_eq_true rfl)) dX7_letter_25 ⟨(Nat.le_of_ble_eq_true rfl), (Nat.le_of_ble_eq_true rfl)⟩) hS (fun H locs hP hS => ?_)
      refine lv_goto (tgt := 36) hx hb dX7_letter_28 (by decide) ?_
      exact g_retI hx hb hr hlocks hF hP hS (Nat.le_of_ble_eq_true rfl) (Nat.le_of_ble_eq_true rfl) dX7_letter_36
set_option maxHeartbeats 4000000 in
set_option maxRecDepth 100000 in
theorem k7_targetOf (l : Launch) (D : va_G) (base : Nat) (g : g_H) (a0 : Nat) (x1 : Int32) (x2 : Int32) (rr : Int32) (gz : g_H) (hF : f7_targetOf g a0 x1 x2 = some (rr, gz)) : Met l yX7_targetOf wsX7_targetOf ({ frames := 2, cells := 0, slots := 0, locals := 46 } : Room) (va_Pc [.ref a0, .int x1, .int x2] (gC base D g)) (gQi base D rr gz) 0 0 (gA base) := by
  refine g_met (cc := cX7_targetOf) (maxL := 6) (ret := (some .int)) (lst := [(0, .ref a0), (1, .int x1), (2, .int x2)]) (by decide) rfl (Nat.le_of_ble_eq_true rfl) rfl ?_
  intro p e s m args below meth c ls hx hb hr hml hown hlocks hname hts hE hP hl
  have hown : s.vm.findClass RX7 = some m.cls := hown
  have hK := hE.1
  have hov := hE.2.2.2.2.2.2.2.1
  have hbz := hE.2.2.2.2.2.2.2.2.2.2.2.2
  have hS : va_S (gA base) s.heap s.heap [] := va_S.rf
  have hiX7 : ∀ w ∈ wsX70, w ∈ wsX7_targetOf := by decide +kernel
  have HL5 : ∀ (n5 : Nat), ∀ (g : g_H) (a0 : Nat) (x1 : Int32) (x2 : Int32) (x3 : Int32) (x4 : Int32) (H : Heap) (locs : List Loc) (ls : Array Slot), f7_targetOf_5 n5 g a0 x1 x2 x3 x4 = some (rr, gz) → gP base D s g H → va_S (gA base) s.heap H locs → lv_has ls 6 [(0, .ref a0), (1, .int x1), (2, .int x2), (3, .int x3), (4, .int x4)] → W p l e ({ frames := 2, cells := 0, slots := 0, locals := 46 } : Room) s m args below meth c H locs 0 0 (MQ below (gQi base D rr gz) args s 0 0 (gA base)) (F0 m 5 ls []) := by
    intro n5
    induction n5 with
    | zero => intro g a0 x1 x2 x3 x4 H locs ls hF hP hS hl; exact g_no hF
    | succ n5 ih5 =>
      have HB60 : ∀ (g : g_H) (a0 : Nat) (x1 : Int32) (x2 : Int32) (x3 : Int32) (x4 : Int32) (H : Heap) (locs : List Loc) (ls : Array Slot), f7_targetOf_60 (f7_targetOf_5 n5) g a0 x1 x2 x3 x4 = some (rr, gz) → gP base D s g H → va_S (gA base) s.heap H locs → lv_has ls 6 [(0, .ref a0), (1, .int x1), (2, .int x2), (3, .int x3), (4, .int x4)] → W p l e ({ frames := 2, cells := 0, slots := 0, locals := 46 } : Room) s m args below meth c H locs 0 0 (MQ below (gQi base D rr gz) args s 0 0 (gA base)) (F0 m 60 ls []) := by
        intro g a0 x1 x2 x3 x4 H locs ls hF hP hS hl
        unfold f7_targetOf_60 at hF
        refine lv_iinc (v := x4 + (1 : Int32)) (lv' := [(4, .int (x4 + (1 : Int32))), (0, .ref a0), (1, .int x1), (2, .int x2), (3, .int x3)]) hx hb dX7_targetOf_60 hl (k := 4) rfl rfl (by decide) rfl (fun ls hl => ?_)
        refine lv_goto (tgt := 5) hx hb dX7_targetOf_63 (by decide) ?_
        exact ih5 _ _ _ _ _ _ _ _ _ hF hP hS (lv_sub hl [1, 2, 3, 4, 0] rfl)
      have HB54 : ∀ (g : g_H) (a0 : Nat) (x1 : Int32) (x2 : Int32) (x3 : Int32) (x4 : Int32) (x5 : Int32) (s0 : Int32) (s1 : Int32) (H : Heap) (locs : List Loc) (ls : Array Slot), f7_targetOf_54 (f7_targetOf_5 n5) g a0 x1 x2 x3 x4 x5 s0 s1 = some (rr, gz) → gP base D s g H → va_S (gA base) s.heap H locs → lv_has ls 6 [(0, .ref a0), (1, .int x1), (2, .int x2), (3, .int x3), (4, .int x4), (5, .int x5)] → W p l e ({ frames := 2, cells := 0, slots := 0, locals := 46 } : Room) s m args below meth c H locs 0 0 (MQ below (gQi base D rr gz) args s 0 0 (gA base)) (F0 m 54 ls [.int s1, .int s0]) := by
        intro g a0 x1 x2 x3 x4 x5 s0 s1 H locs ls hF hP hS hl
        unfold f7_targetOf_54 at hF
        refine lv_icmp_ge (tgt := 60) hx hb dX7_targetOf_54 (by decide) (fun c19 => ?_) (fun c19 => ?_)
        · have hF := g_t c19 hF
          exact HB60 _ _ _ _ _ _ _ _ _ hF hP hS (lv_sub hl [0, 1, 2, 3, 4] rfl)
        · have hF := g_f c19 hF
          refine lv_iload hx hb dX7_targetOf_57 (lv_at hl 5 rfl) ?_
          refine lv_istore_n (lv' := [(3, .int x5), (0, .ref a0), (1, .int x1), (2, .int x2), (4, .int x4), (5, .int x5)]) hx hb dX7_targetOf_59 rfl hl (by decide) rfl (fun ls hl => ?_)
          exact HB60 _ _ _ _ _ _ _ _ _ hF hP hS (lv_sub hl [1, 2, 3, 0, 4] rfl)
      intro g a0 x1 x2 x3 x4 H locs ls hF hP hS hl
      have hF : f7_targetOf_5b (f7_targetOf_5 n5) g a0 x1 x2 x3 x4 = some (rr, gz) := hF
      unfold f7_targetOf_5b at hF
      refine lv_iload hx hb dX7_targetOf_5 (lv_at hl 4 rfl) ?_
      refine lv_aload_n hx hb dX7_targetOf_7 rfl (lv_at hl 0 rfl) ?_
      refine lv_iload_n hx hb dX7_targetOf_8 rfl (lv_at hl 1 rfl) ?_
      refine lv_iconst (v := 5) hx hb dX7_targetOf_9 (by decide) ?_
      obtain ⟨h2, hF⟩ := g_if hF
      obtain ⟨v4, g3, h1, hF⟩ := g_bind2 hF
      refine g_calli (va_runV (As := [.int x1, .int ((5 : Int32))]) (rest := [.int x4]) ⟨hx, hb, hml, hown, hts⟩ (k7_be l D base g a0 x1 ((5 : Int32)) v4 g3 h1) (cwV 2 hts gX7_targetOf_X7_be rfl rfl rfl (by decide +kernel) ⟨Nat.le_of_ble_eq_true rfl, Nat.le_of_ble_eq_true rfl⟩) (gC.preV hE hP hS 7 rfl (by decide) h2 [.int x1, .int ((5 : Int32))]) rfl rfl hl.1 rfl (lv_room (Nat.le_of_ble_eq_true rfl)) dX7_targetOf_10 ⟨(Nat.le_of_ble_eq_true rfl), (Nat.le_of_ble_eq_true rfl)⟩) hS (fun H locs hP hS => ?_)
      refine lv_icmp_ge (tgt := 66) hx hb dX7_targetOf_13 (by decide) (fun c5 => ?_) (fun c5 => ?_)
      · have hF := g_t c5 hF
        refine lv_iload_n hx hb dX7_targetOf_66 rfl (lv_at hl 3 rfl) ?_
        exact g_retI hx hb hr hlocks hF hP hS (Nat.le_of_ble_eq_true rfl) (Nat.le_of_ble_eq_true rfl) dX7_targetOf_67
      · have hF := g_f c5 hF
        refine lv_aload_n hx hb dX7_targetOf_16 rfl (lv_at hl 0 rfl) ?_
        obtain ⟨h6, hF⟩ := g_if hF
        obtain ⟨q7, hq8, hF⟩ := g_bind hF
        refine g_get hx hb hts hiX7 hown hK hP 7 rfl (by decide) h6 8 (by decide) (hts (.fieldLink RX7 23 "CourierBeesModel" "routes" "[I") (by decide +kernel)) (fun _ h9 => h9) ((gFv_r (by decide)).trans (congrArg va_rf hq8)) dX7_targetOf_17 ?_
        refine lv_bipush (v := 7) hx hb dX7_targetOf_20 (by decide) ?_
        refine lv_iload_n hx hb dX7_targetOf_22 rfl (lv_at hl 1 rfl) ?_
        refine lv_imul hx hb dX7_targetOf_23 ?_
        refine lv_iload hx hb dX7_targetOf_24 (lv_at hl 4 rfl) ?_
        refine lv_iadd hx hb dX7_targetOf_26 ?_
        obtain ⟨h9, hF⟩ := g_if hF
        obtain ⟨h10, hF⟩ := g_if hF
        refine g_iald hx hb hP (g_pr h9) h10 dX7_targetOf_27 ?_
        refine lv_istore (lv' := [(5, .int (gI g3 q7 (Int32.toNatClampNeg ((((7 : Int32)) * x1) + x4)))), (0, .ref a0), (1, .int x1), (2, .int x2), (3, .int x3), (4, .int x4)]) hx hb dX7_targetOf_28 hl (by decide) rfl (fun ls hl => ?_)
        refine lv_aload_n hx hb dX7_targetOf_30 rfl (lv_at hl 1 rfl) ?_
        refine lv_iload hx hb dX7_targetOf_31 (lv_at hl 0 rfl) ?_
        refine lv_iload_n hx hb dX7_targetOf_33 rfl (lv_at hl 3 rfl) ?_
        obtain ⟨v13, g12, h11, hF⟩ := g_bind2 hF
        refine g_calli (va_runV (As := [.int (gI g3 q7 (Int32.toNatClampNeg ((((7 : Int32)) * x1) + x4))), .int x2]) (rest := []) ⟨hx, hb, hml, hown, hts⟩ (k7_away l D base g3 a0 (gI g3 q7 (Int32.toNatClampNeg ((((7 : Int32)) * x1) + x4))) x2 v13 g12 h11) (cwV 2 hts gX7_targetOf_X7_away rfl rfl rfl (by decide +kernel) ⟨Nat.le_of_ble_eq_true rfl, Nat.le_of_ble_eq_true rfl⟩) (gC.preV hE hP hS 7 rfl (by decide) h6 [.int (gI g3 q7 (Int32.toNatClampNeg ((((7 : Int32)) * x1) + x4))), .int x2]) rfl rfl hl.1 rfl (lv_room (Nat.le_of_ble_eq_true rfl)) dX7_targetOf_34 ⟨(Nat.le_of_ble_eq_true rfl), (Nat.le_of_ble_eq_true rfl)⟩) hS (fun H locs hP hS => ?_)
        refine lv_iload_n hx hb dX7_targetOf_37 rfl (lv_at hl 4 rfl) ?_
        refine lv_iconst (v := (-1)) hx hb dX7_targetOf_38 (by decide) ?_
        refine lv_icmp_ne (tgt := 48) hx hb dX7_targetOf_39 (by decide) (fun c14 => ?_) (fun c14 => ?_)
        · have hF := g_f c14 hF
          refine lv_aload_n hx hb dX7_targetOf_48 rfl (lv_at hl 1 rfl) ?_
          refine lv_iload_n hx hb dX7_targetOf_49 rfl (lv_at hl 4 rfl) ?_
          refine lv_iload_n hx hb dX7_targetOf_50 rfl (lv_at hl 3 rfl) ?_
          obtain ⟨h16, hF⟩ := g_if hF
          obtain ⟨v18, g17, h15, hF⟩ := g_bind2 hF
          refine g_calli (va_runV (As := [.int x3, .int x2]) (rest := [.int v13]) ⟨hx, hb, hml, hown, hts⟩ (k7_away l D base g12 a0 x3 x2 v18 g17 h15) (cwV 2 hts gX7_targetOf_X7_away rfl rfl rfl (by decide +kernel) ⟨Nat.le_of_ble_eq_true rfl, Nat.le_of_ble_eq_true rfl⟩) (gC.preV hE hP hS 7 rfl (by decide) h16 [.int x3, .int x2]) rfl rfl hl.1 rfl (lv_room (Nat.le_of_ble_eq_true rfl)) dX7_targetOf_51 ⟨(Nat.le_of_ble_eq_true rfl), (Nat.le_of_ble_eq_true rfl)⟩) hS (fun H locs hP hS => ?_)
          exact HB54 _ _ _ _ _ _ _ _ _ _ _ _ hF hP hS (lv_sub hl [1, 2, 3, 4, 5, 0] rfl)
        · have hF := g_t c14 hF
          refine lv_sipush (v := 9999) hx hb dX7_targetOf_42 (by decide) ?_
          refine lv_goto (tgt := 54) hx hb dX7_targetOf_45 (by decide) ?_
          exact HB54 _ _ _ _ _ _ _ _ _ _ _ _ hF hP hS (lv_sub hl [1, 2, 3, 4, 5, 0] rfl)
  unfold f7_targetOf at hF
  refine lv_iconst (v := (-1)) hx hb dX7_targetOf_0 (by decide) ?_
  refine lv_istore_n (lv' := [(3, .int ((-1 : Int32))), (0, .ref a0), (1, .int x1), (2, .int x2)]) hx hb dX7_targetOf_1 rfl hl (by decide) rfl (fun ls hl => ?_)
  refine lv_iconst (v := 0) hx hb dX7_targetOf_2 (by decide) ?_
  refine lv_istore (lv' := [(4, .int ((0 : Int32))), (3, .int ((-1 : Int32))), (0, .ref a0), (1, .int x1), (2, .int x2)]) hx hb dX7_targetOf_3 hl (by decide) rfl (fun ls hl => ?_)
  exact HL5 300 _ _ _ _ _ _ _ _ _ hF hP hS (lv_sub hl [2, 3, 4, 1, 0] rfl)
set_option maxHeartbeats 4000000 in
set_option maxRecDepth 100000 in
theorem k7_target (l : Launch) (D : va_G) (base : Nat) (g : g_H) (a0 : Nat) (x1 : Int32) (x2 : Int32) (rr : Int32) (gz : g_H) (hF : f7_target g a0 x1 x2 = some (rr, gz)) : Met l yX7_target wsX7_target ({ frames := 3, cells := 0, slots := 0, locals := 71 } : Room) (va_Pc [.ref a0, .int x1, .int x2] (gC base D g)) (gQi base D rr gz) 0 0 (gA base) := by
  refine g_met (cc := cX7_target) (maxL := 3) (ret := (some .int)) (lst := [(0, .ref a0), (1, .int x1), (2, .int x2)]) (by decide) rfl (Nat.le_of_ble_eq_true rfl) rfl ?_
  intro p e s m args below meth c ls hx hb hr hml hown hlocks hname hts hE hP hl
  have hown : s.vm.findClass RX7 = some m.cls := hown
  have hK := hE.1
  have hov := hE.2.2.2.2.2.2.2.1
  have hbz := hE.2.2.2.2.2.2.2.2.2.2.2.2
  have hS : va_S (gA base) s.heap s.heap [] := va_S.rf
  have hiX7 : ∀ w ∈ wsX70, w ∈ wsX7_target := by decide +kernel
  have HB30 : ∀ (g : g_H) (a0 : Nat) (H : Heap) (locs : List Loc) (ls : Array Slot), f7_target_30 g a0 = some (rr, gz) → gP base D s g H → va_S (gA base) s.heap H locs → lv_has ls 3 [(0, .ref a0)] → W p l e ({ frames := 3, cells := 0, slots := 0, locals := 71 } : Room) s m args below meth c H locs 0 0 (MQ below (gQi base D rr gz) args s 0 0 (gA base)) (F0 m 30 ls []) := by
    intro g a0 H locs ls hF hP hS hl
    unfold f7_target_30 at hF
    refine lv_aload_n hx hb dX7_target_30 rfl (lv_at hl 0 rfl) ?_
    refine lv_iconst (v := 1) hx hb dX7_target_31 (by decide) ?_
    obtain ⟨h7, hF⟩ := g_if hF
    obtain ⟨v9, g8, h6, hF⟩ := g_bind2 hF
    refine g_calli (va_runV (As := [.int ((1 : Int32))]) (rest := []) ⟨hx, hb, hml, hown, hts⟩ (k7_fail l D base g a0 ((1 : Int32)) v9 g8 h6) (cwV 1 hts gX7_target_X7_fail rfl rfl rfl (by decide +kernel) ⟨Nat.le_of_ble_eq_true rfl, Nat.le_of_ble_eq_true rfl⟩) (gC.preV hE hP hS 7 rfl (by decide) h7 [.int ((1 : Int32))]) rfl rfl hl.1 rfl (lv_room (Nat.le_of_ble_eq_true rfl)) dX7_target_32 ⟨(Nat.le_of_ble_eq_true rfl), (Nat.le_of_ble_eq_true rfl)⟩) hS (fun H locs hP hS => ?_)
    exact g_retI hx hb hr hlocks hF hP hS (Nat.le_of_ble_eq_true rfl) (Nat.le_of_ble_eq_true rfl) dX7_target_35
  unfold f7_target at hF
  refine lv_aload_n hx hb dX7_target_0 rfl (lv_at hl 0 rfl) ?_
  refine lv_iconst (v := 0) hx hb dX7_target_1 (by decide) ?_
  obtain ⟨h1, hF⟩ := g_if hF
  refine g_puti hx hb hts hiX7 tyX7 tyX7_ok nmX7 hown hK hP hS 7 rfl (by decide) h1 0 (by decide) (hts (.fieldLink RX7 35 "CourierBeesModel" "thrown" "I") (by decide +kernel)) (fun _ h9 => h9) (Or.inl rfl) (Or.inl rfl) rfl rfl dX7_target_2 (fun H locs hP hS => ?_)
  refine lv_aload_n hx hb dX7_target_5 rfl (lv_at hl 0 rfl) ?_
  refine lv_iload_n hx hb dX7_target_6 rfl (lv_at hl 1 rfl) ?_
  obtain ⟨v4, g3, h2, hF⟩ := g_bind2 hF
  refine g_calli (va_runV (As := [.int x1]) (rest := []) ⟨hx, hb, hml, hown, hts⟩ (k7_isBee l D base (gPI g a0 0 ((0 : Int32))) a0 x1 v4 g3 h2) (cwV 1 hts gX7_target_X7_isBee rfl rfl rfl (by decide +kernel) ⟨Nat.le_of_ble_eq_true rfl, Nat.le_of_ble_eq_true rfl⟩) (gC.preV hE hP hS 7 rfl (by decide) h1 [.int x1]) rfl rfl hl.1 rfl (lv_room (Nat.le_of_ble_eq_true rfl)) dX7_target_7 ⟨(Nat.le_of_ble_eq_true rfl), (Nat.le_of_ble_eq_true rfl)⟩) hS (fun H locs hP hS => ?_)
  refine lv_if_eq (tgt := 30) hx hb dX7_target_10 (by decide) (fun c5 => ?_) (fun c5 => ?_)
  · have hF := g_t c5 hF
    exact HB30 _ _ _ _ _ hF hP hS (lv_sub hl [0] rfl)
  · have hF := g_f c5 hF
    refine lv_aload_n hx hb dX7_target_13 rfl (lv_at hl 0 rfl) ?_
    refine lv_iload_n hx hb dX7_target_14 rfl (lv_at hl 2 rfl) ?_
    obtain ⟨h11, hF⟩ := g_if hF
    obtain ⟨v13, g12, h10, hF⟩ := g_bind2 hF
    refine g_calli (va_runV (As := [.int x2]) (rest := []) ⟨hx, hb, hml, hown, hts⟩ (k7_isHouse l D base g3 a0 x2 v13 g12 h10) (cwV 1 hts gX7_target_X7_isHouse rfl rfl rfl (by decide +kernel) ⟨Nat.le_of_ble_eq_true rfl, Nat.le_of_ble_eq_true rfl⟩) (gC.preV hE hP hS 7 rfl (by decide) h11 [.int x2]) rfl rfl hl.1 rfl (lv_room (Nat.le_of_ble_eq_true rfl)) dX7_target_15 ⟨(Nat.le_of_ble_eq_true rfl), (Nat.le_of_ble_eq_true rfl)⟩) hS (fun H locs hP hS => ?_)
    refine lv_if_eq (tgt := 30) hx hb dX7_target_18 (by decide) (fun c14 => ?_) (fun c14 => ?_)
    · have hF := g_t c14 hF
      exact HB30 _ _ _ _ _ hF hP hS (lv_sub hl [0] rfl)
    · have hF := g_f c14 hF
      refine lv_aload_n hx hb dX7_target_21 rfl (lv_at hl 0 rfl) ?_
      refine lv_iload_n hx hb dX7_target_22 rfl (lv_at hl 1 rfl) ?_
      refine lv_iload_n hx hb dX7_target_23 rfl (lv_at hl 2 rfl) ?_
      obtain ⟨h16, hF⟩ := g_if hF
      obtain ⟨v18, g17, h15, hF⟩ := g_bind2 hF
      refine g_calli (va_runV (As := [.int x1, .int x2]) (rest := []) ⟨hx, hb, hml, hown, hts⟩ (k7_targetOf l D base g12 a0 x1 x2 v18 g17 h15) (cwV 2 hts gX7_target_X7_targetOf rfl rfl rfl (by decide +kernel) ⟨Nat.le_of_ble_eq_true rfl, Nat.le_of_ble_eq_true rfl⟩) (gC.preV hE hP hS 7 rfl (by decide) h16 [.int x1, .int x2]) rfl rfl hl.1 rfl (lv_room (Nat.le_of_ble_eq_true rfl)) dX7_target_24 ⟨(Nat.le_of_ble_eq_true rfl), (Nat.le_of_ble_eq_true rfl)⟩) hS (fun H locs hP hS => ?_)
      refine lv_goto (tgt := 35) hx hb dX7_target_27 (by decide) ?_
      exact g_retI hx hb hr hlocks hF hP hS (Nat.le_of_ble_eq_true rfl) (Nat.le_of_ble_eq_true rfl) dX7_target_35
set_option maxHeartbeats 4000000 in
set_option maxRecDepth 100000 in
theorem k7_deal (l : Launch) (D : va_G) (base : Nat) (g : g_H) (a0 : Nat) (x1 : Int32) (rr : Int32) (gz : g_H) (hF : f7_deal g a0 x1 = some (rr, gz)) : Met l yX7_deal wsX7_deal ({ frames := 3, cells := 0, slots := 0, locals := 71 } : Room) (va_Pc [.ref a0, .int x1] (gC base D g)) (gQi base D rr gz) 0 0 (gA base) := by
  refine g_met (cc := cX7_deal) (maxL := 6) (ret := (some .int)) (lst := [(0, .ref a0), (1, .int x1)]) (by decide) rfl (Nat.le_of_ble_eq_true rfl) rfl ?_
  intro p e s m args below meth c ls hx hb hr hml hown hlocks hname hts hE hP hl
  have hown : s.vm.findClass RX7 = some m.cls := hown
  have hK := hE.1
  have hov := hE.2.2.2.2.2.2.2.1
  have hbz := hE.2.2.2.2.2.2.2.2.2.2.2.2
  have hS : va_S (gA base) s.heap s.heap [] := va_S.rf
  have hiX7 : ∀ w ∈ wsX70, w ∈ wsX7_deal := by decide +kernel
  have HL147 : ∀ (n147 : Nat), ∀ (g : g_H) (a0 : Nat) (x1 : Int32) (x2 : Int32) (x3 : Int32) (x4 : Int32) (H : Heap) (locs : List Loc) (ls : Array Slot), f7_deal_147 n147 g a0 x1 x2 x3 x4 = some (rr, gz) → gP base D s g H → va_S (gA base) s.heap H locs → lv_has ls 6 [(0, .ref a0), (1, .int x1), (2, .int x2), (3, .int x3), (4, .int x4)] → W p l e ({ frames := 3, cells := 0, slots := 0, locals := 71 } : Room) s m args below meth c H locs 0 0 (MQ below (gQi base D rr gz) args s 0 0 (gA base)) (F0 m 147 ls []) := by
    intro n147
    induction n147 with
    | zero => intro g a0 x1 x2 x3 x4 H locs ls hF hP hS hl; exact g_no hF
    | succ n147 ih147 =>
      have HB234 : ∀ (g : g_H) (a0 : Nat) (x1 : Int32) (x2 : Int32) (x3 : Int32) (x4 : Int32) (H : Heap) (locs : List Loc) (ls : Array Slot), f7_deal_234 (f7_deal_147 n147) g a0 x1 x2 x3 x4 = some (rr, gz) → gP base D s g H → va_S (gA base) s.heap H locs → lv_has ls 6 [(0, .ref a0), (1, .int x1), (2, .int x2), (3, .int x3), (4, .int x4)] → W p l e ({ frames := 3, cells := 0, slots := 0, locals := 71 } : Room) s m args below meth c H locs 0 0 (MQ below (gQi base D rr gz) args s 0 0 (gA base)) (F0 m 234 ls []) := by
        intro g a0 x1 x2 x3 x4 H locs ls hF hP hS hl
        unfold f7_deal_234 at hF
        refine lv_iinc (v := x4 + (1 : Int32)) (lv' := [(4, .int (x4 + (1 : Int32))), (0, .ref a0), (1, .int x1), (2, .int x2), (3, .int x3)]) hx hb dX7_deal_234 hl (k := 4) rfl rfl (by decide) rfl (fun ls hl => ?_)
        refine lv_goto (tgt := 147) hx hb dX7_deal_237 (by decide) ?_
        exact ih147 _ _ _ _ _ _ _ _ _ hF hP hS (lv_sub hl [1, 2, 3, 4, 0] rfl)
      intro g a0 x1 x2 x3 x4 H locs ls hF hP hS hl
      have hF : f7_deal_147b (f7_deal_147 n147) g a0 x1 x2 x3 x4 = some (rr, gz) := hF
      unfold f7_deal_147b at hF
      refine lv_iload hx hb dX7_deal_147 (lv_at hl 4 rfl) ?_
      refine lv_aload_n hx hb dX7_deal_149 rfl (lv_at hl 0 rfl) ?_
      obtain ⟨h14, hF⟩ := g_if hF
      refine g_get hx hb hts hiX7 hown hK hP 7 rfl (by decide) h14 9 (by decide) (hts (.fieldLink RX7 52 "CourierBeesModel" "letters" "I") (by decide +kernel)) (fun _ h9 => h9) (gFv_i (Or.inl rfl)) dX7_deal_150 ?_
      refine lv_icmp_ge (tgt := 240) hx hb dX7_deal_153 (by decide) (fun c15 => ?_) (fun c15 => ?_)
      · have hF := g_t c15 hF
        refine lv_iload_n hx hb dX7_deal_240 rfl (lv_at hl 2 rfl) ?_
        exact g_retI hx hb hr hlocks hF hP hS (Nat.le_of_ble_eq_true rfl) (Nat.le_of_ble_eq_true rfl) dX7_deal_241
      · have hF := g_f c15 hF
        refine lv_aload_n hx hb dX7_deal_156 rfl (lv_at hl 0 rfl) ?_
        refine lv_iload hx hb dX7_deal_157 (lv_at hl 4 rfl) ?_
        refine lv_iconst (v := 1) hx hb dX7_deal_159 (by decide) ?_
        obtain ⟨v18, g17, h16, hF⟩ := g_bind2 hF
        refine g_calli (va_runV (As := [.int x4, .int ((1 : Int32))]) (rest := []) ⟨hx, hb, hml, hown, hts⟩ (k7_le l D base g a0 x4 ((1 : Int32)) v18 g17 h16) (cwV 2 hts gX7_deal_X7_le rfl rfl rfl (by decide +kernel) ⟨Nat.le_of_ble_eq_true rfl, Nat.le_of_ble_eq_true rfl⟩) (gC.preV hE hP hS 7 rfl (by decide) h14 [.int x4, .int ((1 : Int32))]) rfl rfl hl.1 rfl (lv_room (Nat.le_of_ble_eq_true rfl)) dX7_deal_160 ⟨(Nat.le_of_ble_eq_true rfl), (Nat.le_of_ble_eq_true rfl)⟩) hS (fun H locs hP hS => ?_)
        refine lv_iload_n hx hb dX7_deal_163 rfl (lv_at hl 3 rfl) ?_
        refine lv_icmp_ne (tgt := 234) hx hb dX7_deal_164 (by decide) (fun c19 => ?_) (fun c19 => ?_)
        · have hF := g_f c19 hF
          exact HB234 _ _ _ _ _ _ _ _ _ hF hP hS (lv_sub hl [0, 1, 2, 3, 4] rfl)
        · have hF := g_t c19 hF
          refine lv_aload_n hx hb dX7_deal_167 rfl (lv_at hl 0 rfl) ?_
          refine lv_iload_n hx hb dX7_deal_168 rfl (lv_at hl 1 rfl) ?_
          obtain ⟨h21, hF⟩ := g_if hF
          obtain ⟨v23, g22, h20, hF⟩ := g_bind2 hF
          refine g_calli (va_runV (As := [.int x1]) (rest := []) ⟨hx, hb, hml, hown, hts⟩ (k7_carries l D base g17 a0 x1 v23 g22 h20) (cwV 1 hts gX7_deal_X7_carries rfl rfl rfl (by decide +kernel) ⟨Nat.le_of_ble_eq_true rfl, Nat.le_of_ble_eq_true rfl⟩) (gC.preV hE hP hS 7 rfl (by decide) h21 [.int x1]) rfl rfl hl.1 rfl (lv_room (Nat.le_of_ble_eq_true rfl)) dX7_deal_169 ⟨(Nat.le_of_ble_eq_true rfl), (Nat.le_of_ble_eq_true rfl)⟩) hS (fun H locs hP hS => ?_)
          refine lv_iconst (v := 3) hx hb dX7_deal_172 (by decide) ?_
          refine lv_icmp_ne (tgt := 179) hx hb dX7_deal_173 (by decide) (fun c24 => ?_) (fun c24 => ?_)
          · have hF := g_f c24 hF
            refine lv_aload_n hx hb dX7_deal_179 rfl (lv_at hl 0 rfl) ?_
            refine lv_iload_n hx hb dX7_deal_180 rfl (lv_at hl 1 rfl) ?_
            refine lv_aload_n hx hb dX7_deal_181 rfl (lv_at hl 0 rfl) ?_
            refine lv_iload hx hb dX7_deal_182 (lv_at hl 4 rfl) ?_
            refine lv_iconst (v := 0) hx hb dX7_deal_184 (by decide) ?_
            obtain ⟨h26, hF⟩ := g_if hF
            obtain ⟨v28, g27, h25, hF⟩ := g_bind2 hF
            refine g_calli (va_runV (As := [.int x4, .int ((0 : Int32))]) (rest := [.int x1, .ref a0]) ⟨hx, hb, hml, hown, hts⟩ (k7_le l D base g22 a0 x4 ((0 : Int32)) v28 g27 h25) (cwV 2 hts gX7_deal_X7_le rfl rfl rfl (by decide +kernel) ⟨Nat.le_of_ble_eq_true rfl, Nat.le_of_ble_eq_true rfl⟩) (gC.preV hE hP hS 7 rfl (by decide) h26 [.int x4, .int ((0 : Int32))]) rfl rfl hl.1 rfl (lv_room (Nat.le_of_ble_eq_true rfl)) dX7_deal_185 ⟨(Nat.le_of_ble_eq_true rfl), (Nat.le_of_ble_eq_true rfl)⟩) hS (fun H locs hP hS => ?_)
            obtain ⟨h30, hF⟩ := g_if hF
            obtain ⟨v32, g31, h29, hF⟩ := g_bind2 hF
            refine g_calli (va_runV (As := [.int x1, .int v28]) (rest := []) ⟨hx, hb, hml, hown, hts⟩ (k7_targetOf l D base g27 a0 x1 v28 v32 g31 h29) (cwV 2 hts gX7_deal_X7_targetOf rfl rfl rfl (by decide +kernel) ⟨Nat.le_of_ble_eq_true rfl, Nat.le_of_ble_eq_true rfl⟩) (gC.preV hE hP hS 7 rfl (by decide) h30 [.int x1, .int v28]) rfl rfl hl.1 rfl (lv_room (Nat.le_of_ble_eq_true rfl)) dX7_deal_188 ⟨(Nat.le_of_ble_eq_true rfl), (Nat.le_of_ble_eq_true rfl)⟩) hS (fun H locs hP hS => ?_)
            refine lv_istore (lv' := [(5, .int v32), (0, .ref a0), (1, .int x1), (2, .int x2), (3, .int x3), (4, .int x4)]) hx hb dX7_deal_191 hl (by decide) rfl (fun ls hl => ?_)
            refine lv_iload hx hb dX7_deal_193 (lv_at hl 0 rfl) ?_
            refine lv_iconst (v := (-1)) hx hb dX7_deal_195 (by decide) ?_
            refine lv_icmp_eq (tgt := 234) hx hb dX7_deal_196 (by decide) (fun c33 => ?_) (fun c33 => ?_)
            · have hF := g_t c33 hF
              exact HB234 _ _ _ _ _ _ _ _ _ hF hP hS (lv_sub hl [1, 2, 3, 4, 5] rfl)
            · have hF := g_f c33 hF
              refine lv_aload_n hx hb dX7_deal_199 rfl (lv_at hl 1 rfl) ?_
              refine lv_iload hx hb dX7_deal_200 (lv_at hl 0 rfl) ?_
              refine lv_aload_n hx hb dX7_deal_202 rfl (lv_at hl 1 rfl) ?_
              refine lv_iload hx hb dX7_deal_203 (lv_at hl 5 rfl) ?_
              refine lv_iconst (v := 0) hx hb dX7_deal_205 (by decide) ?_
              obtain ⟨h35, hF⟩ := g_if hF
              obtain ⟨v37, g36, h34, hF⟩ := g_bind2 hF
              refine g_calli (va_runV (As := [.int x4, .int ((0 : Int32))]) (rest := [.int v32, .ref a0]) ⟨hx, hb, hml, hown, hts⟩ (k7_le l D base g31 a0 x4 ((0 : Int32)) v37 g36 h34) (cwV 2 hts gX7_deal_X7_le rfl rfl rfl (by decide +kernel) ⟨Nat.le_of_ble_eq_true rfl, Nat.le_of_ble_eq_true rfl⟩) (gC.preV hE hP hS 7 rfl (by decide) h35 [.int x4, .int ((0 : Int32))]) rfl rfl hl.1 rfl (lv_room (Nat.le_of_ble_eq_true rfl)) dX7_deal_206 ⟨(Nat.le_of_ble_eq_true rfl), (Nat.le_of_ble_eq_true rfl)⟩) hS (fun H locs hP hS => ?_)
              obtain ⟨h39, hF⟩ := g_if hF
              obtain ⟨v41, g40, h38, hF⟩ := g_bind2 hF
              refine g_calli (va_runV (As := [.int v32, .int v37]) (rest := []) ⟨hx, hb, hml, hown, hts⟩ (k7_away l D base g36 a0 v32 v37 v41 g40 h38) (cwV 2 hts gX7_deal_X7_away rfl rfl rfl (by decide +kernel) ⟨Nat.le_of_ble_eq_true rfl, Nat.le_of_ble_eq_true rfl⟩) (gC.preV hE hP hS 7 rfl (by decide) h39 [.int v32, .int v37]) rfl rfl hl.1 rfl (lv_room (Nat.le_of_ble_eq_true rfl)) dX7_deal_209 ⟨(Nat.le_of_ble_eq_true rfl), (Nat.le_of_ble_eq_true rfl)⟩) hS (fun H locs hP hS => ?_)
              refine lv_aload_n hx hb dX7_deal_212 rfl (lv_at hl 1 rfl) ?_
              refine lv_iload_n hx hb dX7_deal_213 rfl (lv_at hl 4 rfl) ?_
              refine lv_aload_n hx hb dX7_deal_214 rfl (lv_at hl 1 rfl) ?_
              refine lv_iload hx hb dX7_deal_215 (lv_at hl 5 rfl) ?_
              refine lv_iconst (v := 0) hx hb dX7_deal_217 (by decide) ?_
              obtain ⟨h43, hF⟩ := g_if hF
              obtain ⟨v45, g44, h42, hF⟩ := g_bind2 hF
              refine g_calli (va_runV (As := [.int x4, .int ((0 : Int32))]) (rest := [.int x3, .ref a0, .int v41]) ⟨hx, hb, hml, hown, hts⟩ (k7_le l D base g40 a0 x4 ((0 : Int32)) v45 g44 h42) (cwV 2 hts gX7_deal_X7_le rfl rfl rfl (by decide +kernel) ⟨Nat.le_of_ble_eq_true rfl, Nat.le_of_ble_eq_true rfl⟩) (gC.preV hE hP hS 7 rfl (by decide) h43 [.int x4, .int ((0 : Int32))]) rfl rfl hl.1 rfl (lv_room (Nat.le_of_ble_eq_true rfl)) dX7_deal_218 ⟨(Nat.le_of_ble_eq_true rfl), (Nat.le_of_ble_eq_true rfl)⟩) hS (fun H locs hP hS => ?_)
              obtain ⟨h47, hF⟩ := g_if hF
              obtain ⟨v49, g48, h46, hF⟩ := g_bind2 hF
              refine g_calli (va_runV (As := [.int x3, .int v45]) (rest := [.int v41]) ⟨hx, hb, hml, hown, hts⟩ (k7_away l D base g44 a0 x3 v45 v49 g48 h46) (cwV 2 hts gX7_deal_X7_away rfl rfl rfl (by decide +kernel) ⟨Nat.le_of_ble_eq_true rfl, Nat.le_of_ble_eq_true rfl⟩) (gC.preV hE hP hS 7 rfl (by decide) h47 [.int x3, .int v45]) rfl rfl hl.1 rfl (lv_room (Nat.le_of_ble_eq_true rfl)) dX7_deal_221 ⟨(Nat.le_of_ble_eq_true rfl), (Nat.le_of_ble_eq_true rfl)⟩) hS (fun H locs hP hS => ?_)
              refine lv_icmp_ge (tgt := 234) hx hb dX7_deal_224 (by decide) (fun c50 => ?_) (fun c50 => ?_)
              · have hF := g_t c50 hF
                exact HB234 _ _ _ _ _ _ _ _ _ hF hP hS (lv_sub hl [1, 2, 3, 4, 5] rfl)
              · have hF := g_f c50 hF
                refine lv_aload_n hx hb dX7_deal_227 rfl (lv_at hl 1 rfl) ?_
                refine lv_iload_n hx hb dX7_deal_228 rfl (lv_at hl 2 rfl) ?_
                refine lv_iload hx hb dX7_deal_229 (lv_at hl 5 rfl) ?_
                obtain ⟨h52, hF⟩ := g_if hF
                obtain ⟨g53, h51, hF⟩ := g_bind hF
                refine g_callv (va_runV (As := [.int x1, .int x4]) (rest := []) ⟨hx, hb, hml, hown, hts⟩ (k7_take l D base g48 a0 x1 x4 g53 h51) (cwV 2 hts gX7_deal_X7_take rfl rfl rfl (by decide +kernel) ⟨Nat.le_of_ble_eq_true rfl, Nat.le_of_ble_eq_true rfl⟩) (gC.preV hE hP hS 7 rfl (by decide) h52 [.int x1, .int x4]) rfl rfl hl.1 rfl (lv_room (Nat.le_of_ble_eq_true rfl)) dX7_deal_231 ⟨(Nat.le_of_ble_eq_true rfl), (Nat.le_of_ble_eq_true rfl)⟩) hS (fun H locs hP hS => ?_)
                exact HB234 _ _ _ _ _ _ _ _ _ hF hP hS (lv_sub hl [1, 2, 3, 4, 5] rfl)
          · have hF := g_t c24 hF
            refine lv_goto (tgt := 234) hx hb dX7_deal_176 (by decide) ?_
            exact HB234 _ _ _ _ _ _ _ _ _ hF hP hS (lv_sub hl [0, 1, 2, 3, 4] rfl)
  have HL11 : ∀ (n11 : Nat), ∀ (g : g_H) (a0 : Nat) (x1 : Int32) (x2 : Int32) (x3 : Int32) (x4 : Int32) (H : Heap) (locs : List Loc) (ls : Array Slot), f7_deal_11 n11 g a0 x1 x2 x3 x4 = some (rr, gz) → gP base D s g H → va_S (gA base) s.heap H locs → lv_has ls 6 [(0, .ref a0), (1, .int x1), (2, .int x2), (3, .int x3), (4, .int x4)] → W p l e ({ frames := 3, cells := 0, slots := 0, locals := 71 } : Room) s m args below meth c H locs 0 0 (MQ below (gQi base D rr gz) args s 0 0 (gA base)) (F0 m 11 ls []) := by
    intro n11
    induction n11 with
    | zero => intro g a0 x1 x2 x3 x4 H locs ls hF hP hS hl; exact g_no hF
    | succ n11 ih11 =>
      have HB122 : ∀ (g : g_H) (a0 : Nat) (x1 : Int32) (x2 : Int32) (x3 : Int32) (x4 : Int32) (H : Heap) (locs : List Loc) (ls : Array Slot), f7_deal_122 (f7_deal_11 n11) g a0 x1 x2 x3 x4 = some (rr, gz) → gP base D s g H → va_S (gA base) s.heap H locs → lv_has ls 6 [(0, .ref a0), (1, .int x1), (2, .int x2), (3, .int x3), (4, .int x4)] → W p l e ({ frames := 3, cells := 0, slots := 0, locals := 71 } : Room) s m args below meth c H locs 0 0 (MQ below (gQi base D rr gz) args s 0 0 (gA base)) (F0 m 122 ls []) := by
        intro g a0 x1 x2 x3 x4 H locs ls hF hP hS hl
        unfold f7_deal_122 at hF
        refine lv_iinc (v := x4 + (1 : Int32)) (lv' := [(4, .int (x4 + (1 : Int32))), (0, .ref a0), (1, .int x1), (2, .int x2), (3, .int x3)]) hx hb dX7_deal_122 hl (k := 4) rfl rfl (by decide) rfl (fun ls hl => ?_)
        refine lv_goto (tgt := 11) hx hb dX7_deal_125 (by decide) ?_
        exact ih11 _ _ _ _ _ _ _ _ _ hF hP hS (lv_sub hl [1, 2, 3, 4, 0] rfl)
      have HB76 : ∀ (g : g_H) (a0 : Nat) (x1 : Int32) (x2 : Int32) (x3 : Int32) (x4 : Int32) (x5 : Int32) (H : Heap) (locs : List Loc) (ls : Array Slot), f7_deal_76 (f7_deal_11 n11) g a0 x1 x2 x3 x4 x5 = some (rr, gz) → gP base D s g H → va_S (gA base) s.heap H locs → lv_has ls 6 [(0, .ref a0), (1, .int x1), (2, .int x2), (3, .int x3), (4, .int x4), (5, .int x5)] → W p l e ({ frames := 3, cells := 0, slots := 0, locals := 71 } : Room) s m args below meth c H locs 0 0 (MQ below (gQi base D rr gz) args s 0 0 (gA base)) (F0 m 76 ls []) := by
        intro g a0 x1 x2 x3 x4 x5 H locs ls hF hP hS hl
        unfold f7_deal_76 at hF
        refine lv_aload_n hx hb dX7_deal_76 rfl (lv_at hl 0 rfl) ?_
        refine lv_iload hx hb dX7_deal_77 (lv_at hl 4 rfl) ?_
        refine lv_iconst (v := 2) hx hb dX7_deal_79 (by decide) ?_
        refine lv_iconst (v := (-1)) hx hb dX7_deal_80 (by decide) ?_
        obtain ⟨h66, hF⟩ := g_if hF
        obtain ⟨g67, h65, hF⟩ := g_bind hF
        refine g_callv (va_runV (As := [.int x4, .int ((2 : Int32)), .int ((-1 : Int32))]) (rest := []) ⟨hx, hb, hml, hown, hts⟩ (k7_setLe l D base g a0 x4 ((2 : Int32)) ((-1 : Int32)) g67 h65) (cwV 3 hts gX7_deal_X7_setLe rfl rfl rfl (by decide +kernel) ⟨Nat.le_of_ble_eq_true rfl, Nat.le_of_ble_eq_true rfl⟩) (gC.preV hE hP hS 7 rfl (by decide) h66 [.int x4, .int ((2 : Int32)), .int ((-1 : Int32))]) rfl rfl hl.1 rfl (lv_room (Nat.le_of_ble_eq_true rfl)) dX7_deal_81 ⟨(Nat.le_of_ble_eq_true rfl), (Nat.le_of_ble_eq_true rfl)⟩) hS (fun H locs hP hS => ?_)
        refine lv_iload hx hb dX7_deal_84 (lv_at hl 5 rfl) ?_
        refine lv_if_eq (tgt := 114) hx hb dX7_deal_86 (by decide) (fun c69 => ?_) (fun c69 => ?_)
        · have hF := g_t c69 hF
          refine lv_aload_n hx hb dX7_deal_114 rfl (lv_at hl 0 rfl) ?_
          refine lv_iload hx hb dX7_deal_115 (lv_at hl 4 rfl) ?_
          refine lv_iconst (v := 1) hx hb dX7_deal_117 (by decide) ?_
          refine lv_iload_n hx hb dX7_deal_118 rfl (lv_at hl 3 rfl) ?_
          obtain ⟨h71, hF⟩ := g_if hF
          obtain ⟨g72, h70, hF⟩ := g_bind hF
          refine g_callv (va_runV (As := [.int x4, .int ((1 : Int32)), .int x3]) (rest := []) ⟨hx, hb, hml, hown, hts⟩ (k7_setLe l D base g67 a0 x4 ((1 : Int32)) x3 g72 h70) (cwV 3 hts gX7_deal_X7_setLe rfl rfl rfl (by decide +kernel) ⟨Nat.le_of_ble_eq_true rfl, Nat.le_of_ble_eq_true rfl⟩) (gC.preV hE hP hS 7 rfl (by decide) h71 [.int x4, .int ((1 : Int32)), .int x3]) rfl rfl hl.1 rfl (lv_room (Nat.le_of_ble_eq_true rfl)) dX7_deal_119 ⟨(Nat.le_of_ble_eq_true rfl), (Nat.le_of_ble_eq_true rfl)⟩) hS (fun H locs hP hS => ?_)
          exact HB122 _ _ _ _ _ _ _ _ _ hF hP hS (lv_sub hl [0, 1, 2, 3, 4] rfl)
        · have hF := g_f c69 hF
          refine lv_aload_n hx hb dX7_deal_89 rfl (lv_at hl 0 rfl) ?_
          refine lv_iload hx hb dX7_deal_90 (lv_at hl 4 rfl) ?_
          refine lv_iconst (v := 3) hx hb dX7_deal_92 (by decide) ?_
          refine lv_aload_n hx hb dX7_deal_93 rfl (lv_at hl 0 rfl) ?_
          obtain ⟨h74, hF⟩ := g_if hF
          obtain ⟨q75, hq76, hF⟩ := g_bind hF
          refine g_get hx hb hts hiX7 hown hK hP 7 rfl (by decide) h74 11 (by decide) (hts (.fieldLink RX7 29 "CourierBeesModel" "quarter" "[I") (by decide +kernel)) (fun _ h9 => h9) ((gFv_r (by decide)).trans (congrArg va_rf hq76)) dX7_deal_94 ?_
          refine lv_iconst (v := 0) hx hb dX7_deal_97 (by decide) ?_
          obtain ⟨h77, hF⟩ := g_if hF
          obtain ⟨h78, hF⟩ := g_if hF
          refine g_iald hx hb hP (g_pr h77) h78 dX7_deal_98 ?_
          obtain ⟨g80, h79, hF⟩ := g_bind hF
          refine g_callv (va_runV (As := [.int x4, .int ((3 : Int32)), .int (gI g67 q75 (Int32.toNatClampNeg ((0 : Int32))))]) (rest := []) ⟨hx, hb, hml, hown, hts⟩ (k7_setLe l D base g67 a0 x4 ((3 : Int32)) (gI g67 q75 (Int32.toNatClampNeg ((0 : Int32)))) g80 h79) (cwV 3 hts gX7_deal_X7_setLe rfl rfl rfl (by decide +kernel) ⟨Nat.le_of_ble_eq_true rfl, Nat.le_of_ble_eq_true rfl⟩) (gC.preV hE hP hS 7 rfl (by decide) h74 [.int x4, .int ((3 : Int32)), .int (gI g67 q75 (Int32.toNatClampNeg ((0 : Int32))))]) rfl rfl hl.1 rfl (lv_room (Nat.le_of_ble_eq_true rfl)) dX7_deal_99 ⟨(Nat.le_of_ble_eq_true rfl), (Nat.le_of_ble_eq_true rfl)⟩) hS (fun H locs hP hS => ?_)
          refine lv_iinc (v := x2 + (1 : Int32)) (lv' := [(2, .int (x2 + (1 : Int32))), (0, .ref a0), (1, .int x1), (3, .int x3), (4, .int x4), (5, .int x5)]) hx hb dX7_deal_102 hl (k := 2) rfl rfl (by decide) rfl (fun ls hl => ?_)
          refine lv_aload_n hx hb dX7_deal_105 rfl (lv_at hl 1 rfl) ?_
          refine lv_iload_n hx hb dX7_deal_106 rfl (lv_at hl 2 rfl) ?_
          refine lv_iconst (v := 1) hx hb dX7_deal_107 (by decide) ?_
          obtain ⟨h83, hF⟩ := g_if hF
          obtain ⟨g84, h82, hF⟩ := g_bind hF
          refine g_callv (va_runV (As := [.int x1, .int ((1 : Int32))]) (rest := []) ⟨hx, hb, hml, hown, hts⟩ (k7_honour l D base g80 a0 x1 ((1 : Int32)) g84 h82) (cwV 2 hts gX7_deal_X7_honour rfl rfl rfl (by decide +kernel) ⟨Nat.le_of_ble_eq_true rfl, Nat.le_of_ble_eq_true rfl⟩) (gC.preV hE hP hS 7 rfl (by decide) h83 [.int x1, .int ((1 : Int32))]) rfl rfl hl.1 rfl (lv_room (Nat.le_of_ble_eq_true rfl)) dX7_deal_108 ⟨(Nat.le_of_ble_eq_true rfl), (Nat.le_of_ble_eq_true rfl)⟩) hS (fun H locs hP hS => ?_)
          refine lv_goto (tgt := 122) hx hb dX7_deal_111 (by decide) ?_
          exact HB122 _ _ _ _ _ _ _ _ _ hF hP hS (lv_sub hl [1, 2, 0, 3, 4] rfl)
      have HB50 : ∀ (g : g_H) (a0 : Nat) (x1 : Int32) (x2 : Int32) (x3 : Int32) (x4 : Int32) (s0 : Int32) (H : Heap) (locs : List Loc) (ls : Array Slot), f7_deal_50 (f7_deal_11 n11) g a0 x1 x2 x3 x4 s0 = some (rr, gz) → gP base D s g H → va_S (gA base) s.heap H locs → lv_has ls 6 [(0, .ref a0), (1, .int x1), (2, .int x2), (3, .int x3), (4, .int x4)] → W p l e ({ frames := 3, cells := 0, slots := 0, locals := 71 } : Room) s m args below meth c H locs 0 0 (MQ below (gQi base D rr gz) args s 0 0 (gA base)) (F0 m 50 ls [.int s0]) := by
        intro g a0 x1 x2 x3 x4 s0 H locs ls hF hP hS hl
        unfold f7_deal_50 at hF
        refine lv_istore (lv' := [(5, .int s0), (0, .ref a0), (1, .int x1), (2, .int x2), (3, .int x3), (4, .int x4)]) hx hb dX7_deal_50 hl (by decide) rfl (fun ls hl => ?_)
        refine lv_iload hx hb dX7_deal_52 (lv_at hl 0 rfl) ?_
        refine lv_if_ne (tgt := 76) hx hb dX7_deal_54 (by decide) (fun c64 => ?_) (fun c64 => ?_)
        · have hF := g_f c64 hF
          exact HB76 _ _ _ _ _ _ _ _ _ _ hF hP hS (lv_sub hl [1, 2, 3, 4, 5, 0] rfl)
        · have hF := g_t c64 hF
          refine lv_aload_n hx hb dX7_deal_57 rfl (lv_at hl 1 rfl) ?_
          refine lv_iload_n hx hb dX7_deal_58 rfl (lv_at hl 2 rfl) ?_
          refine lv_aload_n hx hb dX7_deal_59 rfl (lv_at hl 1 rfl) ?_
          refine lv_iload hx hb dX7_deal_60 (lv_at hl 5 rfl) ?_
          refine lv_iconst (v := 0) hx hb dX7_deal_62 (by decide) ?_
          obtain ⟨h87, hF⟩ := g_if hF
          obtain ⟨v89, g88, h86, hF⟩ := g_bind2 hF
          refine g_calli (va_runV (As := [.int x4, .int ((0 : Int32))]) (rest := [.int x1, .ref a0]) ⟨hx, hb, hml, hown, hts⟩ (k7_le l D base g a0 x4 ((0 : Int32)) v89 g88 h86) (cwV 2 hts gX7_deal_X7_le rfl rfl rfl (by decide +kernel) ⟨Nat.le_of_ble_eq_true rfl, Nat.le_of_ble_eq_true rfl⟩) (gC.preV hE hP hS 7 rfl (by decide) h87 [.int x4, .int ((0 : Int32))]) rfl rfl hl.1 rfl (lv_room (Nat.le_of_ble_eq_true rfl)) dX7_deal_63 ⟨(Nat.le_of_ble_eq_true rfl), (Nat.le_of_ble_eq_true rfl)⟩) hS (fun H locs hP hS => ?_)
          obtain ⟨h91, hF⟩ := g_if hF
          obtain ⟨v93, g92, h90, hF⟩ := g_bind2 hF
          refine g_calli (va_runV (As := [.int x1, .int v89]) (rest := []) ⟨hx, hb, hml, hown, hts⟩ (k7_targetOf l D base g88 a0 x1 v89 v93 g92 h90) (cwV 2 hts gX7_deal_X7_targetOf rfl rfl rfl (by decide +kernel) ⟨Nat.le_of_ble_eq_true rfl, Nat.le_of_ble_eq_true rfl⟩) (gC.preV hE hP hS 7 rfl (by decide) h91 [.int x1, .int v89]) rfl rfl hl.1 rfl (lv_room (Nat.le_of_ble_eq_true rfl)) dX7_deal_66 ⟨(Nat.le_of_ble_eq_true rfl), (Nat.le_of_ble_eq_true rfl)⟩) hS (fun H locs hP hS => ?_)
          refine lv_iload_n hx hb dX7_deal_69 rfl (lv_at hl 4 rfl) ?_
          refine lv_icmp_eq (tgt := 76) hx hb dX7_deal_70 (by decide) (fun c94 => ?_) (fun c94 => ?_)
          · have hF := g_t c94 hF
            exact HB76 _ _ _ _ _ _ _ _ _ _ hF hP hS (lv_sub hl [1, 2, 3, 4, 5, 0] rfl)
          · have hF := g_f c94 hF
            refine lv_goto (tgt := 122) hx hb dX7_deal_73 (by decide) ?_
            exact HB122 _ _ _ _ _ _ _ _ _ hF hP hS (lv_sub hl [1, 2, 3, 4, 5] rfl)
      intro g a0 x1 x2 x3 x4 H locs ls hF hP hS hl
      have hF : f7_deal_11b (f7_deal_11 n11) g a0 x1 x2 x3 x4 = some (rr, gz) := hF
      unfold f7_deal_11b at hF
      refine lv_iload hx hb dX7_deal_11 (lv_at hl 4 rfl) ?_
      refine lv_aload_n hx hb dX7_deal_13 rfl (lv_at hl 0 rfl) ?_
      obtain ⟨h5, hF⟩ := g_if hF
      refine g_get hx hb hts hiX7 hown hK hP 7 rfl (by decide) h5 9 (by decide) (hts (.fieldLink RX7 52 "CourierBeesModel" "letters" "I") (by decide +kernel)) (fun _ h9 => h9) (gFv_i (Or.inl rfl)) dX7_deal_14 ?_
      refine lv_icmp_ge (tgt := 128) hx hb dX7_deal_17 (by decide) (fun c6 => ?_) (fun c6 => ?_)
      · have hF := g_t c6 hF
        refine lv_aload_n hx hb dX7_deal_128 rfl (lv_at hl 0 rfl) ?_
        refine lv_iload_n hx hb dX7_deal_129 rfl (lv_at hl 1 rfl) ?_
        refine lv_bipush (v := 6) hx hb dX7_deal_130 (by decide) ?_
        refine lv_aload_n hx hb dX7_deal_132 rfl (lv_at hl 0 rfl) ?_
        refine lv_iload_n hx hb dX7_deal_133 rfl (lv_at hl 1 rfl) ?_
        refine lv_bipush (v := 6) hx hb dX7_deal_134 (by decide) ?_
        obtain ⟨v9, g8, h7, hF⟩ := g_bind2 hF
        refine g_calli (va_runV (As := [.int x1, .int ((6 : Int32))]) (rest := [.int ((6 : Int32)), .int x1, .ref a0]) ⟨hx, hb, hml, hown, hts⟩ (k7_be l D base g a0 x1 ((6 : Int32)) v9 g8 h7) (cwV 2 hts gX7_deal_X7_be rfl rfl rfl (by decide +kernel) ⟨Nat.le_of_ble_eq_true rfl, Nat.le_of_ble_eq_true rfl⟩) (gC.preV hE hP hS 7 rfl (by decide) h5 [.int x1, .int ((6 : Int32))]) rfl rfl hl.1 rfl (lv_room (Nat.le_of_ble_eq_true rfl)) dX7_deal_136 ⟨(Nat.le_of_ble_eq_true rfl), (Nat.le_of_ble_eq_true rfl)⟩) hS (fun H locs hP hS => ?_)
        refine lv_iload_n hx hb dX7_deal_139 rfl (lv_at hl 2 rfl) ?_
        refine lv_iadd hx hb dX7_deal_140 ?_
        obtain ⟨h11, hF⟩ := g_if hF
        obtain ⟨g12, h10, hF⟩ := g_bind hF
        refine g_callv (va_runV (As := [.int x1, .int ((6 : Int32)), .int (v9 + x2)]) (rest := []) ⟨hx, hb, hml, hown, hts⟩ (k7_setBe l D base g8 a0 x1 ((6 : Int32)) (v9 + x2) g12 h10) (cwV 3 hts gX7_deal_X7_setBe rfl rfl rfl (by decide +kernel) ⟨Nat.le_of_ble_eq_true rfl, Nat.le_of_ble_eq_true rfl⟩) (gC.preV hE hP hS 7 rfl (by decide) h11 [.int x1, .int ((6 : Int32)), .int (v9 + x2)]) rfl rfl hl.1 rfl (lv_room (Nat.le_of_ble_eq_true rfl)) dX7_deal_141 ⟨(Nat.le_of_ble_eq_true rfl), (Nat.le_of_ble_eq_true rfl)⟩) hS (fun H locs hP hS => ?_)
        refine lv_iconst (v := 0) hx hb dX7_deal_144 (by decide) ?_
        refine lv_istore (lv' := [(4, .int ((0 : Int32))), (0, .ref a0), (1, .int x1), (2, .int x2), (3, .int x3)]) hx hb dX7_deal_145 hl (by decide) rfl (fun ls hl => ?_)
        exact HL147 300 _ _ _ _ _ _ _ _ _ hF hP hS (lv_sub hl [1, 2, 3, 4, 0] rfl)
      · have hF := g_f c6 hF
        refine lv_aload_n hx hb dX7_deal_20 rfl (lv_at hl 0 rfl) ?_
        refine lv_iload hx hb dX7_deal_21 (lv_at hl 4 rfl) ?_
        refine lv_iconst (v := 2) hx hb dX7_deal_23 (by decide) ?_
        obtain ⟨v57, g56, h55, hF⟩ := g_bind2 hF
        refine g_calli (va_runV (As := [.int x4, .int ((2 : Int32))]) (rest := []) ⟨hx, hb, hml, hown, hts⟩ (k7_le l D base g a0 x4 ((2 : Int32)) v57 g56 h55) (cwV 2 hts gX7_deal_X7_le rfl rfl rfl (by decide +kernel) ⟨Nat.le_of_ble_eq_true rfl, Nat.le_of_ble_eq_true rfl⟩) (gC.preV hE hP hS 7 rfl (by decide) h5 [.int x4, .int ((2 : Int32))]) rfl rfl hl.1 rfl (lv_room (Nat.le_of_ble_eq_true rfl)) dX7_deal_24 ⟨(Nat.le_of_ble_eq_true rfl), (Nat.le_of_ble_eq_true rfl)⟩) hS (fun H locs hP hS => ?_)
        refine lv_iload_n hx hb dX7_deal_27 rfl (lv_at hl 1 rfl) ?_
        refine lv_icmp_eq (tgt := 34) hx hb dX7_deal_28 (by decide) (fun c58 => ?_) (fun c58 => ?_)
        · have hF := g_t c58 hF
          refine lv_aload_n hx hb dX7_deal_34 rfl (lv_at hl 0 rfl) ?_
          refine lv_iload hx hb dX7_deal_35 (lv_at hl 4 rfl) ?_
          refine lv_iconst (v := 0) hx hb dX7_deal_37 (by decide) ?_
          obtain ⟨h60, hF⟩ := g_if hF
          obtain ⟨v62, g61, h59, hF⟩ := g_bind2 hF
          refine g_calli (va_runV (As := [.int x4, .int ((0 : Int32))]) (rest := []) ⟨hx, hb, hml, hown, hts⟩ (k7_le l D base g56 a0 x4 ((0 : Int32)) v62 g61 h59) (cwV 2 hts gX7_deal_X7_le rfl rfl rfl (by decide +kernel) ⟨Nat.le_of_ble_eq_true rfl, Nat.le_of_ble_eq_true rfl⟩) (gC.preV hE hP hS 7 rfl (by decide) h60 [.int x4, .int ((0 : Int32))]) rfl rfl hl.1 rfl (lv_room (Nat.le_of_ble_eq_true rfl)) dX7_deal_38 ⟨(Nat.le_of_ble_eq_true rfl), (Nat.le_of_ble_eq_true rfl)⟩) hS (fun H locs hP hS => ?_)
          refine lv_iload_n hx hb dX7_deal_41 rfl (lv_at hl 3 rfl) ?_
          refine lv_icmp_ne (tgt := 49) hx hb dX7_deal_42 (by decide) (fun c63 => ?_) (fun c63 => ?_)
          · have hF := g_f c63 hF
            refine lv_iconst (v := 0) hx hb dX7_deal_49 (by decide) ?_
            exact HB50 _ _ _ _ _ _ _ _ _ _ hF hP hS (lv_sub hl [0, 1, 2, 3, 4] rfl)
          · have hF := g_t c63 hF
            refine lv_iconst (v := 1) hx hb dX7_deal_45 (by decide) ?_
            refine lv_goto (tgt := 50) hx hb dX7_deal_46 (by decide) ?_
            exact HB50 _ _ _ _ _ _ _ _ _ _ hF hP hS (lv_sub hl [0, 1, 2, 3, 4] rfl)
        · have hF := g_f c58 hF
          refine lv_goto (tgt := 122) hx hb dX7_deal_31 (by decide) ?_
          exact HB122 _ _ _ _ _ _ _ _ _ hF hP hS (lv_sub hl [0, 1, 2, 3, 4] rfl)
  unfold f7_deal at hF
  refine lv_iconst (v := 0) hx hb dX7_deal_0 (by decide) ?_
  refine lv_istore_n (lv' := [(2, .int ((0 : Int32))), (0, .ref a0), (1, .int x1)]) hx hb dX7_deal_1 rfl hl (by decide) rfl (fun ls hl => ?_)
  refine lv_aload_n hx hb dX7_deal_2 rfl (lv_at hl 1 rfl) ?_
  refine lv_iload_n hx hb dX7_deal_3 rfl (lv_at hl 2 rfl) ?_
  obtain ⟨h2, hF⟩ := g_if hF
  obtain ⟨v4, g3, h1, hF⟩ := g_bind2 hF
  refine g_calli (va_runV (As := [.int x1]) (rest := []) ⟨hx, hb, hml, hown, hts⟩ (k7_house l D base g a0 x1 v4 g3 h1) (cwV 1 hts gX7_deal_X7_house rfl rfl rfl (by decide +kernel) ⟨Nat.le_of_ble_eq_true rfl, Nat.le_of_ble_eq_true rfl⟩) (gC.preV hE hP hS 7 rfl (by decide) h2 [.int x1]) rfl rfl hl.1 rfl (lv_room (Nat.le_of_ble_eq_true rfl)) dX7_deal_4 ⟨(Nat.le_of_ble_eq_true rfl), (Nat.le_of_ble_eq_true rfl)⟩) hS (fun H locs hP hS => ?_)
  refine lv_istore_n (lv' := [(3, .int v4), (2, .int ((0 : Int32))), (0, .ref a0), (1, .int x1)]) hx hb dX7_deal_7 rfl hl (by decide) rfl (fun ls hl => ?_)
  refine lv_iconst (v := 0) hx hb dX7_deal_8 (by decide) ?_
  refine lv_istore (lv' := [(4, .int ((0 : Int32))), (3, .int v4), (2, .int ((0 : Int32))), (0, .ref a0), (1, .int x1)]) hx hb dX7_deal_9 hl (by decide) rfl (fun ls hl => ?_)
  exact HL11 300 _ _ _ _ _ _ _ _ _ hF hP hS (lv_sub hl [3, 4, 2, 1, 0] rfl)
set_option maxHeartbeats 4000000 in
set_option maxRecDepth 100000 in
theorem k7_isOpen (l : Launch) (D : va_G) (base : Nat) (g : g_H) (a0 : Nat) (x1 : Int32) (rr : Int32) (gz : g_H) (hF : f7_isOpen g a0 x1 = some (rr, gz)) : Met l yX7_isOpen wsX7_isOpen ({ frames := 1, cells := 0, slots := 0, locals := 22 } : Room) (va_Pc [.ref a0, .int x1] (gC base D g)) (gQi base D rr gz) 0 0 (gA base) := by
  refine g_met (cc := cX7_isOpen) (maxL := 2) (ret := (some .boolean)) (lst := [(0, .ref a0), (1, .int x1)]) (by decide) rfl (Nat.le_of_ble_eq_true rfl) rfl ?_
  intro p e s m args below meth c ls hx hb hr hml hown hlocks hname hts hE hP hl
  have hown : s.vm.findClass RX7 = some m.cls := hown
  have hK := hE.1
  have hov := hE.2.2.2.2.2.2.2.1
  have hbz := hE.2.2.2.2.2.2.2.2.2.2.2.2
  have hS : va_S (gA base) s.heap s.heap [] := va_S.rf
  have hiX7 : ∀ w ∈ wsX70, w ∈ wsX7_isOpen := by decide +kernel
  unfold f7_isOpen at hF
  refine lv_aload_n hx hb dX7_isOpen_0 rfl (lv_at hl 0 rfl) ?_
  obtain ⟨h1, hF⟩ := g_if hF
  obtain ⟨q2, hq3, hF⟩ := g_bind hF
  refine g_get hx hb hts hiX7 hown hK hP 7 rfl (by decide) h1 11 (by decide) (hts (.fieldLink RX7 29 "CourierBeesModel" "quarter" "[I") (by decide +kernel)) (fun _ h9 => h9) ((gFv_r (by decide)).trans (congrArg va_rf hq3)) dX7_isOpen_1 ?_
  refine lv_iconst (v := 0) hx hb dX7_isOpen_4 (by decide) ?_
  obtain ⟨h4, hF⟩ := g_if hF
  obtain ⟨h5, hF⟩ := g_if hF
  refine g_iald hx hb hP (g_pr h4) h5 dX7_isOpen_5 ?_
  refine lv_bipush (v := 24) hx hb dX7_isOpen_6 (by decide) ?_
  refine lv_irem hx hb dX7_isOpen_8 (by decide) ?_
  refine lv_aload_n hx hb dX7_isOpen_9 rfl (lv_at hl 0 rfl) ?_
  refine lv_iload_n hx hb dX7_isOpen_10 rfl (lv_at hl 1 rfl) ?_
  refine lv_iconst (v := 3) hx hb dX7_isOpen_11 (by decide) ?_
  obtain ⟨v8, g7, h6, hF⟩ := g_bind2 hF
  refine g_calli (va_runV (As := [.int x1, .int ((3 : Int32))]) (rest := [.int ((gI g q2 (Int32.toNatClampNeg ((0 : Int32)))) - (gI g q2 (Int32.toNatClampNeg ((0 : Int32)))) / (24 : Int32) * (24 : Int32))]) ⟨hx, hb, hml, hown, hts⟩ (k7_ro l D base g a0 x1 ((3 : Int32)) v8 g7 h6) (cwV 2 hts gX7_isOpen_X7_ro rfl rfl rfl (by decide +kernel) ⟨Nat.le_of_ble_eq_true rfl, Nat.le_of_ble_eq_true rfl⟩) (gC.preV hE hP hS 7 rfl (by decide) h1 [.int x1, .int ((3 : Int32))]) rfl rfl hl.1 rfl (lv_room (Nat.le_of_ble_eq_true rfl)) dX7_isOpen_12 ⟨(Nat.le_of_ble_eq_true rfl), (Nat.le_of_ble_eq_true rfl)⟩) hS (fun H locs hP hS => ?_)
  refine lv_aload_n hx hb dX7_isOpen_15 rfl (lv_at hl 0 rfl) ?_
  refine lv_iload_n hx hb dX7_isOpen_16 rfl (lv_at hl 1 rfl) ?_
  refine lv_iconst (v := 4) hx hb dX7_isOpen_17 (by decide) ?_
  obtain ⟨h10, hF⟩ := g_if hF
  obtain ⟨v12, g11, h9, hF⟩ := g_bind2 hF
  refine g_calli (va_runV (As := [.int x1, .int ((4 : Int32))]) (rest := [.int v8, .int ((gI g q2 (Int32.toNatClampNeg ((0 : Int32)))) - (gI g q2 (Int32.toNatClampNeg ((0 : Int32)))) / (24 : Int32) * (24 : Int32))]) ⟨hx, hb, hml, hown, hts⟩ (k7_ro l D base g7 a0 x1 ((4 : Int32)) v12 g11 h9) (cwV 2 hts gX7_isOpen_X7_ro rfl rfl rfl (by decide +kernel) ⟨Nat.le_of_ble_eq_true rfl, Nat.le_of_ble_eq_true rfl⟩) (gC.preV hE hP hS 7 rfl (by decide) h10 [.int x1, .int ((4 : Int32))]) rfl rfl hl.1 rfl (lv_room (Nat.le_of_ble_eq_true rfl)) dX7_isOpen_18 ⟨(Nat.le_of_ble_eq_true rfl), (Nat.le_of_ble_eq_true rfl)⟩) hS (fun H locs hP hS => ?_)
  refine lv_iconst (v := 1) hx hb dX7_isOpen_21 (by decide) ?_
  refine lv_isub hx hb dX7_isOpen_22 ?_
  obtain ⟨v15, g14, h13, hF⟩ := g_bind2 hF
  refine g_calli (va_runS (As := [.int ((gI g q2 (Int32.toNatClampNeg ((0 : Int32)))) - (gI g q2 (Int32.toNatClampNeg ((0 : Int32)))) / (24 : Int32) * (24 : Int32)), .int v8, .int (v12 - ((1 : Int32)))]) (rest := []) ⟨hx, hb, hml, hown, hts⟩ (k7_isIn l D base g11 ((gI g q2 (Int32.toNatClampNeg ((0 : Int32)))) - (gI g q2 (Int32.toNatClampNeg ((0 : Int32)))) / (24 : Int32) * (24 : Int32)) v8 (v12 - ((1 : Int32))) v15 g14 h13) (va_cwS 3 hts gX7_isOpen_X7_isIn rfl rfl rfl (by decide +kernel) ⟨Nat.le_of_ble_eq_true rfl, Nat.le_of_ble_eq_true rfl⟩) (gC.preS hE hP hS [.int ((gI g q2 (Int32.toNatClampNeg ((0 : Int32)))) - (gI g q2 (Int32.toNatClampNeg ((0 : Int32)))) / (24 : Int32) * (24 : Int32)), .int v8, .int (v12 - ((1 : Int32)))]) rfl rfl hl.1 rfl (lv_room (Nat.le_of_ble_eq_true rfl)) dX7_isOpen_23 ⟨(Nat.le_of_ble_eq_true rfl), (Nat.le_of_ble_eq_true rfl)⟩) hS (fun H locs hP hS => ?_)
  obtain ⟨h16, hF⟩ := g_if hF
  exact g_retZ hx hb hr h16 hlocks hF hP hS (Nat.le_of_ble_eq_true rfl) (Nat.le_of_ble_eq_true rfl) dX7_isOpen_26
end
section
set_option maxHeartbeats 4000000 in
set_option maxRecDepth 100000 in
theorem k7_strengthen (l : Launch) (D : va_G) (base : Nat) (g : g_H) (a0 : Nat) (x1 : Int32) (x2 : Int32) (gz : g_H) (hF : f7_strengthen g a0 x1 x2 = some gz) : Met l yX7_strengthen wsX7_strengthen ({ frames := 1, cells := 0, slots := 0, locals := 24 } : Room) (va_Pc [.ref a0, .int x1, .int x2] (gC base D g)) (gQv base D gz) 0 0 (gA base) := by
  refine g_met (cc := cX7_strengthen) (maxL := 3) (ret := none) (lst := [(0, .ref a0), (1, .int x1), (2, .int x2)]) (by decide) rfl (Nat.le_of_ble_eq_true rfl) rfl ?_
  intro p e s m args below meth c ls hx hb hr hml hown hlocks hname hts hE hP hl
  have hown : s.vm.findClass RX7 = some m.cls := hown
  have hK := hE.1
  have hov := hE.2.2.2.2.2.2.2.1
  have hbz := hE.2.2.2.2.2.2.2.2.2.2.2.2
  have hS : va_S (gA base) s.heap s.heap [] := va_S.rf
  unfold f7_strengthen at hF
  refine lv_aload_n hx hb dX7_strengthen_0 rfl (lv_at hl 0 rfl) ?_
  refine lv_iload_n hx hb dX7_strengthen_1 rfl (lv_at hl 1 rfl) ?_
  refine lv_iconst (v := 2) hx hb dX7_strengthen_2 (by decide) ?_
  refine lv_bipush (v := 30) hx hb dX7_strengthen_3 (by decide) ?_
  refine lv_aload_n hx hb dX7_strengthen_5 rfl (lv_at hl 0 rfl) ?_
  refine lv_iload_n hx hb dX7_strengthen_6 rfl (lv_at hl 1 rfl) ?_
  refine lv_iconst (v := 2) hx hb dX7_strengthen_7 (by decide) ?_
  obtain ⟨h2, hF⟩ := g_if hF
  obtain ⟨v4, g3, h1, hF⟩ := g_bind2 hF
  refine g_calli (va_runV (As := [.int x1, .int ((2 : Int32))]) (rest := [.int ((30 : Int32)), .int ((2 : Int32)), .int x1, .ref a0]) ⟨hx, hb, hml, hown, hts⟩ (k7_be l D base g a0 x1 ((2 : Int32)) v4 g3 h1) (cwV 2 hts gX7_strengthen_X7_be rfl rfl rfl (by decide +kernel) ⟨Nat.le_of_ble_eq_true rfl, Nat.le_of_ble_eq_true rfl⟩) (gC.preV hE hP hS 7 rfl (by decide) h2 [.int x1, .int ((2 : Int32))]) rfl rfl hl.1 rfl (lv_room (Nat.le_of_ble_eq_true rfl)) dX7_strengthen_8 ⟨(Nat.le_of_ble_eq_true rfl), (Nat.le_of_ble_eq_true rfl)⟩) hS (fun H locs hP hS => ?_)
  refine lv_iload_n hx hb dX7_strengthen_11 rfl (lv_at hl 2 rfl) ?_
  refine lv_iadd hx hb dX7_strengthen_12 ?_
  refine va_mmin hx hb (hml.trans hl.1.symm) hown (hts (.methodLink RX7 70 Lib.Math.min.name) (by decide +kernel)) (hts (.static Lib.Math.min.name) (by decide +kernel)) (hts (.initialized "java/lang/Math") (by decide +kernel)) (hts (.code Lib.Math.min.name Lib.Math.min.code 2 (some .int)) (by decide +kernel)) (Nat.le_of_ble_eq_true rfl) (Nat.le_of_ble_eq_true rfl) (Nat.le_of_ble_eq_true rfl) (Nat.le_of_ble_eq_true rfl) dX7_strengthen_13 ?_
  obtain ⟨h6, hF⟩ := g_if hF
  obtain ⟨g7, h5, hF⟩ := g_bind hF
  refine g_callv (va_runV (As := [.int x1, .int ((2 : Int32)), .int (if (v4 + x2) < ((30 : Int32)) then (v4 + x2) else ((30 : Int32)))]) (rest := []) ⟨hx, hb, hml, hown, hts⟩ (k7_setBe l D base g3 a0 x1 ((2 : Int32)) (if (v4 + x2) < ((30 : Int32)) then (v4 + x2) else ((30 : Int32))) g7 h5) (cwV 3 hts gX7_strengthen_X7_setBe rfl rfl rfl (by decide +kernel) ⟨Nat.le_of_ble_eq_true rfl, Nat.le_of_ble_eq_true rfl⟩) (gC.preV hE hP hS 7 rfl (by decide) h6 [.int x1, .int ((2 : Int32)), .int (if (v4 + x2) < ((30 : Int32)) then (v4 + x2) else ((30 : Int32)))]) rfl rfl hl.1 rfl (lv_room (Nat.le_of_ble_eq_true rfl)) dX7_strengthen_16 ⟨(Nat.le_of_ble_eq_true rfl), (Nat.le_of_ble_eq_true rfl)⟩) hS (fun H locs hP hS => ?_)
  exact g_retV hx hb hr hlocks hF hP hS (Nat.le_of_ble_eq_true rfl) (Nat.le_of_ble_eq_true rfl) dX7_strengthen_19
set_option maxHeartbeats 4000000 in
set_option maxRecDepth 100000 in
theorem k7_fly (l : Launch) (D : va_G) (base : Nat) (g : g_H) (a0 : Nat) (x1 : Int32) (gz : g_H) (hF : f7_fly g a0 x1 = some gz) : Met l yX7_fly wsX7_fly ({ frames := 2, cells := 0, slots := 0, locals := 47 } : Room) (va_Pc [.ref a0, .int x1] (gC base D g)) (gQv base D gz) 0 0 (gA base) := by
  refine g_met (cc := cX7_fly) (maxL := 4) (ret := none) (lst := [(0, .ref a0), (1, .int x1)]) (by decide) rfl (Nat.le_of_ble_eq_true rfl) rfl ?_
  intro p e s m args below meth c ls hx hb hr hml hown hlocks hname hts hE hP hl
  have hown : s.vm.findClass RX7 = some m.cls := hown
  have hK := hE.1
  have hov := hE.2.2.2.2.2.2.2.1
  have hbz := hE.2.2.2.2.2.2.2.2.2.2.2.2
  have hS : va_S (gA base) s.heap s.heap [] := va_S.rf
  have hiX7 : ∀ w ∈ wsX70, w ∈ wsX7_fly := by decide +kernel
  have HB194 : ∀ (g : g_H) (a0 : Nat) (x1 : Int32) (H : Heap) (locs : List Loc) (ls : Array Slot), f7_fly_194 g a0 x1 = some gz → gP base D s g H → va_S (gA base) s.heap H locs → lv_has ls 4 [(0, .ref a0), (1, .int x1)] → W p l e ({ frames := 2, cells := 0, slots := 0, locals := 47 } : Room) s m args below meth c H locs 0 0 (MQ below (gQv base D gz) args s 0 0 (gA base)) (F0 m 194 ls []) := by
    intro g a0 x1 H locs ls hF hP hS hl
    unfold f7_fly_194 at hF
    refine lv_aload_n hx hb dX7_fly_194 rfl (lv_at hl 0 rfl) ?_
    refine lv_iload_n hx hb dX7_fly_195 rfl (lv_at hl 1 rfl) ?_
    refine lv_iconst (v := 1) hx hb dX7_fly_196 (by decide) ?_
    obtain ⟨h57, hF⟩ := g_if hF
    obtain ⟨g58, h56, hF⟩ := g_bind hF
    refine g_callv (va_runV (As := [.int x1, .int ((1 : Int32))]) (rest := []) ⟨hx, hb, hml, hown, hts⟩ (k7_strengthen l D base g a0 x1 ((1 : Int32)) g58 h56) (cwV 2 hts gX7_fly_X7_strengthen rfl rfl rfl (by decide +kernel) ⟨Nat.le_of_ble_eq_true rfl, Nat.le_of_ble_eq_true rfl⟩) (gC.preV hE hP hS 7 rfl (by decide) h57 [.int x1, .int ((1 : Int32))]) rfl rfl hl.1 rfl (lv_room (Nat.le_of_ble_eq_true rfl)) dX7_fly_197 ⟨(Nat.le_of_ble_eq_true rfl), (Nat.le_of_ble_eq_true rfl)⟩) hS (fun H locs hP hS => ?_)
    exact g_retV hx hb hr hlocks hF hP hS (Nat.le_of_ble_eq_true rfl) (Nat.le_of_ble_eq_true rfl) dX7_fly_200
  have HB148 : ∀ (g : g_H) (a0 : Nat) (x1 : Int32) (s0 : Int32) (s1 : Int32) (H : Heap) (locs : List Loc) (ls : Array Slot), f7_fly_148 g a0 x1 s0 s1 = some gz → gP base D s g H → va_S (gA base) s.heap H locs → lv_has ls 4 [(0, .ref a0), (1, .int x1)] → W p l e ({ frames := 2, cells := 0, slots := 0, locals := 47 } : Room) s m args below meth c H locs 0 0 (MQ below (gQv base D gz) args s 0 0 (gA base)) (F0 m 148 ls [.int s1, .int s0]) := by
    intro g a0 x1 s0 s1 H locs ls hF hP hS hl
    unfold f7_fly_148 at hF
    refine lv_iadd hx hb dX7_fly_148 ?_
    refine lv_istore_n (lv' := [(2, .int (s0 + s1)), (0, .ref a0), (1, .int x1)]) hx hb dX7_fly_149 rfl hl (by decide) rfl (fun ls hl => ?_)
    refine lv_aload_n hx hb dX7_fly_150 rfl (lv_at hl 1 rfl) ?_
    refine lv_aload_n hx hb dX7_fly_151 rfl (lv_at hl 1 rfl) ?_
    refine lv_iload_n hx hb dX7_fly_152 rfl (lv_at hl 2 rfl) ?_
    obtain ⟨h40, hF⟩ := g_if hF
    obtain ⟨v42, g41, h39, hF⟩ := g_bind2 hF
    refine g_calli (va_runV (As := [.int x1]) (rest := [.ref a0]) ⟨hx, hb, hml, hown, hts⟩ (k7_house l D base g a0 x1 v42 g41 h39) (cwV 1 hts gX7_fly_X7_house rfl rfl rfl (by decide +kernel) ⟨Nat.le_of_ble_eq_true rfl, Nat.le_of_ble_eq_true rfl⟩) (gC.preV hE hP hS 7 rfl (by decide) h40 [.int x1]) rfl rfl hl.1 rfl (lv_room (Nat.le_of_ble_eq_true rfl)) dX7_fly_153 ⟨(Nat.le_of_ble_eq_true rfl), (Nat.le_of_ble_eq_true rfl)⟩) hS (fun H locs hP hS => ?_)
    refine lv_aload_n hx hb dX7_fly_156 rfl (lv_at hl 1 rfl) ?_
    obtain ⟨h43, hF⟩ := g_if hF
    obtain ⟨q44, hq45, hF⟩ := g_bind hF
    refine g_get hx hb hts hiX7 hown hK hP 7 rfl (by decide) h43 8 (by decide) (hts (.fieldLink RX7 23 "CourierBeesModel" "routes" "[I") (by decide +kernel)) (fun _ h9 => h9) ((gFv_r (by decide)).trans (congrArg va_rf hq45)) dX7_fly_157 ?_
    refine lv_bipush (v := 7) hx hb dX7_fly_160 (by decide) ?_
    refine lv_iload_n hx hb dX7_fly_162 rfl (lv_at hl 2 rfl) ?_
    refine lv_imul hx hb dX7_fly_163 ?_
    refine lv_iload_n hx hb dX7_fly_164 rfl (lv_at hl 0 rfl) ?_
    refine lv_iadd hx hb dX7_fly_165 ?_
    obtain ⟨h46, hF⟩ := g_if hF
    obtain ⟨h47, hF⟩ := g_if hF
    refine g_iald hx hb hP (g_pr h46) h47 dX7_fly_166 ?_
    obtain ⟨v50, g49, h48, hF⟩ := g_bind2 hF
    refine g_calli (va_runV (As := [.int v42, .int (gI g41 q44 (Int32.toNatClampNeg ((((7 : Int32)) * x1) + (s0 + s1))))]) (rest := []) ⟨hx, hb, hml, hown, hts⟩ (k7_lane l D base g41 a0 v42 (gI g41 q44 (Int32.toNatClampNeg ((((7 : Int32)) * x1) + (s0 + s1)))) v50 g49 h48) (cwV 2 hts gX7_fly_X7_lane rfl rfl rfl (by decide +kernel) ⟨Nat.le_of_ble_eq_true rfl, Nat.le_of_ble_eq_true rfl⟩) (gC.preV hE hP hS 7 rfl (by decide) h43 [.int v42, .int (gI g41 q44 (Int32.toNatClampNeg ((((7 : Int32)) * x1) + (s0 + s1))))]) rfl rfl hl.1 rfl (lv_room (Nat.le_of_ble_eq_true rfl)) dX7_fly_167 ⟨(Nat.le_of_ble_eq_true rfl), (Nat.le_of_ble_eq_true rfl)⟩) hS (fun H locs hP hS => ?_)
    refine lv_istore_n (lv' := [(3, .int v50), (2, .int (s0 + s1)), (0, .ref a0), (1, .int x1)]) hx hb dX7_fly_170 rfl hl (by decide) rfl (fun ls hl => ?_)
    refine lv_aload_n hx hb dX7_fly_171 rfl (lv_at hl 2 rfl) ?_
    refine lv_iload_n hx hb dX7_fly_172 rfl (lv_at hl 0 rfl) ?_
    obtain ⟨h52, hF⟩ := g_if hF
    obtain ⟨v54, g53, h51, hF⟩ := g_bind2 hF
    refine g_calli (va_runV (As := [.int v50]) (rest := []) ⟨hx, hb, hml, hown, hts⟩ (k7_isOpen l D base g49 a0 v50 v54 g53 h51) (cwV 1 hts gX7_fly_X7_isOpen rfl rfl rfl (by decide +kernel) ⟨Nat.le_of_ble_eq_true rfl, Nat.le_of_ble_eq_true rfl⟩) (gC.preV hE hP hS 7 rfl (by decide) h52 [.int v50]) rfl rfl hl.1 rfl (lv_room (Nat.le_of_ble_eq_true rfl)) dX7_fly_173 ⟨(Nat.le_of_ble_eq_true rfl), (Nat.le_of_ble_eq_true rfl)⟩) hS (fun H locs hP hS => ?_)
    refine lv_if_eq (tgt := 194) hx hb dX7_fly_176 (by decide) (fun c55 => ?_) (fun c55 => ?_)
    · have hF := g_t c55 hF
      exact HB194 _ _ _ _ _ _ hF hP hS (lv_sub hl [2, 3] rfl)
    · have hF := g_f c55 hF
      refine lv_aload_n hx hb dX7_fly_179 rfl (lv_at hl 2 rfl) ?_
      refine lv_iload_n hx hb dX7_fly_180 rfl (lv_at hl 3 rfl) ?_
      refine lv_iconst (v := 2) hx hb dX7_fly_181 (by decide) ?_
      obtain ⟨h61, hF⟩ := g_if hF
      obtain ⟨v63, g62, h60, hF⟩ := g_bind2 hF
      refine g_calli (va_runV (As := [.int x1, .int ((2 : Int32))]) (rest := []) ⟨hx, hb, hml, hown, hts⟩ (k7_be l D base g53 a0 x1 ((2 : Int32)) v63 g62 h60) (cwV 2 hts gX7_fly_X7_be rfl rfl rfl (by decide +kernel) ⟨Nat.le_of_ble_eq_true rfl, Nat.le_of_ble_eq_true rfl⟩) (gC.preV hE hP hS 7 rfl (by decide) h61 [.int x1, .int ((2 : Int32))]) rfl rfl hl.1 rfl (lv_room (Nat.le_of_ble_eq_true rfl)) dX7_fly_182 ⟨(Nat.le_of_ble_eq_true rfl), (Nat.le_of_ble_eq_true rfl)⟩) hS (fun H locs hP hS => ?_)
      refine lv_aload_n hx hb dX7_fly_185 rfl (lv_at hl 2 rfl) ?_
      refine lv_iload_n hx hb dX7_fly_186 rfl (lv_at hl 0 rfl) ?_
      refine lv_iconst (v := 2) hx hb dX7_fly_187 (by decide) ?_
      obtain ⟨h65, hF⟩ := g_if hF
      obtain ⟨v67, g66, h64, hF⟩ := g_bind2 hF
      refine g_calli (va_runV (As := [.int v50, .int ((2 : Int32))]) (rest := [.int v63]) ⟨hx, hb, hml, hown, hts⟩ (k7_ro l D base g62 a0 v50 ((2 : Int32)) v67 g66 h64) (cwV 2 hts gX7_fly_X7_ro rfl rfl rfl (by decide +kernel) ⟨Nat.le_of_ble_eq_true rfl, Nat.le_of_ble_eq_true rfl⟩) (gC.preV hE hP hS 7 rfl (by decide) h65 [.int v50, .int ((2 : Int32))]) rfl rfl hl.1 rfl (lv_room (Nat.le_of_ble_eq_true rfl)) dX7_fly_188 ⟨(Nat.le_of_ble_eq_true rfl), (Nat.le_of_ble_eq_true rfl)⟩) hS (fun H locs hP hS => ?_)
      refine lv_icmp_ge (tgt := 201) hx hb dX7_fly_191 (by decide) (fun c68 => ?_) (fun c68 => ?_)
      · have hF := g_t c68 hF
        refine lv_aload_n hx hb dX7_fly_201 rfl (lv_at hl 2 rfl) ?_
        refine lv_iload_n hx hb dX7_fly_202 rfl (lv_at hl 3 rfl) ?_
        refine lv_iconst (v := 0) hx hb dX7_fly_203 (by decide) ?_
        refine lv_iload_n hx hb dX7_fly_204 rfl (lv_at hl 1 rfl) ?_
        obtain ⟨h70, hF⟩ := g_if hF
        obtain ⟨g71, h69, hF⟩ := g_bind hF
        refine g_callv (va_runV (As := [.int x1, .int ((0 : Int32)), .int (s0 + s1)]) (rest := []) ⟨hx, hb, hml, hown, hts⟩ (k7_setBe l D base g66 a0 x1 ((0 : Int32)) (s0 + s1) g71 h69) (cwV 3 hts gX7_fly_X7_setBe rfl rfl rfl (by decide +kernel) ⟨Nat.le_of_ble_eq_true rfl, Nat.le_of_ble_eq_true rfl⟩) (gC.preV hE hP hS 7 rfl (by decide) h70 [.int x1, .int ((0 : Int32)), .int (s0 + s1)]) rfl rfl hl.1 rfl (lv_room (Nat.le_of_ble_eq_true rfl)) dX7_fly_205 ⟨(Nat.le_of_ble_eq_true rfl), (Nat.le_of_ble_eq_true rfl)⟩) hS (fun H locs hP hS => ?_)
        refine lv_aload_n hx hb dX7_fly_208 rfl (lv_at hl 2 rfl) ?_
        refine lv_iload_n hx hb dX7_fly_209 rfl (lv_at hl 3 rfl) ?_
        refine lv_iconst (v := 1) hx hb dX7_fly_210 (by decide) ?_
        refine lv_aload_n hx hb dX7_fly_211 rfl (lv_at hl 2 rfl) ?_
        refine lv_iload_n hx hb dX7_fly_212 rfl (lv_at hl 0 rfl) ?_
        refine lv_iconst (v := 2) hx hb dX7_fly_213 (by decide) ?_
        obtain ⟨h74, hF⟩ := g_if hF
        obtain ⟨v76, g75, h73, hF⟩ := g_bind2 hF
        refine g_calli (va_runV (As := [.int v50, .int ((2 : Int32))]) (rest := [.int ((1 : Int32)), .int x1, .ref a0]) ⟨hx, hb, hml, hown, hts⟩ (k7_ro l D base g71 a0 v50 ((2 : Int32)) v76 g75 h73) (cwV 2 hts gX7_fly_X7_ro rfl rfl rfl (by decide +kernel) ⟨Nat.le_of_ble_eq_true rfl, Nat.le_of_ble_eq_true rfl⟩) (gC.preV hE hP hS 7 rfl (by decide) h74 [.int v50, .int ((2 : Int32))]) rfl rfl hl.1 rfl (lv_room (Nat.le_of_ble_eq_true rfl)) dX7_fly_214 ⟨(Nat.le_of_ble_eq_true rfl), (Nat.le_of_ble_eq_true rfl)⟩) hS (fun H locs hP hS => ?_)
        obtain ⟨h78, hF⟩ := g_if hF
        obtain ⟨g79, h77, hF⟩ := g_bind hF
        refine g_callv (va_runV (As := [.int x1, .int ((1 : Int32)), .int v76]) (rest := []) ⟨hx, hb, hml, hown, hts⟩ (k7_setBe l D base g75 a0 x1 ((1 : Int32)) v76 g79 h77) (cwV 3 hts gX7_fly_X7_setBe rfl rfl rfl (by decide +kernel) ⟨Nat.le_of_ble_eq_true rfl, Nat.le_of_ble_eq_true rfl⟩) (gC.preV hE hP hS 7 rfl (by decide) h78 [.int x1, .int ((1 : Int32)), .int v76]) rfl rfl hl.1 rfl (lv_room (Nat.le_of_ble_eq_true rfl)) dX7_fly_217 ⟨(Nat.le_of_ble_eq_true rfl), (Nat.le_of_ble_eq_true rfl)⟩) hS (fun H locs hP hS => ?_)
        refine lv_aload_n hx hb dX7_fly_220 rfl (lv_at hl 2 rfl) ?_
        refine lv_iload_n hx hb dX7_fly_221 rfl (lv_at hl 3 rfl) ?_
        refine lv_aload_n hx hb dX7_fly_222 rfl (lv_at hl 2 rfl) ?_
        refine lv_iload_n hx hb dX7_fly_223 rfl (lv_at hl 0 rfl) ?_
        refine lv_iconst (v := 2) hx hb dX7_fly_224 (by decide) ?_
        obtain ⟨h82, hF⟩ := g_if hF
        obtain ⟨v84, g83, h81, hF⟩ := g_bind2 hF
        refine g_calli (va_runV (As := [.int v50, .int ((2 : Int32))]) (rest := [.int x1, .ref a0]) ⟨hx, hb, hml, hown, hts⟩ (k7_ro l D base g79 a0 v50 ((2 : Int32)) v84 g83 h81) (cwV 2 hts gX7_fly_X7_ro rfl rfl rfl (by decide +kernel) ⟨Nat.le_of_ble_eq_true rfl, Nat.le_of_ble_eq_true rfl⟩) (gC.preV hE hP hS 7 rfl (by decide) h82 [.int v50, .int ((2 : Int32))]) rfl rfl hl.1 rfl (lv_room (Nat.le_of_ble_eq_true rfl)) dX7_fly_225 ⟨(Nat.le_of_ble_eq_true rfl), (Nat.le_of_ble_eq_true rfl)⟩) hS (fun H locs hP hS => ?_)
        refine lv_ineg hx hb dX7_fly_228 ?_
        obtain ⟨h86, hF⟩ := g_if hF
        obtain ⟨g87, h85, hF⟩ := g_bind hF
        refine g_callv (va_runV (As := [.int x1, .int (-v84)]) (rest := []) ⟨hx, hb, hml, hown, hts⟩ (k7_strengthen l D base g83 a0 x1 (-v84) g87 h85) (cwV 2 hts gX7_fly_X7_strengthen rfl rfl rfl (by decide +kernel) ⟨Nat.le_of_ble_eq_true rfl, Nat.le_of_ble_eq_true rfl⟩) (gC.preV hE hP hS 7 rfl (by decide) h86 [.int x1, .int (-v84)]) rfl rfl hl.1 rfl (lv_room (Nat.le_of_ble_eq_true rfl)) dX7_fly_229 ⟨(Nat.le_of_ble_eq_true rfl), (Nat.le_of_ble_eq_true rfl)⟩) hS (fun H locs hP hS => ?_)
        exact g_retV hx hb hr hlocks hF hP hS (Nat.le_of_ble_eq_true rfl) (Nat.le_of_ble_eq_true rfl) dX7_fly_232
      · have hF := g_f c68 hF
        exact HB194 _ _ _ _ _ _ hF hP hS (lv_sub hl [2, 3] rfl)
  have HB126 : ∀ (g : g_H) (a0 : Nat) (x1 : Int32) (H : Heap) (locs : List Loc) (ls : Array Slot), f7_fly_126 g a0 x1 = some gz → gP base D s g H → va_S (gA base) s.heap H locs → lv_has ls 4 [(0, .ref a0), (1, .int x1)] → W p l e ({ frames := 2, cells := 0, slots := 0, locals := 47 } : Room) s m args below meth c H locs 0 0 (MQ below (gQv base D gz) args s 0 0 (gA base)) (F0 m 126 ls []) := by
    intro g a0 x1 H locs ls hF hP hS hl
    unfold f7_fly_126 at hF
    refine lv_aload_n hx hb dX7_fly_126 rfl (lv_at hl 0 rfl) ?_
    refine lv_iload_n hx hb dX7_fly_127 rfl (lv_at hl 1 rfl) ?_
    refine lv_iconst (v := 0) hx hb dX7_fly_128 (by decide) ?_
    obtain ⟨h31, hF⟩ := g_if hF
    obtain ⟨v33, g32, h30, hF⟩ := g_bind2 hF
    refine g_calli (va_runV (As := [.int x1, .int ((0 : Int32))]) (rest := []) ⟨hx, hb, hml, hown, hts⟩ (k7_be l D base g a0 x1 ((0 : Int32)) v33 g32 h30) (cwV 2 hts gX7_fly_X7_be rfl rfl rfl (by decide +kernel) ⟨Nat.le_of_ble_eq_true rfl, Nat.le_of_ble_eq_true rfl⟩) (gC.preV hE hP hS 7 rfl (by decide) h31 [.int x1, .int ((0 : Int32))]) rfl rfl hl.1 rfl (lv_room (Nat.le_of_ble_eq_true rfl)) dX7_fly_129 ⟨(Nat.le_of_ble_eq_true rfl), (Nat.le_of_ble_eq_true rfl)⟩) hS (fun H locs hP hS => ?_)
    refine lv_aload_n hx hb dX7_fly_132 rfl (lv_at hl 0 rfl) ?_
    refine lv_iload_n hx hb dX7_fly_133 rfl (lv_at hl 1 rfl) ?_
    refine lv_bipush (v := 7) hx hb dX7_fly_134 (by decide) ?_
    obtain ⟨h35, hF⟩ := g_if hF
    obtain ⟨v37, g36, h34, hF⟩ := g_bind2 hF
    refine g_calli (va_runV (As := [.int x1, .int ((7 : Int32))]) (rest := [.int v33]) ⟨hx, hb, hml, hown, hts⟩ (k7_be l D base g32 a0 x1 ((7 : Int32)) v37 g36 h34) (cwV 2 hts gX7_fly_X7_be rfl rfl rfl (by decide +kernel) ⟨Nat.le_of_ble_eq_true rfl, Nat.le_of_ble_eq_true rfl⟩) (gC.preV hE hP hS 7 rfl (by decide) h35 [.int x1, .int ((7 : Int32))]) rfl rfl hl.1 rfl (lv_room (Nat.le_of_ble_eq_true rfl)) dX7_fly_136 ⟨(Nat.le_of_ble_eq_true rfl), (Nat.le_of_ble_eq_true rfl)⟩) hS (fun H locs hP hS => ?_)
    refine lv_iconst (v := 1) hx hb dX7_fly_139 (by decide) ?_
    refine lv_icmp_ne (tgt := 147) hx hb dX7_fly_140 (by decide) (fun c38 => ?_) (fun c38 => ?_)
    · have hF := g_f c38 hF
      refine lv_iconst (v := (-1)) hx hb dX7_fly_147 (by decide) ?_
      exact HB148 _ _ _ _ _ _ _ _ hF hP hS (lv_sub hl [0, 1] rfl)
    · have hF := g_t c38 hF
      refine lv_iconst (v := 1) hx hb dX7_fly_143 (by decide) ?_
      refine lv_goto (tgt := 148) hx hb dX7_fly_144 (by decide) ?_
      exact HB148 _ _ _ _ _ _ _ _ hF hP hS (lv_sub hl [0, 1] rfl)
  have HB107 : ∀ (g : g_H) (a0 : Nat) (x1 : Int32) (s0 : Int32) (s1 : Int32) (H : Heap) (locs : List Loc) (ls : Array Slot), f7_fly_107 g a0 x1 s0 s1 = some gz → gP base D s g H → va_S (gA base) s.heap H locs → lv_has ls 4 [(0, .ref a0), (1, .int x1)] → W p l e ({ frames := 2, cells := 0, slots := 0, locals := 47 } : Room) s m args below meth c H locs 0 0 (MQ below (gQv base D gz) args s 0 0 (gA base)) (F0 m 107 ls [.int s1, .int s0]) := by
    intro g a0 x1 s0 s1 H locs ls hF hP hS hl
    unfold f7_fly_107 at hF
    refine lv_icmp_ne (tgt := 126) hx hb dX7_fly_107 (by decide) (fun c29 => ?_) (fun c29 => ?_)
    · have hF := g_f c29 hF
      exact HB126 _ _ _ _ _ _ hF hP hS (lv_sub hl [0, 1] rfl)
    · have hF := g_t c29 hF
      refine lv_aload_n hx hb dX7_fly_110 rfl (lv_at hl 0 rfl) ?_
      refine lv_iload_n hx hb dX7_fly_111 rfl (lv_at hl 1 rfl) ?_
      refine lv_bipush (v := 7) hx hb dX7_fly_112 (by decide) ?_
      refine lv_iconst (v := 1) hx hb dX7_fly_114 (by decide) ?_
      refine lv_aload_n hx hb dX7_fly_115 rfl (lv_at hl 0 rfl) ?_
      refine lv_iload_n hx hb dX7_fly_116 rfl (lv_at hl 1 rfl) ?_
      refine lv_bipush (v := 7) hx hb dX7_fly_117 (by decide) ?_
      obtain ⟨h90, hF⟩ := g_if hF
      obtain ⟨v92, g91, h89, hF⟩ := g_bind2 hF
      refine g_calli (va_runV (As := [.int x1, .int ((7 : Int32))]) (rest := [.int ((1 : Int32)), .int ((7 : Int32)), .int x1, .ref a0]) ⟨hx, hb, hml, hown, hts⟩ (k7_be l D base g a0 x1 ((7 : Int32)) v92 g91 h89) (cwV 2 hts gX7_fly_X7_be rfl rfl rfl (by decide +kernel) ⟨Nat.le_of_ble_eq_true rfl, Nat.le_of_ble_eq_true rfl⟩) (gC.preV hE hP hS 7 rfl (by decide) h90 [.int x1, .int ((7 : Int32))]) rfl rfl hl.1 rfl (lv_room (Nat.le_of_ble_eq_true rfl)) dX7_fly_119 ⟨(Nat.le_of_ble_eq_true rfl), (Nat.le_of_ble_eq_true rfl)⟩) hS (fun H locs hP hS => ?_)
      refine lv_isub hx hb dX7_fly_122 ?_
      obtain ⟨h94, hF⟩ := g_if hF
      obtain ⟨g95, h93, hF⟩ := g_bind hF
      refine g_callv (va_runV (As := [.int x1, .int ((7 : Int32)), .int (((1 : Int32)) - v92)]) (rest := []) ⟨hx, hb, hml, hown, hts⟩ (k7_setBe l D base g91 a0 x1 ((7 : Int32)) (((1 : Int32)) - v92) g95 h93) (cwV 3 hts gX7_fly_X7_setBe rfl rfl rfl (by decide +kernel) ⟨Nat.le_of_ble_eq_true rfl, Nat.le_of_ble_eq_true rfl⟩) (gC.preV hE hP hS 7 rfl (by decide) h94 [.int x1, .int ((7 : Int32)), .int (((1 : Int32)) - v92)]) rfl rfl hl.1 rfl (lv_room (Nat.le_of_ble_eq_true rfl)) dX7_fly_123 ⟨(Nat.le_of_ble_eq_true rfl), (Nat.le_of_ble_eq_true rfl)⟩) hS (fun H locs hP hS => ?_)
      exact HB126 _ _ _ _ _ _ hF hP hS (lv_sub hl [0, 1] rfl)
  have HB67 : ∀ (g : g_H) (a0 : Nat) (x1 : Int32) (H : Heap) (locs : List Loc) (ls : Array Slot), f7_fly_67 g a0 x1 = some gz → gP base D s g H → va_S (gA base) s.heap H locs → lv_has ls 4 [(0, .ref a0), (1, .int x1)] → W p l e ({ frames := 2, cells := 0, slots := 0, locals := 47 } : Room) s m args below meth c H locs 0 0 (MQ below (gQv base D gz) args s 0 0 (gA base)) (F0 m 67 ls []) := by
    intro g a0 x1 H locs ls hF hP hS hl
    unfold f7_fly_67 at hF
    refine lv_aload_n hx hb dX7_fly_67 rfl (lv_at hl 0 rfl) ?_
    refine lv_iload_n hx hb dX7_fly_68 rfl (lv_at hl 1 rfl) ?_
    refine lv_iconst (v := 5) hx hb dX7_fly_69 (by decide) ?_
    obtain ⟨h16, hF⟩ := g_if hF
    obtain ⟨v18, g17, h15, hF⟩ := g_bind2 hF
    refine g_calli (va_runV (As := [.int x1, .int ((5 : Int32))]) (rest := []) ⟨hx, hb, hml, hown, hts⟩ (k7_be l D base g a0 x1 ((5 : Int32)) v18 g17 h15) (cwV 2 hts gX7_fly_X7_be rfl rfl rfl (by decide +kernel) ⟨Nat.le_of_ble_eq_true rfl, Nat.le_of_ble_eq_true rfl⟩) (gC.preV hE hP hS 7 rfl (by decide) h16 [.int x1, .int ((5 : Int32))]) rfl rfl hl.1 rfl (lv_room (Nat.le_of_ble_eq_true rfl)) dX7_fly_70 ⟨(Nat.le_of_ble_eq_true rfl), (Nat.le_of_ble_eq_true rfl)⟩) hS (fun H locs hP hS => ?_)
    refine lv_iconst (v := 1) hx hb dX7_fly_73 (by decide) ?_
    refine lv_icmp_ne (tgt := 78) hx hb dX7_fly_74 (by decide) (fun c19 => ?_) (fun c19 => ?_)
    · have hF := g_f c19 hF
      refine lv_aload_n hx hb dX7_fly_78 rfl (lv_at hl 0 rfl) ?_
      refine lv_iload_n hx hb dX7_fly_79 rfl (lv_at hl 1 rfl) ?_
      refine lv_iconst (v := 0) hx hb dX7_fly_80 (by decide) ?_
      obtain ⟨h21, hF⟩ := g_if hF
      obtain ⟨v23, g22, h20, hF⟩ := g_bind2 hF
      refine g_calli (va_runV (As := [.int x1, .int ((0 : Int32))]) (rest := []) ⟨hx, hb, hml, hown, hts⟩ (k7_be l D base g17 a0 x1 ((0 : Int32)) v23 g22 h20) (cwV 2 hts gX7_fly_X7_be rfl rfl rfl (by decide +kernel) ⟨Nat.le_of_ble_eq_true rfl, Nat.le_of_ble_eq_true rfl⟩) (gC.preV hE hP hS 7 rfl (by decide) h21 [.int x1, .int ((0 : Int32))]) rfl rfl hl.1 rfl (lv_room (Nat.le_of_ble_eq_true rfl)) dX7_fly_81 ⟨(Nat.le_of_ble_eq_true rfl), (Nat.le_of_ble_eq_true rfl)⟩) hS (fun H locs hP hS => ?_)
      refine lv_aload_n hx hb dX7_fly_84 rfl (lv_at hl 0 rfl) ?_
      refine lv_iload_n hx hb dX7_fly_85 rfl (lv_at hl 1 rfl) ?_
      refine lv_bipush (v := 7) hx hb dX7_fly_86 (by decide) ?_
      obtain ⟨h25, hF⟩ := g_if hF
      obtain ⟨v27, g26, h24, hF⟩ := g_bind2 hF
      refine g_calli (va_runV (As := [.int x1, .int ((7 : Int32))]) (rest := [.int v23]) ⟨hx, hb, hml, hown, hts⟩ (k7_be l D base g22 a0 x1 ((7 : Int32)) v27 g26 h24) (cwV 2 hts gX7_fly_X7_be rfl rfl rfl (by decide +kernel) ⟨Nat.le_of_ble_eq_true rfl, Nat.le_of_ble_eq_true rfl⟩) (gC.preV hE hP hS 7 rfl (by decide) h25 [.int x1, .int ((7 : Int32))]) rfl rfl hl.1 rfl (lv_room (Nat.le_of_ble_eq_true rfl)) dX7_fly_88 ⟨(Nat.le_of_ble_eq_true rfl), (Nat.le_of_ble_eq_true rfl)⟩) hS (fun H locs hP hS => ?_)
      refine lv_iconst (v := 1) hx hb dX7_fly_91 (by decide) ?_
      refine lv_icmp_ne (tgt := 106) hx hb dX7_fly_92 (by decide) (fun c28 => ?_) (fun c28 => ?_)
      · have hF := g_f c28 hF
        refine lv_iconst (v := 0) hx hb dX7_fly_106 (by decide) ?_
        exact HB107 _ _ _ _ _ _ _ _ hF hP hS (lv_sub hl [0, 1] rfl)
      · have hF := g_t c28 hF
        refine lv_aload_n hx hb dX7_fly_95 rfl (lv_at hl 0 rfl) ?_
        refine lv_iload_n hx hb dX7_fly_96 rfl (lv_at hl 1 rfl) ?_
        refine lv_iconst (v := 5) hx hb dX7_fly_97 (by decide) ?_
        obtain ⟨h98, hF⟩ := g_if hF
        obtain ⟨v100, g99, h97, hF⟩ := g_bind2 hF
        refine g_calli (va_runV (As := [.int x1, .int ((5 : Int32))]) (rest := [.int v23]) ⟨hx, hb, hml, hown, hts⟩ (k7_be l D base g26 a0 x1 ((5 : Int32)) v100 g99 h97) (cwV 2 hts gX7_fly_X7_be rfl rfl rfl (by decide +kernel) ⟨Nat.le_of_ble_eq_true rfl, Nat.le_of_ble_eq_true rfl⟩) (gC.preV hE hP hS 7 rfl (by decide) h98 [.int x1, .int ((5 : Int32))]) rfl rfl hl.1 rfl (lv_room (Nat.le_of_ble_eq_true rfl)) dX7_fly_98 ⟨(Nat.le_of_ble_eq_true rfl), (Nat.le_of_ble_eq_true rfl)⟩) hS (fun H locs hP hS => ?_)
        refine lv_iconst (v := 1) hx hb dX7_fly_101 (by decide) ?_
        refine lv_isub hx hb dX7_fly_102 ?_
        refine lv_goto (tgt := 107) hx hb dX7_fly_103 (by decide) ?_
        exact HB107 _ _ _ _ _ _ _ _ hF hP hS (lv_sub hl [0, 1] rfl)
    · have hF := g_t c19 hF
      exact g_retV hx hb hr hlocks hF hP hS (Nat.le_of_ble_eq_true rfl) (Nat.le_of_ble_eq_true rfl) dX7_fly_77
  unfold f7_fly at hF
  refine lv_aload_n hx hb dX7_fly_0 rfl (lv_at hl 0 rfl) ?_
  refine lv_iload_n hx hb dX7_fly_1 rfl (lv_at hl 1 rfl) ?_
  refine lv_iconst (v := 4) hx hb dX7_fly_2 (by decide) ?_
  obtain ⟨h2, hF⟩ := g_if hF
  obtain ⟨v4, g3, h1, hF⟩ := g_bind2 hF
  refine g_calli (va_runV (As := [.int x1, .int ((4 : Int32))]) (rest := []) ⟨hx, hb, hml, hown, hts⟩ (k7_be l D base g a0 x1 ((4 : Int32)) v4 g3 h1) (cwV 2 hts gX7_fly_X7_be rfl rfl rfl (by decide +kernel) ⟨Nat.le_of_ble_eq_true rfl, Nat.le_of_ble_eq_true rfl⟩) (gC.preV hE hP hS 7 rfl (by decide) h2 [.int x1, .int ((4 : Int32))]) rfl rfl hl.1 rfl (lv_room (Nat.le_of_ble_eq_true rfl)) dX7_fly_3 ⟨(Nat.le_of_ble_eq_true rfl), (Nat.le_of_ble_eq_true rfl)⟩) hS (fun H locs hP hS => ?_)
  refine lv_iconst (v := 1) hx hb dX7_fly_6 (by decide) ?_
  refine lv_icmp_ne (tgt := 35) hx hb dX7_fly_7 (by decide) (fun c5 => ?_) (fun c5 => ?_)
  · have hF := g_f c5 hF
    refine lv_aload_n hx hb dX7_fly_35 rfl (lv_at hl 0 rfl) ?_
    obtain ⟨h6, hF⟩ := g_if hF
    obtain ⟨q7, hq8, hF⟩ := g_bind hF
    refine g_get hx hb hts hiX7 hown hK hP 7 rfl (by decide) h6 2 (by decide) (hts (.fieldLink RX7 9 "CourierBeesModel" "hives" "[Z") (by decide +kernel)) (fun _ h9 => h9) ((gFv_r (by decide)).trans (congrArg va_rf hq8)) dX7_fly_36 ?_
    refine lv_aload_n hx hb dX7_fly_39 rfl (lv_at hl 0 rfl) ?_
    refine lv_iload_n hx hb dX7_fly_40 rfl (lv_at hl 1 rfl) ?_
    obtain ⟨v11, g10, h9, hF⟩ := g_bind2 hF
    refine g_calli (va_runV (As := [.int x1]) (rest := [.ref q7]) ⟨hx, hb, hml, hown, hts⟩ (k7_house l D base g3 a0 x1 v11 g10 h9) (cwV 1 hts gX7_fly_X7_house rfl rfl rfl (by decide +kernel) ⟨Nat.le_of_ble_eq_true rfl, Nat.le_of_ble_eq_true rfl⟩) (gC.preV hE hP hS 7 rfl (by decide) h6 [.int x1]) rfl rfl hl.1 rfl (lv_room (Nat.le_of_ble_eq_true rfl)) dX7_fly_41 ⟨(Nat.le_of_ble_eq_true rfl), (Nat.le_of_ble_eq_true rfl)⟩) hS (fun H locs hP hS => ?_)
    obtain ⟨h12, hF⟩ := g_if hF
    obtain ⟨h13, hF⟩ := g_if hF
    refine g_zald hx hb hP (g_pr h12) h13 dX7_fly_44 ?_
    refine lv_if_eq (tgt := 67) hx hb dX7_fly_45 (by decide) (fun c14 => ?_) (fun c14 => ?_)
    · have hF := g_t c14 hF
      exact HB67 _ _ _ _ _ _ hF hP hS (lv_sub hl [0, 1] rfl)
    · have hF := g_f c14 hF
      refine lv_aload_n hx hb dX7_fly_48 rfl (lv_at hl 0 rfl) ?_
      refine lv_iload_n hx hb dX7_fly_49 rfl (lv_at hl 1 rfl) ?_
      refine lv_iconst (v := 2) hx hb dX7_fly_50 (by decide) ?_
      obtain ⟨h102, hF⟩ := g_if hF
      obtain ⟨v104, g103, h101, hF⟩ := g_bind2 hF
      refine g_calli (va_runV (As := [.int x1, .int ((2 : Int32))]) (rest := []) ⟨hx, hb, hml, hown, hts⟩ (k7_be l D base g10 a0 x1 ((2 : Int32)) v104 g103 h101) (cwV 2 hts gX7_fly_X7_be rfl rfl rfl (by decide +kernel) ⟨Nat.le_of_ble_eq_true rfl, Nat.le_of_ble_eq_true rfl⟩) (gC.preV hE hP hS 7 rfl (by decide) h102 [.int x1, .int ((2 : Int32))]) rfl rfl hl.1 rfl (lv_room (Nat.le_of_ble_eq_true rfl)) dX7_fly_51 ⟨(Nat.le_of_ble_eq_true rfl), (Nat.le_of_ble_eq_true rfl)⟩) hS (fun H locs hP hS => ?_)
      refine lv_bipush (v := 10) hx hb dX7_fly_54 (by decide) ?_
      refine lv_icmp_ge (tgt := 67) hx hb dX7_fly_56 (by decide) (fun c105 => ?_) (fun c105 => ?_)
      · have hF := g_t c105 hF
        exact HB67 _ _ _ _ _ _ hF hP hS (lv_sub hl [0, 1] rfl)
      · have hF := g_f c105 hF
        refine lv_aload_n hx hb dX7_fly_59 rfl (lv_at hl 0 rfl) ?_
        refine lv_iload_n hx hb dX7_fly_60 rfl (lv_at hl 1 rfl) ?_
        refine lv_iconst (v := 4) hx hb dX7_fly_61 (by decide) ?_
        refine lv_iconst (v := 1) hx hb dX7_fly_62 (by decide) ?_
        obtain ⟨h107, hF⟩ := g_if hF
        obtain ⟨g108, h106, hF⟩ := g_bind hF
        refine g_callv (va_runV (As := [.int x1, .int ((4 : Int32)), .int ((1 : Int32))]) (rest := []) ⟨hx, hb, hml, hown, hts⟩ (k7_setBe l D base g103 a0 x1 ((4 : Int32)) ((1 : Int32)) g108 h106) (cwV 3 hts gX7_fly_X7_setBe rfl rfl rfl (by decide +kernel) ⟨Nat.le_of_ble_eq_true rfl, Nat.le_of_ble_eq_true rfl⟩) (gC.preV hE hP hS 7 rfl (by decide) h107 [.int x1, .int ((4 : Int32)), .int ((1 : Int32))]) rfl rfl hl.1 rfl (lv_room (Nat.le_of_ble_eq_true rfl)) dX7_fly_63 ⟨(Nat.le_of_ble_eq_true rfl), (Nat.le_of_ble_eq_true rfl)⟩) hS (fun H locs hP hS => ?_)
        exact g_retV hx hb hr hlocks hF hP hS (Nat.le_of_ble_eq_true rfl) (Nat.le_of_ble_eq_true rfl) dX7_fly_66
  · have hF := g_t c5 hF
    refine lv_aload_n hx hb dX7_fly_10 rfl (lv_at hl 0 rfl) ?_
    refine lv_iload_n hx hb dX7_fly_11 rfl (lv_at hl 1 rfl) ?_
    refine lv_iconst (v := 3) hx hb dX7_fly_12 (by decide) ?_
    obtain ⟨h111, hF⟩ := g_if hF
    obtain ⟨g112, h110, hF⟩ := g_bind hF
    refine g_callv (va_runV (As := [.int x1, .int ((3 : Int32))]) (rest := []) ⟨hx, hb, hml, hown, hts⟩ (k7_strengthen l D base g3 a0 x1 ((3 : Int32)) g112 h110) (cwV 2 hts gX7_fly_X7_strengthen rfl rfl rfl (by decide +kernel) ⟨Nat.le_of_ble_eq_true rfl, Nat.le_of_ble_eq_true rfl⟩) (gC.preV hE hP hS 7 rfl (by decide) h111 [.int x1, .int ((3 : Int32))]) rfl rfl hl.1 rfl (lv_room (Nat.le_of_ble_eq_true rfl)) dX7_fly_13 ⟨(Nat.le_of_ble_eq_true rfl), (Nat.le_of_ble_eq_true rfl)⟩) hS (fun H locs hP hS => ?_)
    refine lv_aload_n hx hb dX7_fly_16 rfl (lv_at hl 0 rfl) ?_
    refine lv_iload_n hx hb dX7_fly_17 rfl (lv_at hl 1 rfl) ?_
    refine lv_iconst (v := 2) hx hb dX7_fly_18 (by decide) ?_
    obtain ⟨h115, hF⟩ := g_if hF
    obtain ⟨v117, g116, h114, hF⟩ := g_bind2 hF
    refine g_calli (va_runV (As := [.int x1, .int ((2 : Int32))]) (rest := []) ⟨hx, hb, hml, hown, hts⟩ (k7_be l D base g112 a0 x1 ((2 : Int32)) v117 g116 h114) (cwV 2 hts gX7_fly_X7_be rfl rfl rfl (by decide +kernel) ⟨Nat.le_of_ble_eq_true rfl, Nat.le_of_ble_eq_true rfl⟩) (gC.preV hE hP hS 7 rfl (by decide) h115 [.int x1, .int ((2 : Int32))]) rfl rfl hl.1 rfl (lv_room (Nat.le_of_ble_eq_true rfl)) dX7_fly_19 ⟨(Nat.le_of_ble_eq_true rfl), (Nat.le_of_ble_eq_true rfl)⟩) hS (fun H locs hP hS => ?_)
    refine lv_bipush (v := 20) hx hb dX7_fly_22 (by decide) ?_
    refine lv_icmp_lt (tgt := 34) hx hb dX7_fly_24 (by decide) (fun c118 => ?_) (fun c118 => ?_)
    · have hF := g_t c118 hF
      exact g_retV hx hb hr hlocks hF hP hS (Nat.le_of_ble_eq_true rfl) (Nat.le_of_ble_eq_true rfl) dX7_fly_34
    · have hF := g_f c118 hF
      refine lv_aload_n hx hb dX7_fly_27 rfl (lv_at hl 0 rfl) ?_
      refine lv_iload_n hx hb dX7_fly_28 rfl (lv_at hl 1 rfl) ?_
      refine lv_iconst (v := 4) hx hb dX7_fly_29 (by decide) ?_
      refine lv_iconst (v := 0) hx hb dX7_fly_30 (by decide) ?_
      obtain ⟨h120, hF⟩ := g_if hF
      obtain ⟨g121, h119, hF⟩ := g_bind hF
      refine g_callv (va_runV (As := [.int x1, .int ((4 : Int32)), .int ((0 : Int32))]) (rest := []) ⟨hx, hb, hml, hown, hts⟩ (k7_setBe l D base g116 a0 x1 ((4 : Int32)) ((0 : Int32)) g121 h119) (cwV 3 hts gX7_fly_X7_setBe rfl rfl rfl (by decide +kernel) ⟨Nat.le_of_ble_eq_true rfl, Nat.le_of_ble_eq_true rfl⟩) (gC.preV hE hP hS 7 rfl (by decide) h120 [.int x1, .int ((4 : Int32)), .int ((0 : Int32))]) rfl rfl hl.1 rfl (lv_room (Nat.le_of_ble_eq_true rfl)) dX7_fly_31 ⟨(Nat.le_of_ble_eq_true rfl), (Nat.le_of_ble_eq_true rfl)⟩) hS (fun H locs hP hS => ?_)
      exact g_retV hx hb hr hlocks hF hP hS (Nat.le_of_ble_eq_true rfl) (Nat.le_of_ble_eq_true rfl) dX7_fly_34
set_option maxHeartbeats 4000000 in
set_option maxRecDepth 100000 in
theorem k7_quarterOn (l : Launch) (D : va_G) (base : Nat) (g : g_H) (a0 : Nat) (rr : Int32) (gz : g_H) (hF : f7_quarterOn g a0 = some (rr, gz)) : Met l yX7_quarterOn wsX7_quarterOn ({ frames := 4, cells := 0, slots := 0, locals := 96 } : Room) (va_Pc [.ref a0] (gC base D g)) (gQi base D rr gz) 0 0 (gA base) := by
  refine g_met (cc := cX7_quarterOn) (maxL := 3) (ret := (some .int)) (lst := [(0, .ref a0)]) (by decide) rfl (Nat.le_of_ble_eq_true rfl) rfl ?_
  intro p e s m args below meth c ls hx hb hr hml hown hlocks hname hts hE hP hl
  have hown : s.vm.findClass RX7 = some m.cls := hown
  have hK := hE.1
  have hov := hE.2.2.2.2.2.2.2.1
  have hbz := hE.2.2.2.2.2.2.2.2.2.2.2.2
  have hS : va_S (gA base) s.heap s.heap [] := va_S.rf
  have hiX7 : ∀ w ∈ wsX70, w ∈ wsX7_quarterOn := by decide +kernel
  have HL4 : ∀ (n4 : Nat), ∀ (g : g_H) (a0 : Nat) (x1 : Int32) (x2 : Int32) (H : Heap) (locs : List Loc) (ls : Array Slot), f7_quarterOn_4 n4 g a0 x1 x2 = some (rr, gz) → gP base D s g H → va_S (gA base) s.heap H locs → lv_has ls 3 [(0, .ref a0), (1, .int x1), (2, .int x2)] → W p l e ({ frames := 4, cells := 0, slots := 0, locals := 96 } : Room) s m args below meth c H locs 0 0 (MQ below (gQi base D rr gz) args s 0 0 (gA base)) (F0 m 4 ls []) := by
    intro n4
    induction n4 with
    | zero => intro g a0 x1 x2 H locs ls hF hP hS hl; exact g_no hF
    | succ n4 ih4 =>
      have HB60 : ∀ (g : g_H) (a0 : Nat) (x1 : Int32) (x2 : Int32) (H : Heap) (locs : List Loc) (ls : Array Slot), f7_quarterOn_60 (f7_quarterOn_4 n4) g a0 x1 x2 = some (rr, gz) → gP base D s g H → va_S (gA base) s.heap H locs → lv_has ls 3 [(0, .ref a0), (1, .int x1), (2, .int x2)] → W p l e ({ frames := 4, cells := 0, slots := 0, locals := 96 } : Room) s m args below meth c H locs 0 0 (MQ below (gQi base D rr gz) args s 0 0 (gA base)) (F0 m 60 ls []) := by
        intro g a0 x1 x2 H locs ls hF hP hS hl
        unfold f7_quarterOn_60 at hF
        refine lv_iinc (v := x2 + (1 : Int32)) (lv' := [(2, .int (x2 + (1 : Int32))), (0, .ref a0), (1, .int x1)]) hx hb dX7_quarterOn_60 hl (k := 2) rfl rfl (by decide) rfl (fun ls hl => ?_)
        refine lv_goto (tgt := 4) hx hb dX7_quarterOn_63 (by decide) ?_
        exact ih4 _ _ _ _ _ _ _ hF hP hS (lv_sub hl [1, 2, 0] rfl)
      have HB35 : ∀ (g : g_H) (a0 : Nat) (x1 : Int32) (x2 : Int32) (H : Heap) (locs : List Loc) (ls : Array Slot), f7_quarterOn_35 (f7_quarterOn_4 n4) g a0 x1 x2 = some (rr, gz) → gP base D s g H → va_S (gA base) s.heap H locs → lv_has ls 3 [(0, .ref a0), (1, .int x1), (2, .int x2)] → W p l e ({ frames := 4, cells := 0, slots := 0, locals := 96 } : Room) s m args below meth c H locs 0 0 (MQ below (gQi base D rr gz) args s 0 0 (gA base)) (F0 m 35 ls []) := by
        intro g a0 x1 x2 H locs ls hF hP hS hl
        unfold f7_quarterOn_35 at hF
        refine lv_aload_n hx hb dX7_quarterOn_35 rfl (lv_at hl 0 rfl) ?_
        refine lv_iload_n hx hb dX7_quarterOn_36 rfl (lv_at hl 2 rfl) ?_
        refine lv_iconst (v := 1) hx hb dX7_quarterOn_37 (by decide) ?_
        obtain ⟨h15, hF⟩ := g_if hF
        obtain ⟨v17, g16, h14, hF⟩ := g_bind2 hF
        refine g_calli (va_runV (As := [.int x2, .int ((1 : Int32))]) (rest := []) ⟨hx, hb, hml, hown, hts⟩ (k7_be l D base g a0 x2 ((1 : Int32)) v17 g16 h14) (cwV 2 hts gX7_quarterOn_X7_be rfl rfl rfl (by decide +kernel) ⟨Nat.le_of_ble_eq_true rfl, Nat.le_of_ble_eq_true rfl⟩) (gC.preV hE hP hS 7 rfl (by decide) h15 [.int x2, .int ((1 : Int32))]) rfl rfl hl.1 rfl (lv_room (Nat.le_of_ble_eq_true rfl)) dX7_quarterOn_38 ⟨(Nat.le_of_ble_eq_true rfl), (Nat.le_of_ble_eq_true rfl)⟩) hS (fun H locs hP hS => ?_)
        refine lv_if_le (tgt := 47) hx hb dX7_quarterOn_41 (by decide) (fun c18 => ?_) (fun c18 => ?_)
        · have hF := g_t c18 hF
          refine lv_iload_n hx hb dX7_quarterOn_47 rfl (lv_at hl 1 rfl) ?_
          refine lv_aload_n hx hb dX7_quarterOn_48 rfl (lv_at hl 0 rfl) ?_
          refine lv_iload_n hx hb dX7_quarterOn_49 rfl (lv_at hl 2 rfl) ?_
          obtain ⟨h20, hF⟩ := g_if hF
          obtain ⟨v22, g21, h19, hF⟩ := g_bind2 hF
          refine g_calli (va_runV (As := [.int x2]) (rest := [.int x1]) ⟨hx, hb, hml, hown, hts⟩ (k7_deal l D base g16 a0 x2 v22 g21 h19) (cwV 1 hts gX7_quarterOn_X7_deal rfl rfl rfl (by decide +kernel) ⟨Nat.le_of_ble_eq_true rfl, Nat.le_of_ble_eq_true rfl⟩) (gC.preV hE hP hS 7 rfl (by decide) h20 [.int x2]) rfl rfl hl.1 rfl (lv_room (Nat.le_of_ble_eq_true rfl)) dX7_quarterOn_50 ⟨(Nat.le_of_ble_eq_true rfl), (Nat.le_of_ble_eq_true rfl)⟩) hS (fun H locs hP hS => ?_)
          refine lv_iadd hx hb dX7_quarterOn_53 ?_
          refine lv_istore_n (lv' := [(1, .int (x1 + v22)), (0, .ref a0), (2, .int x2)]) hx hb dX7_quarterOn_54 rfl hl (by decide) rfl (fun ls hl => ?_)
          refine lv_aload_n hx hb dX7_quarterOn_55 rfl (lv_at hl 1 rfl) ?_
          refine lv_iload_n hx hb dX7_quarterOn_56 rfl (lv_at hl 2 rfl) ?_
          obtain ⟨h24, hF⟩ := g_if hF
          obtain ⟨g25, h23, hF⟩ := g_bind hF
          refine g_callv (va_runV (As := [.int x2]) (rest := []) ⟨hx, hb, hml, hown, hts⟩ (k7_fly l D base g21 a0 x2 g25 h23) (cwV 1 hts gX7_quarterOn_X7_fly rfl rfl rfl (by decide +kernel) ⟨Nat.le_of_ble_eq_true rfl, Nat.le_of_ble_eq_true rfl⟩) (gC.preV hE hP hS 7 rfl (by decide) h24 [.int x2]) rfl rfl hl.1 rfl (lv_room (Nat.le_of_ble_eq_true rfl)) dX7_quarterOn_57 ⟨(Nat.le_of_ble_eq_true rfl), (Nat.le_of_ble_eq_true rfl)⟩) hS (fun H locs hP hS => ?_)
          exact HB60 _ _ _ _ _ _ _ hF hP hS (lv_sub hl [1, 0, 2] rfl)
        · have hF := g_f c18 hF
          refine lv_goto (tgt := 60) hx hb dX7_quarterOn_44 (by decide) ?_
          exact HB60 _ _ _ _ _ _ _ hF hP hS (lv_sub hl [0, 1, 2] rfl)
      intro g a0 x1 x2 H locs ls hF hP hS hl
      have hF : f7_quarterOn_4b (f7_quarterOn_4 n4) g a0 x1 x2 = some (rr, gz) := hF
      unfold f7_quarterOn_4b at hF
      refine lv_iload_n hx hb dX7_quarterOn_4 rfl (lv_at hl 2 rfl) ?_
      refine lv_aload_n hx hb dX7_quarterOn_5 rfl (lv_at hl 0 rfl) ?_
      obtain ⟨h1, hF⟩ := g_if hF
      refine g_get hx hb hts hiX7 hown hK hP 7 rfl (by decide) h1 6 (by decide) (hts (.fieldLink RX7 49 "CourierBeesModel" "bees" "I") (by decide +kernel)) (fun _ h9 => h9) (gFv_i (Or.inl rfl)) dX7_quarterOn_6 ?_
      refine lv_icmp_ge (tgt := 66) hx hb dX7_quarterOn_9 (by decide) (fun c2 => ?_) (fun c2 => ?_)
      · have hF := g_t c2 hF
        refine lv_aload_n hx hb dX7_quarterOn_66 rfl (lv_at hl 0 rfl) ?_
        obtain ⟨q3, hq4, hF⟩ := g_bind hF
        refine g_get hx hb hts hiX7 hown hK hP 7 rfl (by decide) h1 11 (by decide) (hts (.fieldLink RX7 29 "CourierBeesModel" "quarter" "[I") (by decide +kernel)) (fun _ h9 => h9) ((gFv_r (by decide)).trans (congrArg va_rf hq4)) dX7_quarterOn_67 ?_
        refine lv_iconst (v := 0) hx hb dX7_quarterOn_70 (by decide) ?_
        refine lv_dup2_11 hx hb dX7_quarterOn_71 rfl rfl ?_
        obtain ⟨h5, hF⟩ := g_if hF
        obtain ⟨h6, hF⟩ := g_if hF
        refine g_iald hx hb hP (g_pr h5) h6 dX7_quarterOn_72 ?_
        refine lv_iconst (v := 1) hx hb dX7_quarterOn_73 (by decide) ?_
        refine lv_iadd hx hb dX7_quarterOn_74 ?_
        obtain ⟨y7, e8, hF⟩ := g_let hF
        rw [e8]
        obtain ⟨h9, hF⟩ := g_if hF
        refine g_iast hx hb hP hS (g_pr h5) h9 dX7_quarterOn_75 (fun H locs hP hS => ?_)
        refine lv_iload_n hx hb dX7_quarterOn_76 rfl (lv_at hl 1 rfl) ?_
        exact g_retI hx hb hr hlocks hF hP hS (Nat.le_of_ble_eq_true rfl) (Nat.le_of_ble_eq_true rfl) dX7_quarterOn_77
      · have hF := g_f c2 hF
        refine lv_aload_n hx hb dX7_quarterOn_12 rfl (lv_at hl 0 rfl) ?_
        refine lv_iload_n hx hb dX7_quarterOn_13 rfl (lv_at hl 2 rfl) ?_
        refine lv_iconst (v := 1) hx hb dX7_quarterOn_14 (by decide) ?_
        obtain ⟨v12, g11, h10, hF⟩ := g_bind2 hF
        refine g_calli (va_runV (As := [.int x2, .int ((1 : Int32))]) (rest := []) ⟨hx, hb, hml, hown, hts⟩ (k7_be l D base g a0 x2 ((1 : Int32)) v12 g11 h10) (cwV 2 hts gX7_quarterOn_X7_be rfl rfl rfl (by decide +kernel) ⟨Nat.le_of_ble_eq_true rfl, Nat.le_of_ble_eq_true rfl⟩) (gC.preV hE hP hS 7 rfl (by decide) h1 [.int x2, .int ((1 : Int32))]) rfl rfl hl.1 rfl (lv_room (Nat.le_of_ble_eq_true rfl)) dX7_quarterOn_15 ⟨(Nat.le_of_ble_eq_true rfl), (Nat.le_of_ble_eq_true rfl)⟩) hS (fun H locs hP hS => ?_)
        refine lv_if_le (tgt := 35) hx hb dX7_quarterOn_18 (by decide) (fun c13 => ?_) (fun c13 => ?_)
        · have hF := g_t c13 hF
          exact HB35 _ _ _ _ _ _ _ hF hP hS (lv_sub hl [0, 1, 2] rfl)
        · have hF := g_f c13 hF
          refine lv_aload_n hx hb dX7_quarterOn_21 rfl (lv_at hl 0 rfl) ?_
          refine lv_iload_n hx hb dX7_quarterOn_22 rfl (lv_at hl 2 rfl) ?_
          refine lv_iconst (v := 1) hx hb dX7_quarterOn_23 (by decide) ?_
          refine lv_aload_n hx hb dX7_quarterOn_24 rfl (lv_at hl 0 rfl) ?_
          refine lv_iload_n hx hb dX7_quarterOn_25 rfl (lv_at hl 2 rfl) ?_
          refine lv_iconst (v := 1) hx hb dX7_quarterOn_26 (by decide) ?_
          obtain ⟨h28, hF⟩ := g_if hF
          obtain ⟨v30, g29, h27, hF⟩ := g_bind2 hF
          refine g_calli (va_runV (As := [.int x2, .int ((1 : Int32))]) (rest := [.int ((1 : Int32)), .int x2, .ref a0]) ⟨hx, hb, hml, hown, hts⟩ (k7_be l D base g11 a0 x2 ((1 : Int32)) v30 g29 h27) (cwV 2 hts gX7_quarterOn_X7_be rfl rfl rfl (by decide +kernel) ⟨Nat.le_of_ble_eq_true rfl, Nat.le_of_ble_eq_true rfl⟩) (gC.preV hE hP hS 7 rfl (by decide) h28 [.int x2, .int ((1 : Int32))]) rfl rfl hl.1 rfl (lv_room (Nat.le_of_ble_eq_true rfl)) dX7_quarterOn_27 ⟨(Nat.le_of_ble_eq_true rfl), (Nat.le_of_ble_eq_true rfl)⟩) hS (fun H locs hP hS => ?_)
          refine lv_iconst (v := 1) hx hb dX7_quarterOn_30 (by decide) ?_
          refine lv_isub hx hb dX7_quarterOn_31 ?_
          obtain ⟨h32, hF⟩ := g_if hF
          obtain ⟨g33, h31, hF⟩ := g_bind hF
          refine g_callv (va_runV (As := [.int x2, .int ((1 : Int32)), .int (v30 - ((1 : Int32)))]) (rest := []) ⟨hx, hb, hml, hown, hts⟩ (k7_setBe l D base g29 a0 x2 ((1 : Int32)) (v30 - ((1 : Int32))) g33 h31) (cwV 3 hts gX7_quarterOn_X7_setBe rfl rfl rfl (by decide +kernel) ⟨Nat.le_of_ble_eq_true rfl, Nat.le_of_ble_eq_true rfl⟩) (gC.preV hE hP hS 7 rfl (by decide) h32 [.int x2, .int ((1 : Int32)), .int (v30 - ((1 : Int32)))]) rfl rfl hl.1 rfl (lv_room (Nat.le_of_ble_eq_true rfl)) dX7_quarterOn_32 ⟨(Nat.le_of_ble_eq_true rfl), (Nat.le_of_ble_eq_true rfl)⟩) hS (fun H locs hP hS => ?_)
          exact HB35 _ _ _ _ _ _ _ hF hP hS (lv_sub hl [0, 1, 2] rfl)
  unfold f7_quarterOn at hF
  refine lv_iconst (v := 0) hx hb dX7_quarterOn_0 (by decide) ?_
  refine lv_istore_n (lv' := [(1, .int ((0 : Int32))), (0, .ref a0)]) hx hb dX7_quarterOn_1 rfl hl (by decide) rfl (fun ls hl => ?_)
  refine lv_iconst (v := 0) hx hb dX7_quarterOn_2 (by decide) ?_
  refine lv_istore_n (lv' := [(2, .int ((0 : Int32))), (1, .int ((0 : Int32))), (0, .ref a0)]) hx hb dX7_quarterOn_3 rfl hl (by decide) rfl (fun ls hl => ?_)
  exact HL4 300 _ _ _ _ _ _ _ hF hP hS (lv_sub hl [2, 1, 0] rfl)
set_option maxHeartbeats 4000000 in
set_option maxRecDepth 100000 in
theorem k7_pass (l : Launch) (D : va_G) (base : Nat) (g : g_H) (a0 : Nat) (x1 : Int32) (rr : Int32) (gz : g_H) (hF : f7_pass g a0 x1 = some (rr, gz)) : Met l yX7_pass wsX7_pass ({ frames := 5, cells := 0, slots := 0, locals := 118 } : Room) (va_Pc [.ref a0, .int x1] (gC base D g)) (gQi base D rr gz) 0 0 (gA base) := by
  refine g_met (cc := cX7_pass) (maxL := 4) (ret := (some .int)) (lst := [(0, .ref a0), (1, .int x1)]) (by decide) rfl (Nat.le_of_ble_eq_true rfl) rfl ?_
  intro p e s m args below meth c ls hx hb hr hml hown hlocks hname hts hE hP hl
  have hown : s.vm.findClass RX7 = some m.cls := hown
  have hK := hE.1
  have hov := hE.2.2.2.2.2.2.2.1
  have hbz := hE.2.2.2.2.2.2.2.2.2.2.2.2
  have hS : va_S (gA base) s.heap s.heap [] := va_S.rf
  have hiX7 : ∀ w ∈ wsX70, w ∈ wsX7_pass := by decide +kernel
  have HL26 : ∀ (n26 : Nat), ∀ (g : g_H) (a0 : Nat) (x1 : Int32) (x2 : Int32) (x3 : Int32) (H : Heap) (locs : List Loc) (ls : Array Slot), f7_pass_26 n26 g a0 x1 x2 x3 = some (rr, gz) → gP base D s g H → va_S (gA base) s.heap H locs → lv_has ls 4 [(0, .ref a0), (1, .int x1), (2, .int x2), (3, .int x3)] → W p l e ({ frames := 5, cells := 0, slots := 0, locals := 118 } : Room) s m args below meth c H locs 0 0 (MQ below (gQi base D rr gz) args s 0 0 (gA base)) (F0 m 26 ls []) := by
    intro n26
    induction n26 with
    | zero => intro g a0 x1 x2 x3 H locs ls hF hP hS hl; exact g_no hF
    | succ n26 ih26 =>
      intro g a0 x1 x2 x3 H locs ls hF hP hS hl
      have hF : f7_pass_26b (f7_pass_26 n26) g a0 x1 x2 x3 = some (rr, gz) := hF
      unfold f7_pass_26b at hF
      refine lv_iload_n hx hb dX7_pass_26 rfl (lv_at hl 3 rfl) ?_
      refine lv_iload_n hx hb dX7_pass_27 rfl (lv_at hl 1 rfl) ?_
      refine lv_icmp_ge (tgt := 44) hx hb dX7_pass_28 (by decide) (fun c6 => ?_) (fun c6 => ?_)
      · have hF := g_t c6 hF
        refine lv_iload_n hx hb dX7_pass_44 rfl (lv_at hl 2 rfl) ?_
        exact g_retI hx hb hr hlocks hF hP hS (Nat.le_of_ble_eq_true rfl) (Nat.le_of_ble_eq_true rfl) dX7_pass_45
      · have hF := g_f c6 hF
        refine lv_iload_n hx hb dX7_pass_31 rfl (lv_at hl 2 rfl) ?_
        refine lv_aload_n hx hb dX7_pass_32 rfl (lv_at hl 0 rfl) ?_
        obtain ⟨h8, hF⟩ := g_if hF
        obtain ⟨v10, g9, h7, hF⟩ := g_bind2 hF
        refine g_calli (va_runV (As := []) (rest := [.int x2]) ⟨hx, hb, hml, hown, hts⟩ (k7_quarterOn l D base g a0 v10 g9 h7) (cwV 0 hts gX7_pass_X7_quarterOn rfl rfl rfl (by decide +kernel) ⟨Nat.le_of_ble_eq_true rfl, Nat.le_of_ble_eq_true rfl⟩) (gC.preV hE hP hS 7 rfl (by decide) h8 []) rfl rfl hl.1 rfl (lv_room (Nat.le_of_ble_eq_true rfl)) dX7_pass_33 ⟨(Nat.le_of_ble_eq_true rfl), (Nat.le_of_ble_eq_true rfl)⟩) hS (fun H locs hP hS => ?_)
        refine lv_iadd hx hb dX7_pass_36 ?_
        refine lv_istore_n (lv' := [(2, .int (x2 + v10)), (0, .ref a0), (1, .int x1), (3, .int x3)]) hx hb dX7_pass_37 rfl hl (by decide) rfl (fun ls hl => ?_)
        refine lv_iinc (v := x3 + (1 : Int32)) (lv' := [(3, .int (x3 + (1 : Int32))), (2, .int (x2 + v10)), (0, .ref a0), (1, .int x1)]) hx hb dX7_pass_38 hl (k := 3) rfl rfl (by decide) rfl (fun ls hl => ?_)
        refine lv_goto (tgt := 26) hx hb dX7_pass_41 (by decide) ?_
        exact ih26 _ _ _ _ _ _ _ _ hF hP hS (lv_sub hl [2, 3, 1, 0] rfl)
  unfold f7_pass at hF
  refine lv_aload_n hx hb dX7_pass_0 rfl (lv_at hl 0 rfl) ?_
  refine lv_iconst (v := 0) hx hb dX7_pass_1 (by decide) ?_
  obtain ⟨h1, hF⟩ := g_if hF
  refine g_puti hx hb hts hiX7 tyX7 tyX7_ok nmX7 hown hK hP hS 7 rfl (by decide) h1 0 (by decide) (hts (.fieldLink RX7 35 "CourierBeesModel" "thrown" "I") (by decide +kernel)) (fun _ h9 => h9) (Or.inl rfl) (Or.inl rfl) rfl rfl dX7_pass_2 (fun H locs hP hS => ?_)
  refine lv_iload_n hx hb dX7_pass_5 rfl (lv_at hl 1 rfl) ?_
  refine lv_iconst (v := 1) hx hb dX7_pass_6 (by decide) ?_
  refine lv_sipush (v := 240) hx hb dX7_pass_7 (by decide) ?_
  obtain ⟨v4, g3, h2, hF⟩ := g_bind2 hF
  refine g_calli (va_runS (As := [.int x1, .int ((1 : Int32)), .int ((240 : Int32))]) (rest := []) ⟨hx, hb, hml, hown, hts⟩ (k7_isIn l D base (gPI g a0 0 ((0 : Int32))) x1 ((1 : Int32)) ((240 : Int32)) v4 g3 h2) (va_cwS 3 hts gX7_pass_X7_isIn rfl rfl rfl (by decide +kernel) ⟨Nat.le_of_ble_eq_true rfl, Nat.le_of_ble_eq_true rfl⟩) (gC.preS hE hP hS [.int x1, .int ((1 : Int32)), .int ((240 : Int32))]) rfl rfl hl.1 rfl (lv_room (Nat.le_of_ble_eq_true rfl)) dX7_pass_10 ⟨(Nat.le_of_ble_eq_true rfl), (Nat.le_of_ble_eq_true rfl)⟩) hS (fun H locs hP hS => ?_)
  refine lv_if_ne (tgt := 22) hx hb dX7_pass_13 (by decide) (fun c5 => ?_) (fun c5 => ?_)
  · have hF := g_f c5 hF
    refine lv_iconst (v := 0) hx hb dX7_pass_22 (by decide) ?_
    refine lv_istore_n (lv' := [(2, .int ((0 : Int32))), (0, .ref a0), (1, .int x1)]) hx hb dX7_pass_23 rfl hl (by decide) rfl (fun ls hl => ?_)
    refine lv_iconst (v := 0) hx hb dX7_pass_24 (by decide) ?_
    refine lv_istore_n (lv' := [(3, .int ((0 : Int32))), (2, .int ((0 : Int32))), (0, .ref a0), (1, .int x1)]) hx hb dX7_pass_25 rfl hl (by decide) rfl (fun ls hl => ?_)
    exact HL26 300 _ _ _ _ _ _ _ _ hF hP hS (lv_sub hl [2, 3, 1, 0] rfl)
  · have hF := g_t c5 hF
    refine lv_aload_n hx hb dX7_pass_16 rfl (lv_at hl 0 rfl) ?_
    refine lv_iconst (v := 1) hx hb dX7_pass_17 (by decide) ?_
    obtain ⟨h12, hF⟩ := g_if hF
    obtain ⟨v14, g13, h11, hF⟩ := g_bind2 hF
    refine g_calli (va_runV (As := [.int ((1 : Int32))]) (rest := []) ⟨hx, hb, hml, hown, hts⟩ (k7_fail l D base g3 a0 ((1 : Int32)) v14 g13 h11) (cwV 1 hts gX7_pass_X7_fail rfl rfl rfl (by decide +kernel) ⟨Nat.le_of_ble_eq_true rfl, Nat.le_of_ble_eq_true rfl⟩) (gC.preV hE hP hS 7 rfl (by decide) h12 [.int ((1 : Int32))]) rfl rfl hl.1 rfl (lv_room (Nat.le_of_ble_eq_true rfl)) dX7_pass_18 ⟨(Nat.le_of_ble_eq_true rfl), (Nat.le_of_ble_eq_true rfl)⟩) hS (fun H locs hP hS => ?_)
    exact g_retI hx hb hr hlocks hF hP hS (Nat.le_of_ble_eq_true rfl) (Nat.le_of_ble_eq_true rfl) dX7_pass_21
set_option maxHeartbeats 4000000 in
set_option maxRecDepth 100000 in
theorem k7_counted (l : Launch) (D : va_G) (base : Nat) (g : g_H) (a0 : Nat) (x1 : Int32) (rr : Int32) (gz : g_H) (hF : f7_counted g a0 x1 = some (rr, gz)) : Met l yX7_counted wsX7_counted ({ frames := 2, cells := 0, slots := 0, locals := 43 } : Room) (va_Pc [.ref a0, .int x1] (gC base D g)) (gQi base D rr gz) 0 0 (gA base) := by
  refine g_met (cc := cX7_counted) (maxL := 4) (ret := (some .int)) (lst := [(0, .ref a0), (1, .int x1)]) (by decide) rfl (Nat.le_of_ble_eq_true rfl) rfl ?_
  intro p e s m args below meth c ls hx hb hr hml hown hlocks hname hts hE hP hl
  have hown : s.vm.findClass RX7 = some m.cls := hown
  have hK := hE.1
  have hov := hE.2.2.2.2.2.2.2.1
  have hbz := hE.2.2.2.2.2.2.2.2.2.2.2.2
  have hS : va_S (gA base) s.heap s.heap [] := va_S.rf
  have hiX7 : ∀ w ∈ wsX70, w ∈ wsX7_counted := by decide +kernel
  have HL77 : ∀ (n77 : Nat), ∀ (g : g_H) (a0 : Nat) (x1 : Int32) (x2 : Int32) (x3 : Int32) (H : Heap) (locs : List Loc) (ls : Array Slot), f7_counted_77 n77 g a0 x1 x2 x3 = some (rr, gz) → gP base D s g H → va_S (gA base) s.heap H locs → lv_has ls 4 [(0, .ref a0), (1, .int x1), (2, .int x2), (3, .int x3)] → W p l e ({ frames := 2, cells := 0, slots := 0, locals := 43 } : Room) s m args below meth c H locs 0 0 (MQ below (gQi base D rr gz) args s 0 0 (gA base)) (F0 m 77 ls []) := by
    intro n77
    induction n77 with
    | zero => intro g a0 x1 x2 x3 H locs ls hF hP hS hl; exact g_no hF
    | succ n77 ih77 =>
      have HB110 : ∀ (g : g_H) (a0 : Nat) (x1 : Int32) (x3 : Int32) (s0 : Int32) (s1 : Int32) (H : Heap) (locs : List Loc) (ls : Array Slot), f7_counted_110 (f7_counted_77 n77) g a0 x1 x3 s0 s1 = some (rr, gz) → gP base D s g H → va_S (gA base) s.heap H locs → lv_has ls 4 [(0, .ref a0), (1, .int x1), (3, .int x3)] → W p l e ({ frames := 2, cells := 0, slots := 0, locals := 43 } : Room) s m args below meth c H locs 0 0 (MQ below (gQi base D rr gz) args s 0 0 (gA base)) (F0 m 110 ls [.int s1, .int s0]) := by
        intro g a0 x1 x3 s0 s1 H locs ls hF hP hS hl
        unfold f7_counted_110 at hF
        refine lv_iadd hx hb dX7_counted_110 ?_
        refine lv_istore_n (lv' := [(2, .int (s0 + s1)), (0, .ref a0), (1, .int x1), (3, .int x3)]) hx hb dX7_counted_111 rfl hl (by decide) rfl (fun ls hl => ?_)
        refine lv_iinc (v := x3 + (1 : Int32)) (lv' := [(3, .int (x3 + (1 : Int32))), (2, .int (s0 + s1)), (0, .ref a0), (1, .int x1)]) hx hb dX7_counted_112 hl (k := 3) rfl rfl (by decide) rfl (fun ls hl => ?_)
        refine lv_goto (tgt := 77) hx hb dX7_counted_115 (by decide) ?_
        exact ih77 _ _ _ _ _ _ _ _ hF hP hS (lv_sub hl [2, 3, 1, 0] rfl)
      have HB98 : ∀ (g : g_H) (a0 : Nat) (x1 : Int32) (x3 : Int32) (s0 : Int32) (s1 : Nat) (s2 : Int32) (s3 : Int32) (H : Heap) (locs : List Loc) (ls : Array Slot), f7_counted_98 (f7_counted_77 n77) g a0 x1 x3 s0 s1 s2 s3 = some (rr, gz) → gP base D s g H → va_S (gA base) s.heap H locs → lv_has ls 4 [(0, .ref a0), (1, .int x1), (3, .int x3)] → W p l e ({ frames := 2, cells := 0, slots := 0, locals := 43 } : Room) s m args below meth c H locs 0 0 (MQ below (gQi base D rr gz) args s 0 0 (gA base)) (F0 m 98 ls [.int s3, .int s2, .ref s1, .int s0]) := by
        intro g a0 x1 x3 s0 s1 s2 s3 H locs ls hF hP hS hl
        unfold f7_counted_98 at hF
        obtain ⟨h22, hF⟩ := g_if hF
        obtain ⟨v24, g23, h21, hF⟩ := g_bind2 hF
        refine g_calli (va_runV (As := [.int s2, .int s3]) (rest := [.int s0]) ⟨hx, hb, hml, hown, hts⟩ (k7_le l D base g s1 s2 s3 v24 g23 h21) (cwV 2 hts gX7_counted_X7_le rfl rfl rfl (by decide +kernel) ⟨Nat.le_of_ble_eq_true rfl, Nat.le_of_ble_eq_true rfl⟩) (gC.preV hE hP hS 7 rfl (by decide) h22 [.int s2, .int s3]) rfl rfl hl.1 rfl (lv_room (Nat.le_of_ble_eq_true rfl)) dX7_counted_98 ⟨(Nat.le_of_ble_eq_true rfl), (Nat.le_of_ble_eq_true rfl)⟩) hS (fun H locs hP hS => ?_)
        refine lv_iconst (v := (-1)) hx hb dX7_counted_101 (by decide) ?_
        refine lv_icmp_ne (tgt := 109) hx hb dX7_counted_102 (by decide) (fun c25 => ?_) (fun c25 => ?_)
        · have hF := g_f c25 hF
          refine lv_iconst (v := 1) hx hb dX7_counted_109 (by decide) ?_
          exact HB110 _ _ _ _ _ _ _ _ _ hF hP hS (lv_sub hl [0, 1, 2] rfl)
        · have hF := g_t c25 hF
          refine lv_iconst (v := 0) hx hb dX7_counted_105 (by decide) ?_
          refine lv_goto (tgt := 110) hx hb dX7_counted_106 (by decide) ?_
          exact HB110 _ _ _ _ _ _ _ _ _ hF hP hS (lv_sub hl [0, 1, 2] rfl)
      intro g a0 x1 x2 x3 H locs ls hF hP hS hl
      have hF : f7_counted_77b (f7_counted_77 n77) g a0 x1 x2 x3 = some (rr, gz) := hF
      unfold f7_counted_77b at hF
      refine lv_iload_n hx hb dX7_counted_77 rfl (lv_at hl 3 rfl) ?_
      refine lv_aload_n hx hb dX7_counted_78 rfl (lv_at hl 0 rfl) ?_
      obtain ⟨h18, hF⟩ := g_if hF
      refine g_get hx hb hts hiX7 hown hK hP 7 rfl (by decide) h18 9 (by decide) (hts (.fieldLink RX7 52 "CourierBeesModel" "letters" "I") (by decide +kernel)) (fun _ h9 => h9) (gFv_i (Or.inl rfl)) dX7_counted_79 ?_
      refine lv_icmp_ge (tgt := 118) hx hb dX7_counted_82 (by decide) (fun c19 => ?_) (fun c19 => ?_)
      · have hF := g_t c19 hF
        refine lv_iload_n hx hb dX7_counted_118 rfl (lv_at hl 2 rfl) ?_
        exact g_retI hx hb hr hlocks hF hP hS (Nat.le_of_ble_eq_true rfl) (Nat.le_of_ble_eq_true rfl) dX7_counted_119
      · have hF := g_f c19 hF
        refine lv_iload_n hx hb dX7_counted_85 rfl (lv_at hl 2 rfl) ?_
        refine lv_aload_n hx hb dX7_counted_86 rfl (lv_at hl 0 rfl) ?_
        refine lv_iload_n hx hb dX7_counted_87 rfl (lv_at hl 3 rfl) ?_
        refine lv_iload_n hx hb dX7_counted_88 rfl (lv_at hl 1 rfl) ?_
        refine lv_iconst (v := 5) hx hb dX7_counted_89 (by decide) ?_
        refine lv_icmp_ne (tgt := 97) hx hb dX7_counted_90 (by decide) (fun c20 => ?_) (fun c20 => ?_)
        · have hF := g_f c20 hF
          refine lv_iconst (v := 2) hx hb dX7_counted_97 (by decide) ?_
          exact HB98 _ _ _ _ _ _ _ _ _ _ _ hF hP hS (lv_sub hl [0, 1, 3] rfl)
        · have hF := g_t c20 hF
          refine lv_iconst (v := 3) hx hb dX7_counted_93 (by decide) ?_
          refine lv_goto (tgt := 98) hx hb dX7_counted_94 (by decide) ?_
          exact HB98 _ _ _ _ _ _ _ _ _ _ _ hF hP hS (lv_sub hl [0, 1, 3] rfl)
  have HB75 : ∀ (g : g_H) (a0 : Nat) (x1 : Int32) (x2 : Int32) (H : Heap) (locs : List Loc) (ls : Array Slot), f7_counted_75 g a0 x1 x2 = some (rr, gz) → gP base D s g H → va_S (gA base) s.heap H locs → lv_has ls 4 [(0, .ref a0), (1, .int x1), (2, .int x2)] → W p l e ({ frames := 2, cells := 0, slots := 0, locals := 43 } : Room) s m args below meth c H locs 0 0 (MQ below (gQi base D rr gz) args s 0 0 (gA base)) (F0 m 75 ls []) := by
    intro g a0 x1 x2 H locs ls hF hP hS hl
    unfold f7_counted_75 at hF
    refine lv_iconst (v := 0) hx hb dX7_counted_75 (by decide) ?_
    refine lv_istore_n (lv' := [(3, .int ((0 : Int32))), (0, .ref a0), (1, .int x1), (2, .int x2)]) hx hb dX7_counted_76 rfl hl (by decide) rfl (fun ls hl => ?_)
    exact HL77 300 _ _ _ _ _ _ _ _ hF hP hS (lv_sub hl [1, 2, 3, 0] rfl)
  have HL122 : ∀ (n122 : Nat), ∀ (g : g_H) (a0 : Nat) (x2 : Int32) (x3 : Int32) (H : Heap) (locs : List Loc) (ls : Array Slot), f7_counted_122 n122 g a0 x2 x3 = some (rr, gz) → gP base D s g H → va_S (gA base) s.heap H locs → lv_has ls 4 [(0, .ref a0), (2, .int x2), (3, .int x3)] → W p l e ({ frames := 2, cells := 0, slots := 0, locals := 43 } : Room) s m args below meth c H locs 0 0 (MQ below (gQi base D rr gz) args s 0 0 (gA base)) (F0 m 122 ls []) := by
    intro n122
    induction n122 with
    | zero => intro g a0 x2 x3 H locs ls hF hP hS hl; exact g_no hF
    | succ n122 ih122 =>
      intro g a0 x2 x3 H locs ls hF hP hS hl
      have hF : f7_counted_122b (f7_counted_122 n122) g a0 x2 x3 = some (rr, gz) := hF
      unfold f7_counted_122b at hF
      refine lv_iload_n hx hb dX7_counted_122 rfl (lv_at hl 2 rfl) ?_
      refine lv_aload_n hx hb dX7_counted_123 rfl (lv_at hl 0 rfl) ?_
      obtain ⟨h26, hF⟩ := g_if hF
      refine g_get hx hb hts hiX7 hown hK hP 7 rfl (by decide) h26 6 (by decide) (hts (.fieldLink RX7 49 "CourierBeesModel" "bees" "I") (by decide +kernel)) (fun _ h9 => h9) (gFv_i (Or.inl rfl)) dX7_counted_124 ?_
      refine lv_icmp_ge (tgt := 145) hx hb dX7_counted_127 (by decide) (fun c27 => ?_) (fun c27 => ?_)
      · have hF := g_t c27 hF
        refine lv_iload_n hx hb dX7_counted_145 rfl (lv_at hl 1 rfl) ?_
        exact g_retI hx hb hr hlocks hF hP hS (Nat.le_of_ble_eq_true rfl) (Nat.le_of_ble_eq_true rfl) dX7_counted_146
      · have hF := g_f c27 hF
        refine lv_iload_n hx hb dX7_counted_130 rfl (lv_at hl 1 rfl) ?_
        refine lv_aload_n hx hb dX7_counted_131 rfl (lv_at hl 0 rfl) ?_
        refine lv_iload_n hx hb dX7_counted_132 rfl (lv_at hl 2 rfl) ?_
        refine lv_iconst (v := 4) hx hb dX7_counted_133 (by decide) ?_
        obtain ⟨v30, g29, h28, hF⟩ := g_bind2 hF
        refine g_calli (va_runV (As := [.int x3, .int ((4 : Int32))]) (rest := [.int x2]) ⟨hx, hb, hml, hown, hts⟩ (k7_be l D base g a0 x3 ((4 : Int32)) v30 g29 h28) (cwV 2 hts gX7_counted_X7_be rfl rfl rfl (by decide +kernel) ⟨Nat.le_of_ble_eq_true rfl, Nat.le_of_ble_eq_true rfl⟩) (gC.preV hE hP hS 7 rfl (by decide) h26 [.int x3, .int ((4 : Int32))]) rfl rfl hl.1 rfl (lv_room (Nat.le_of_ble_eq_true rfl)) dX7_counted_134 ⟨(Nat.le_of_ble_eq_true rfl), (Nat.le_of_ble_eq_true rfl)⟩) hS (fun H locs hP hS => ?_)
        refine lv_iadd hx hb dX7_counted_137 ?_
        refine lv_istore_n (lv' := [(2, .int (x2 + v30)), (0, .ref a0), (3, .int x3)]) hx hb dX7_counted_138 rfl hl (by decide) rfl (fun ls hl => ?_)
        refine lv_iinc (v := x3 + (1 : Int32)) (lv' := [(3, .int (x3 + (1 : Int32))), (2, .int (x2 + v30)), (0, .ref a0)]) hx hb dX7_counted_139 hl (k := 2) rfl rfl (by decide) rfl (fun ls hl => ?_)
        refine lv_goto (tgt := 122) hx hb dX7_counted_142 (by decide) ?_
        exact ih122 _ _ _ _ _ _ _ hF hP hS (lv_sub hl [2, 1, 0] rfl)
  have HL149 : ∀ (n149 : Nat), ∀ (g : g_H) (a0 : Nat) (x2 : Int32) (x3 : Int32) (H : Heap) (locs : List Loc) (ls : Array Slot), f7_counted_149 n149 g a0 x2 x3 = some (rr, gz) → gP base D s g H → va_S (gA base) s.heap H locs → lv_has ls 4 [(0, .ref a0), (2, .int x2), (3, .int x3)] → W p l e ({ frames := 2, cells := 0, slots := 0, locals := 43 } : Room) s m args below meth c H locs 0 0 (MQ below (gQi base D rr gz) args s 0 0 (gA base)) (F0 m 149 ls []) := by
    intro n149
    induction n149 with
    | zero => intro g a0 x2 x3 H locs ls hF hP hS hl; exact g_no hF
    | succ n149 ih149 =>
      have HB171 : ∀ (g : g_H) (a0 : Nat) (x3 : Int32) (s0 : Int32) (s1 : Int32) (H : Heap) (locs : List Loc) (ls : Array Slot), f7_counted_171 (f7_counted_149 n149) g a0 x3 s0 s1 = some (rr, gz) → gP base D s g H → va_S (gA base) s.heap H locs → lv_has ls 4 [(0, .ref a0), (3, .int x3)] → W p l e ({ frames := 2, cells := 0, slots := 0, locals := 43 } : Room) s m args below meth c H locs 0 0 (MQ below (gQi base D rr gz) args s 0 0 (gA base)) (F0 m 171 ls [.int s1, .int s0]) := by
        intro g a0 x3 s0 s1 H locs ls hF hP hS hl
        unfold f7_counted_171 at hF
        refine lv_iadd hx hb dX7_counted_171 ?_
        refine lv_istore_n (lv' := [(2, .int (s0 + s1)), (0, .ref a0), (3, .int x3)]) hx hb dX7_counted_172 rfl hl (by decide) rfl (fun ls hl => ?_)
        refine lv_iinc (v := x3 + (1 : Int32)) (lv' := [(3, .int (x3 + (1 : Int32))), (2, .int (s0 + s1)), (0, .ref a0)]) hx hb dX7_counted_173 hl (k := 2) rfl rfl (by decide) rfl (fun ls hl => ?_)
        refine lv_goto (tgt := 149) hx hb dX7_counted_176 (by decide) ?_
        exact ih149 _ _ _ _ _ _ _ hF hP hS (lv_sub hl [2, 1, 0] rfl)
      intro g a0 x2 x3 H locs ls hF hP hS hl
      have hF : f7_counted_149b (f7_counted_149 n149) g a0 x2 x3 = some (rr, gz) := hF
      unfold f7_counted_149b at hF
      refine lv_iload_n hx hb dX7_counted_149 rfl (lv_at hl 2 rfl) ?_
      refine lv_aload_n hx hb dX7_counted_150 rfl (lv_at hl 0 rfl) ?_
      obtain ⟨h31, hF⟩ := g_if hF
      refine g_get hx hb hts hiX7 hown hK hP 7 rfl (by decide) h31 3 (by decide) (hts (.fieldLink RX7 46 "CourierBeesModel" "lanes" "I") (by decide +kernel)) (fun _ h9 => h9) (gFv_i (Or.inl rfl)) dX7_counted_151 ?_
      refine lv_icmp_ge (tgt := 179) hx hb dX7_counted_154 (by decide) (fun c32 => ?_) (fun c32 => ?_)
      · have hF := g_t c32 hF
        refine lv_iload_n hx hb dX7_counted_179 rfl (lv_at hl 1 rfl) ?_
        exact g_retI hx hb hr hlocks hF hP hS (Nat.le_of_ble_eq_true rfl) (Nat.le_of_ble_eq_true rfl) dX7_counted_180
      · have hF := g_f c32 hF
        refine lv_iload_n hx hb dX7_counted_157 rfl (lv_at hl 1 rfl) ?_
        refine lv_aload_n hx hb dX7_counted_158 rfl (lv_at hl 0 rfl) ?_
        refine lv_iload_n hx hb dX7_counted_159 rfl (lv_at hl 2 rfl) ?_
        obtain ⟨v35, g34, h33, hF⟩ := g_bind2 hF
        refine g_calli (va_runV (As := [.int x3]) (rest := [.int x2]) ⟨hx, hb, hml, hown, hts⟩ (k7_isOpen l D base g a0 x3 v35 g34 h33) (cwV 1 hts gX7_counted_X7_isOpen rfl rfl rfl (by decide +kernel) ⟨Nat.le_of_ble_eq_true rfl, Nat.le_of_ble_eq_true rfl⟩) (gC.preV hE hP hS 7 rfl (by decide) h31 [.int x3]) rfl rfl hl.1 rfl (lv_room (Nat.le_of_ble_eq_true rfl)) dX7_counted_160 ⟨(Nat.le_of_ble_eq_true rfl), (Nat.le_of_ble_eq_true rfl)⟩) hS (fun H locs hP hS => ?_)
        refine lv_if_eq (tgt := 170) hx hb dX7_counted_163 (by decide) (fun c36 => ?_) (fun c36 => ?_)
        · have hF := g_t c36 hF
          refine lv_iconst (v := 0) hx hb dX7_counted_170 (by decide) ?_
          exact HB171 _ _ _ _ _ _ _ _ hF hP hS (lv_sub hl [0, 2] rfl)
        · have hF := g_f c36 hF
          refine lv_iconst (v := 1) hx hb dX7_counted_166 (by decide) ?_
          refine lv_goto (tgt := 171) hx hb dX7_counted_167 (by decide) ?_
          exact HB171 _ _ _ _ _ _ _ _ hF hP hS (lv_sub hl [0, 2] rfl)
  unfold f7_counted at hF
  refine lv_iconst (v := 0) hx hb dX7_counted_0 (by decide) ?_
  refine lv_istore_n (lv' := [(2, .int ((0 : Int32))), (0, .ref a0), (1, .int x1)]) hx hb dX7_counted_1 rfl hl (by decide) rfl (fun ls hl => ?_)
  refine lv_iload_n hx hb dX7_counted_2 rfl (lv_at hl 2 rfl) ?_
  by_cases c1 : x1 = (0 : Int32)
  · have hF := g_t c1 hF
    refine lv_tableIn (off := 45) (tgt := 48) hx hb dX7_counted_3 (by rw [c1]; decide) (by rw [c1]; decide) (by rw [c1]; rfl) (by decide) ?_
    refine lv_aload_n hx hb dX7_counted_48 rfl (lv_at hl 1 rfl) ?_
    obtain ⟨h9, hF⟩ := g_if hF
    obtain ⟨q10, hq11, hF⟩ := g_bind hF
    refine g_get hx hb hts hiX7 hown hK hP 7 rfl (by decide) h9 11 (by decide) (hts (.fieldLink RX7 29 "CourierBeesModel" "quarter" "[I") (by decide +kernel)) (fun _ h9 => h9) ((gFv_r (by decide)).trans (congrArg va_rf hq11)) dX7_counted_49 ?_
    refine lv_iconst (v := 0) hx hb dX7_counted_52 (by decide) ?_
    obtain ⟨h12, hF⟩ := g_if hF
    obtain ⟨h13, hF⟩ := g_if hF
    refine g_iald hx hb hP (g_pr h12) h13 dX7_counted_53 ?_
    exact g_retI hx hb hr hlocks hF hP hS (Nat.le_of_ble_eq_true rfl) (Nat.le_of_ble_eq_true rfl) dX7_counted_54
  · have hF := g_f c1 hF
    by_cases c2 : x1 = (1 : Int32)
    · have hF := g_t c2 hF
      refine lv_tableIn (off := 52) (tgt := 55) hx hb dX7_counted_3 (by rw [c2]; decide) (by rw [c2]; decide) (by rw [c2]; rfl) (by decide) ?_
      refine lv_aload_n hx hb dX7_counted_55 rfl (lv_at hl 1 rfl) ?_
      obtain ⟨h14, hF⟩ := g_if hF
      refine g_get hx hb hts hiX7 hown hK hP 7 rfl (by decide) h14 1 (by decide) (hts (.fieldLink RX7 39 "CourierBeesModel" "houses" "I") (by decide +kernel)) (fun _ h9 => h9) (gFv_i (Or.inl rfl)) dX7_counted_56 ?_
      exact g_retI hx hb hr hlocks hF hP hS (Nat.le_of_ble_eq_true rfl) (Nat.le_of_ble_eq_true rfl) dX7_counted_59
    · have hF := g_f c2 hF
      by_cases c3 : x1 = (2 : Int32)
      · have hF := g_t c3 hF
        refine lv_tableIn (off := 57) (tgt := 60) hx hb dX7_counted_3 (by rw [c3]; decide) (by rw [c3]; decide) (by rw [c3]; rfl) (by decide) ?_
        refine lv_aload_n hx hb dX7_counted_60 rfl (lv_at hl 1 rfl) ?_
        obtain ⟨h15, hF⟩ := g_if hF
        refine g_get hx hb hts hiX7 hown hK hP 7 rfl (by decide) h15 3 (by decide) (hts (.fieldLink RX7 46 "CourierBeesModel" "lanes" "I") (by decide +kernel)) (fun _ h9 => h9) (gFv_i (Or.inl rfl)) dX7_counted_61 ?_
        exact g_retI hx hb hr hlocks hF hP hS (Nat.le_of_ble_eq_true rfl) (Nat.le_of_ble_eq_true rfl) dX7_counted_64
      · have hF := g_f c3 hF
        by_cases c4 : x1 = (3 : Int32)
        · have hF := g_t c4 hF
          refine lv_tableIn (off := 62) (tgt := 65) hx hb dX7_counted_3 (by rw [c4]; decide) (by rw [c4]; decide) (by rw [c4]; rfl) (by decide) ?_
          refine lv_aload_n hx hb dX7_counted_65 rfl (lv_at hl 1 rfl) ?_
          obtain ⟨h16, hF⟩ := g_if hF
          refine g_get hx hb hts hiX7 hown hK hP 7 rfl (by decide) h16 6 (by decide) (hts (.fieldLink RX7 49 "CourierBeesModel" "bees" "I") (by decide +kernel)) (fun _ h9 => h9) (gFv_i (Or.inl rfl)) dX7_counted_66 ?_
          exact g_retI hx hb hr hlocks hF hP hS (Nat.le_of_ble_eq_true rfl) (Nat.le_of_ble_eq_true rfl) dX7_counted_69
        · have hF := g_f c4 hF
          by_cases c5 : x1 = (4 : Int32)
          · have hF := g_t c5 hF
            refine lv_tableIn (off := 67) (tgt := 70) hx hb dX7_counted_3 (by rw [c5]; decide) (by rw [c5]; decide) (by rw [c5]; rfl) (by decide) ?_
            refine lv_aload_n hx hb dX7_counted_70 rfl (lv_at hl 1 rfl) ?_
            obtain ⟨h17, hF⟩ := g_if hF
            refine g_get hx hb hts hiX7 hown hK hP 7 rfl (by decide) h17 9 (by decide) (hts (.fieldLink RX7 52 "CourierBeesModel" "letters" "I") (by decide +kernel)) (fun _ h9 => h9) (gFv_i (Or.inl rfl)) dX7_counted_71 ?_
            exact g_retI hx hb hr hlocks hF hP hS (Nat.le_of_ble_eq_true rfl) (Nat.le_of_ble_eq_true rfl) dX7_counted_74
          · have hF := g_f c5 hF
            by_cases c6 : x1 = (5 : Int32)
            · have hF := g_t c6 hF
              refine lv_tableIn (off := 72) (tgt := 75) hx hb dX7_counted_3 (by rw [c6]; decide) (by rw [c6]; decide) (by rw [c6]; rfl) (by decide) ?_
              exact HB75 _ _ _ _ _ _ _ hF hP hS (lv_sub hl [1, 2, 0] rfl)
            · have hF := g_f c6 hF
              by_cases c7 : x1 = (6 : Int32)
              · have hF := g_t c7 hF
                refine lv_tableIn (off := 72) (tgt := 75) hx hb dX7_counted_3 (by rw [c7]; decide) (by rw [c7]; decide) (by rw [c7]; rfl) (by decide) ?_
                exact HB75 _ _ _ _ _ _ _ hF hP hS (lv_sub hl [1, 2, 0] rfl)
              · have hF := g_f c7 hF
                by_cases c8 : x1 = (7 : Int32)
                · have hF := g_t c8 hF
                  refine lv_tableIn (off := 117) (tgt := 120) hx hb dX7_counted_3 (by rw [c8]; decide) (by rw [c8]; decide) (by rw [c8]; rfl) (by decide) ?_
                  refine lv_iconst (v := 0) hx hb dX7_counted_120 (by decide) ?_
                  refine lv_istore_n (lv' := [(3, .int ((0 : Int32))), (2, .int ((0 : Int32))), (0, .ref a0), (1, .int x1)]) hx hb dX7_counted_121 rfl hl (by decide) rfl (fun ls hl => ?_)
                  exact HL122 300 _ _ _ _ _ _ _ hF hP hS (lv_sub hl [2, 1, 0] rfl)
                · have hF := g_f c8 hF
                  refine lv_tableOut (tgt := 147) hx hb dX7_counted_3 (by have h9 := g_out x1 7 (by decide) (fun k hk => by rcases (show k = 0 ∨ k = 1 ∨ k = 2 ∨ k = 3 ∨ k = 4 ∨ k = 5 ∨ k = 6 ∨ k = 7 by omega) with rfl | rfl | rfl | rfl | rfl | rfl | rfl | rfl <;> assumption); omega) (by decide) ?_
                  refine lv_iconst (v := 0) hx hb dX7_counted_147 (by decide) ?_
                  refine lv_istore_n (lv' := [(3, .int ((0 : Int32))), (2, .int ((0 : Int32))), (0, .ref a0), (1, .int x1)]) hx hb dX7_counted_148 rfl hl (by decide) rfl (fun ls hl => ?_)
                  exact HL149 300 _ _ _ _ _ _ _ hF hP hS (lv_sub hl [2, 1, 0] rfl)
set_option maxHeartbeats 4000000 in
set_option maxRecDepth 100000 in
theorem k7_count (l : Launch) (D : va_G) (base : Nat) (g : g_H) (a0 : Nat) (x1 : Int32) (rr : Int32) (gz : g_H) (hF : f7_count g a0 x1 = some (rr, gz)) : Met l yX7_count wsX7_count ({ frames := 3, cells := 0, slots := 0, locals := 66 } : Room) (va_Pc [.ref a0, .int x1] (gC base D g)) (gQi base D rr gz) 0 0 (gA base) := by
  refine g_met (cc := cX7_count) (maxL := 2) (ret := (some .int)) (lst := [(0, .ref a0), (1, .int x1)]) (by decide) rfl (Nat.le_of_ble_eq_true rfl) rfl ?_
  intro p e s m args below meth c ls hx hb hr hml hown hlocks hname hts hE hP hl
  have hown : s.vm.findClass RX7 = some m.cls := hown
  have hK := hE.1
  have hov := hE.2.2.2.2.2.2.2.1
  have hbz := hE.2.2.2.2.2.2.2.2.2.2.2.2
  have hS : va_S (gA base) s.heap s.heap [] := va_S.rf
  have hiX7 : ∀ w ∈ wsX70, w ∈ wsX7_count := by decide +kernel
  unfold f7_count at hF
  refine lv_aload_n hx hb dX7_count_0 rfl (lv_at hl 0 rfl) ?_
  refine lv_iconst (v := 0) hx hb dX7_count_1 (by decide) ?_
  obtain ⟨h1, hF⟩ := g_if hF
  refine g_puti hx hb hts hiX7 tyX7 tyX7_ok nmX7 hown hK hP hS 7 rfl (by decide) h1 0 (by decide) (hts (.fieldLink RX7 35 "CourierBeesModel" "thrown" "I") (by decide +kernel)) (fun _ h9 => h9) (Or.inl rfl) (Or.inl rfl) rfl rfl dX7_count_2 (fun H locs hP hS => ?_)
  refine lv_iload_n hx hb dX7_count_5 rfl (lv_at hl 1 rfl) ?_
  refine lv_iconst (v := 0) hx hb dX7_count_6 (by decide) ?_
  refine lv_bipush (v := 8) hx hb dX7_count_7 (by decide) ?_
  obtain ⟨v4, g3, h2, hF⟩ := g_bind2 hF
  refine g_calli (va_runS (As := [.int x1, .int ((0 : Int32)), .int ((8 : Int32))]) (rest := []) ⟨hx, hb, hml, hown, hts⟩ (k7_isIn l D base (gPI g a0 0 ((0 : Int32))) x1 ((0 : Int32)) ((8 : Int32)) v4 g3 h2) (va_cwS 3 hts gX7_count_X7_isIn rfl rfl rfl (by decide +kernel) ⟨Nat.le_of_ble_eq_true rfl, Nat.le_of_ble_eq_true rfl⟩) (gC.preS hE hP hS [.int x1, .int ((0 : Int32)), .int ((8 : Int32))]) rfl rfl hl.1 rfl (lv_room (Nat.le_of_ble_eq_true rfl)) dX7_count_9 ⟨(Nat.le_of_ble_eq_true rfl), (Nat.le_of_ble_eq_true rfl)⟩) hS (fun H locs hP hS => ?_)
  refine lv_if_eq (tgt := 23) hx hb dX7_count_12 (by decide) (fun c5 => ?_) (fun c5 => ?_)
  · have hF := g_t c5 hF
    refine lv_aload_n hx hb dX7_count_23 rfl (lv_at hl 0 rfl) ?_
    refine lv_iconst (v := 1) hx hb dX7_count_24 (by decide) ?_
    obtain ⟨h7, hF⟩ := g_if hF
    obtain ⟨v9, g8, h6, hF⟩ := g_bind2 hF
    refine g_calli (va_runV (As := [.int ((1 : Int32))]) (rest := []) ⟨hx, hb, hml, hown, hts⟩ (k7_fail l D base g3 a0 ((1 : Int32)) v9 g8 h6) (cwV 1 hts gX7_count_X7_fail rfl rfl rfl (by decide +kernel) ⟨Nat.le_of_ble_eq_true rfl, Nat.le_of_ble_eq_true rfl⟩) (gC.preV hE hP hS 7 rfl (by decide) h7 [.int ((1 : Int32))]) rfl rfl hl.1 rfl (lv_room (Nat.le_of_ble_eq_true rfl)) dX7_count_25 ⟨(Nat.le_of_ble_eq_true rfl), (Nat.le_of_ble_eq_true rfl)⟩) hS (fun H locs hP hS => ?_)
    exact g_retI hx hb hr hlocks hF hP hS (Nat.le_of_ble_eq_true rfl) (Nat.le_of_ble_eq_true rfl) dX7_count_28
  · have hF := g_f c5 hF
    refine lv_aload_n hx hb dX7_count_15 rfl (lv_at hl 0 rfl) ?_
    refine lv_iload_n hx hb dX7_count_16 rfl (lv_at hl 1 rfl) ?_
    obtain ⟨h11, hF⟩ := g_if hF
    obtain ⟨v13, g12, h10, hF⟩ := g_bind2 hF
    refine g_calli (va_runV (As := [.int x1]) (rest := []) ⟨hx, hb, hml, hown, hts⟩ (k7_counted l D base g3 a0 x1 v13 g12 h10) (cwV 1 hts gX7_count_X7_counted rfl rfl rfl (by decide +kernel) ⟨Nat.le_of_ble_eq_true rfl, Nat.le_of_ble_eq_true rfl⟩) (gC.preV hE hP hS 7 rfl (by decide) h11 [.int x1]) rfl rfl hl.1 rfl (lv_room (Nat.le_of_ble_eq_true rfl)) dX7_count_17 ⟨(Nat.le_of_ble_eq_true rfl), (Nat.le_of_ble_eq_true rfl)⟩) hS (fun H locs hP hS => ?_)
    refine lv_goto (tgt := 28) hx hb dX7_count_20 (by decide) ?_
    exact g_retI hx hb hr hlocks hF hP hS (Nat.le_of_ble_eq_true rfl) (Nat.le_of_ble_eq_true rfl) dX7_count_28
set_option maxHeartbeats 4000000 in
set_option maxRecDepth 100000 in
theorem k7_kept (l : Launch) (D : va_G) (base : Nat) (g : g_H) (a0 : Nat) (rr : Nat) (gz : g_H) (hF : f7_kept g a0 = some (rr, gz)) : Met l yX7_kept wsX7_kept ({ frames := 1, cells := 4, slots := 387, locals := 30 } : Room) (va_Pc [.ref a0] (gC base D g)) (gQr base D rr gz) 4 387 (gA base) := by
  refine g_met (cc := cX7_kept) (maxL := 1) (ret := (some (.array (.array .int)))) (lst := [(0, .ref a0)]) (by decide) rfl (Nat.le_of_ble_eq_true rfl) rfl ?_
  intro p e s m args below meth c ls hx hb hr hml hown hlocks hname hts hE hP hl
  have hown : s.vm.findClass RX7 = some m.cls := hown
  have hK := hE.1
  have hov := hE.2.2.2.2.2.2.2.1
  have hbz := hE.2.2.2.2.2.2.2.2.2.2.2.2
  have hS : va_S (gA base) s.heap s.heap [] := va_S.rf
  have hiX7 : ∀ w ∈ wsX70, w ∈ wsX7_kept := by decide +kernel
  unfold f7_kept at hF
  refine lv_iconst (v := 3) hx hb dX7_kept_0 (by decide) ?_
  obtain ⟨q1, g2, e3, e4, h5, hF⟩ := g_nw hF
  refine g_newqA hx hb hown (hts (.classLink RX7 155 (FieldType.array .int).toString) (by decide +kernel)) hov hP hS hbz (n := 3) (N' := 3) (by decide) (by decide) (Nat.le_of_ble_eq_true rfl) (Nat.le_of_ble_eq_true rfl) (Nat.le_of_ble_eq_true rfl) dX7_kept_1 (fun H hP hS => ?_)
  rw [e4] at hP
  rw [e3]
  refine lv_dup hx hb dX7_kept_4 rfl ?_
  refine lv_iconst (v := 0) hx hb dX7_kept_5 (by decide) ?_
  refine lv_aload_n hx hb dX7_kept_6 rfl (lv_at hl 0 rfl) ?_
  obtain ⟨h6, hF⟩ := g_if hF
  obtain ⟨q7, hq8, hF⟩ := g_bind hF
  refine g_get hx hb hts hiX7 hown hK hP 7 rfl (by decide) h6 7 (by decide) (hts (.fieldLink RX7 20 "CourierBeesModel" "swarm" "[I") (by decide +kernel)) (fun _ h9 => h9) ((gFv_r (by decide)).trans (congrArg va_rf hq8)) dX7_kept_7 ?_
  obtain ⟨h9, hF⟩ := g_if hF
  obtain ⟨h10, hF⟩ := g_if hF
  obtain ⟨q11, g12, e13, e14, h15, hF⟩ := g_nw hF
  refine g_clone hx hb (hml.trans hl.1.symm) hown (hts (.methodLink RX7 156 ⟨"[I", "clone", "()Ljava/lang/Object;"⟩) (by decide +kernel)) (hts (.sameMethod "[I" "java/lang/Object" "clone" "()Ljava/lang/Object;") (by decide +kernel)) (hts (.native ⟨"java/lang/Object", "clone", "()Ljava/lang/Object;"⟩) (by decide +kernel)) (hts (.instanceMethod ⟨"java/lang/Object", "clone", "()Ljava/lang/Object;"⟩) (by decide +kernel)) (hts (.selects "[I" ⟨"[I", "clone", "()Ljava/lang/Object;"⟩ ⟨"java/lang/Object", "clone", "()Ljava/lang/Object;"⟩) (by decide +kernel)) (hE.2.2.2.2.2.2.2.2.1 ("[I", "java/lang/Cloneable") (by decide)) hP hS hbz (g_pr h9) (Nat.le_of_ble_eq_true rfl) (Nat.le_of_ble_eq_true rfl) 128 h10 (Nat.le_of_ble_eq_true rfl) (Nat.le_of_ble_eq_true rfl) dX7_kept_10 (fun H hP hS => ?_)
  rw [e14] at hP
  rw [e13]
  refine g_castI hx hb hown (hts (.classLink RX7 155 "[I") (by decide +kernel)) hP (g_pr h15) dX7_kept_13 ?_
  obtain ⟨h16, hF⟩ := g_if hF
  obtain ⟨h17, hF⟩ := g_if hF
  refine g_aastA hx hb hP hS (g_pr h16) (g_pr h15) hov h17 dX7_kept_16 (fun H locs hP hS => ?_)
  refine lv_dup hx hb dX7_kept_17 rfl ?_
  refine lv_iconst (v := 1) hx hb dX7_kept_18 (by decide) ?_
  refine lv_aload_n hx hb dX7_kept_19 rfl (lv_at hl 0 rfl) ?_
  obtain ⟨h18, hF⟩ := g_if hF
  obtain ⟨q19, hq20, hF⟩ := g_bind hF
  refine g_get hx hb hts hiX7 hown hK hP 7 rfl (by decide) h18 10 (by decide) (hts (.fieldLink RX7 26 "CourierBeesModel" "post" "[I") (by decide +kernel)) (fun _ h9 => h9) ((gFv_r (by decide)).trans (congrArg va_rf hq20)) dX7_kept_20 ?_
  obtain ⟨h21, hF⟩ := g_if hF
  obtain ⟨h22, hF⟩ := g_if hF
  obtain ⟨q23, g24, e25, e26, h27, hF⟩ := g_nw hF
  refine g_clone hx hb (hml.trans hl.1.symm) hown (hts (.methodLink RX7 156 ⟨"[I", "clone", "()Ljava/lang/Object;"⟩) (by decide +kernel)) (hts (.sameMethod "[I" "java/lang/Object" "clone" "()Ljava/lang/Object;") (by decide +kernel)) (hts (.native ⟨"java/lang/Object", "clone", "()Ljava/lang/Object;"⟩) (by decide +kernel)) (hts (.instanceMethod ⟨"java/lang/Object", "clone", "()Ljava/lang/Object;"⟩) (by decide +kernel)) (hts (.selects "[I" ⟨"[I", "clone", "()Ljava/lang/Object;"⟩ ⟨"java/lang/Object", "clone", "()Ljava/lang/Object;"⟩) (by decide +kernel)) (hE.2.2.2.2.2.2.2.2.1 ("[I", "java/lang/Cloneable") (by decide)) hP hS hbz (g_pr h21) (Nat.le_of_ble_eq_true rfl) (Nat.le_of_ble_eq_true rfl) 128 h22 (Nat.le_of_ble_eq_true rfl) (Nat.le_of_ble_eq_true rfl) dX7_kept_23 (fun H hP hS => ?_)
  rw [e26] at hP
  rw [e25]
  refine g_castI hx hb hown (hts (.classLink RX7 155 "[I") (by decide +kernel)) hP (g_pr h27) dX7_kept_26 ?_
  obtain ⟨h28, hF⟩ := g_if hF
  obtain ⟨h29, hF⟩ := g_if hF
  refine g_aastA hx hb hP hS (g_pr h28) (g_pr h27) hov h29 dX7_kept_29 (fun H locs hP hS => ?_)
  refine lv_dup hx hb dX7_kept_30 rfl ?_
  refine lv_iconst (v := 2) hx hb dX7_kept_31 (by decide) ?_
  refine lv_aload_n hx hb dX7_kept_32 rfl (lv_at hl 0 rfl) ?_
  obtain ⟨h30, hF⟩ := g_if hF
  obtain ⟨q31, hq32, hF⟩ := g_bind hF
  refine g_get hx hb hts hiX7 hown hK hP 7 rfl (by decide) h30 11 (by decide) (hts (.fieldLink RX7 29 "CourierBeesModel" "quarter" "[I") (by decide +kernel)) (fun _ h9 => h9) ((gFv_r (by decide)).trans (congrArg va_rf hq32)) dX7_kept_33 ?_
  obtain ⟨h33, hF⟩ := g_if hF
  obtain ⟨h34, hF⟩ := g_if hF
  obtain ⟨q35, g36, e37, e38, h39, hF⟩ := g_nw hF
  refine g_clone hx hb (hml.trans hl.1.symm) hown (hts (.methodLink RX7 156 ⟨"[I", "clone", "()Ljava/lang/Object;"⟩) (by decide +kernel)) (hts (.sameMethod "[I" "java/lang/Object" "clone" "()Ljava/lang/Object;") (by decide +kernel)) (hts (.native ⟨"java/lang/Object", "clone", "()Ljava/lang/Object;"⟩) (by decide +kernel)) (hts (.instanceMethod ⟨"java/lang/Object", "clone", "()Ljava/lang/Object;"⟩) (by decide +kernel)) (hts (.selects "[I" ⟨"[I", "clone", "()Ljava/lang/Object;"⟩ ⟨"java/lang/Object", "clone", "()Ljava/lang/Object;"⟩) (by decide +kernel)) (hE.2.2.2.2.2.2.2.2.1 ("[I", "java/lang/Cloneable") (by decide)) hP hS hbz (g_pr h33) (Nat.le_of_ble_eq_true rfl) (Nat.le_of_ble_eq_true rfl) 128 h34 (Nat.le_of_ble_eq_true rfl) (Nat.le_of_ble_eq_true rfl) dX7_kept_36 (fun H hP hS => ?_)
  rw [e38] at hP
  rw [e37]
  refine g_castI hx hb hown (hts (.classLink RX7 155 "[I") (by decide +kernel)) hP (g_pr h39) dX7_kept_39 ?_
  obtain ⟨h40, hF⟩ := g_if hF
  obtain ⟨h41, hF⟩ := g_if hF
  refine g_aastA hx hb hP hS (g_pr h40) (g_pr h39) hov h41 dX7_kept_42 (fun H locs hP hS => ?_)
  exact g_retA hx hb hr (Or.inr ⟨_, rfl⟩) hlocks hF hP hS (Nat.le_of_ble_eq_true rfl) (Nat.le_of_ble_eq_true rfl) dX7_kept_43
set_option maxHeartbeats 4000000 in
set_option maxRecDepth 100000 in
theorem k7_bringBack (l : Launch) (D : va_G) (base : Nat) (g : g_H) (a0 : Nat) (a1 : Nat) (gz : g_H) (hF : f7_bringBack g a0 a1 = some gz) : Met l yX7_bringBack wsX7_bringBack ({ frames := 1, cells := 0, slots := 0, locals := 30 } : Room) (va_Pc [.ref a0, .ref a1] (gC base D g)) (gQv base D gz) 0 0 (gA base) := by
  refine g_met (cc := cX7_bringBack) (maxL := 2) (ret := none) (lst := [(0, .ref a0), (1, .ref a1)]) (by decide) rfl (Nat.le_of_ble_eq_true rfl) rfl ?_
  intro p e s m args below meth c ls hx hb hr hml hown hlocks hname hts hE hP hl
  have hown : s.vm.findClass RX7 = some m.cls := hown
  have hK := hE.1
  have hov := hE.2.2.2.2.2.2.2.1
  have hbz := hE.2.2.2.2.2.2.2.2.2.2.2.2
  have hS : va_S (gA base) s.heap s.heap [] := va_S.rf
  have hiX7 : ∀ w ∈ wsX70, w ∈ wsX7_bringBack := by decide +kernel
  unfold f7_bringBack at hF
  refine lv_aload_n hx hb dX7_bringBack_0 rfl (lv_at hl 1 rfl) ?_
  refine lv_iconst (v := 0) hx hb dX7_bringBack_1 (by decide) ?_
  obtain ⟨h1, hF⟩ := g_if hF
  obtain ⟨h2, hF⟩ := g_if hF
  obtain ⟨q3, hq4, hF⟩ := g_bind hF
  refine g_aald hx hb hP (g_pr h1) (by decide) h2 hq4 dX7_bringBack_2 ?_
  refine lv_iconst (v := 0) hx hb dX7_bringBack_3 (by decide) ?_
  refine lv_aload_n hx hb dX7_bringBack_4 rfl (lv_at hl 0 rfl) ?_
  obtain ⟨h5, hF⟩ := g_if hF
  obtain ⟨q6, hq7, hF⟩ := g_bind hF
  refine g_get hx hb hts hiX7 hown hK hP 7 rfl (by decide) h5 7 (by decide) (hts (.fieldLink RX7 20 "CourierBeesModel" "swarm" "[I") (by decide +kernel)) (fun _ h9 => h9) ((gFv_r (by decide)).trans (congrArg va_rf hq7)) dX7_bringBack_5 ?_
  refine lv_iconst (v := 0) hx hb dX7_bringBack_8 (by decide) ?_
  refine lv_aload_n hx hb dX7_bringBack_9 rfl (lv_at hl 0 rfl) ?_
  obtain ⟨q8, hq9, hF⟩ := g_bind hF
  refine g_get hx hb hts hiX7 hown hK hP 7 rfl (by decide) h5 7 (by decide) (hts (.fieldLink RX7 20 "CourierBeesModel" "swarm" "[I") (by decide +kernel)) (fun _ h9 => h9) ((gFv_r (by decide)).trans (congrArg va_rf hq9)) dX7_bringBack_10 ?_
  obtain ⟨h10, hF⟩ := g_if hF
  refine g_alen hx hb hP (g_pr h10) (by decide) dX7_bringBack_13 ?_
  obtain ⟨h11, hF⟩ := g_if hF
  obtain ⟨h12, hF⟩ := g_if hF
  obtain ⟨h13, hF⟩ := g_if hF
  refine g_copy hx hb (hml.trans hl.1.symm) hown (hts (.methodLink RX7 75 arraycopyName) (by decide +kernel)) (hts (.native arraycopyName) (by decide +kernel)) (hts (.static arraycopyName) (by decide +kernel)) (hts (.initialized "java/lang/System") (by decide +kernel)) hP hS (g_pr h11) (g_pr h12) h13.1 h13.2.1 h13.2.2.1 h13.2.2.2.1 h13.2.2.2.2 (Nat.le_of_ble_eq_true rfl) (by decide) dX7_bringBack_14 (fun H locs hP hS => ?_)
  refine lv_aload_n hx hb dX7_bringBack_17 rfl (lv_at hl 1 rfl) ?_
  refine lv_iconst (v := 1) hx hb dX7_bringBack_18 (by decide) ?_
  obtain ⟨h14, hF⟩ := g_if hF
  obtain ⟨q15, hq16, hF⟩ := g_bind hF
  refine g_aald hx hb hP (g_pr h1) (by decide) h14 hq16 dX7_bringBack_19 ?_
  refine lv_iconst (v := 0) hx hb dX7_bringBack_20 (by decide) ?_
  refine lv_aload_n hx hb dX7_bringBack_21 rfl (lv_at hl 0 rfl) ?_
  obtain ⟨q17, hq18, hF⟩ := g_bind hF
  refine g_get hx hb hts hiX7 hown hK hP 7 rfl (by decide) h5 10 (by decide) (hts (.fieldLink RX7 26 "CourierBeesModel" "post" "[I") (by decide +kernel)) (fun _ h9 => h9) ((gFv_r (by decide)).trans (congrArg va_rf hq18)) dX7_bringBack_22 ?_
  refine lv_iconst (v := 0) hx hb dX7_bringBack_25 (by decide) ?_
  refine lv_aload_n hx hb dX7_bringBack_26 rfl (lv_at hl 0 rfl) ?_
  obtain ⟨q19, hq20, hF⟩ := g_bind hF
  refine g_get hx hb hts hiX7 hown hK hP 7 rfl (by decide) h5 10 (by decide) (hts (.fieldLink RX7 26 "CourierBeesModel" "post" "[I") (by decide +kernel)) (fun _ h9 => h9) ((gFv_r (by decide)).trans (congrArg va_rf hq20)) dX7_bringBack_27 ?_
  obtain ⟨h21, hF⟩ := g_if hF
  refine g_alen hx hb hP (g_pr h21) (by decide) dX7_bringBack_30 ?_
  obtain ⟨h22, hF⟩ := g_if hF
  obtain ⟨h23, hF⟩ := g_if hF
  obtain ⟨h24, hF⟩ := g_if hF
  refine g_copy hx hb (hml.trans hl.1.symm) hown (hts (.methodLink RX7 75 arraycopyName) (by decide +kernel)) (hts (.native arraycopyName) (by decide +kernel)) (hts (.static arraycopyName) (by decide +kernel)) (hts (.initialized "java/lang/System") (by decide +kernel)) hP hS (g_pr h22) (g_pr h23) h24.1 h24.2.1 h24.2.2.1 h24.2.2.2.1 h24.2.2.2.2 (Nat.le_of_ble_eq_true rfl) (by decide) dX7_bringBack_31 (fun H locs hP hS => ?_)
  obtain ⟨g25, e26, hF⟩ := g_let hF
  rw [e26] at hP
  have h27 : (gS g25 a1).1 = 14 := by rw [← e26]; exact h1
  have h28 : (gS g25 a0).1 = 8 := by rw [← e26]; exact h5
  have h29 : (gS g25 q8).1 = 11 := by rw [← e26]; exact h10
  have h30 : (gS g25 q3).1 = 11 := by rw [← e26]; exact h11
  have h31 : (gS g25 q6).1 = 11 := by rw [← e26]; exact h12
  have h32 : (gS g25 q19).1 = 11 := by rw [← e26]; exact h21
  have h33 : (gS g25 q15).1 = 11 := by rw [← e26]; exact h22
  have h34 : (gS g25 q17).1 = 11 := by rw [← e26]; exact h23
  refine lv_aload_n hx hb dX7_bringBack_34 rfl (lv_at hl 0 rfl) ?_
  obtain ⟨q35, hq36, hF⟩ := g_bind hF
  refine g_get hx hb hts hiX7 hown hK hP 7 rfl (by decide) h28 11 (by decide) (hts (.fieldLink RX7 29 "CourierBeesModel" "quarter" "[I") (by decide +kernel)) (fun _ h9 => h9) ((gFv_r (by decide)).trans (congrArg va_rf hq36)) dX7_bringBack_35 ?_
  refine lv_iconst (v := 0) hx hb dX7_bringBack_38 (by decide) ?_
  refine lv_aload_n hx hb dX7_bringBack_39 rfl (lv_at hl 1 rfl) ?_
  refine lv_iconst (v := 2) hx hb dX7_bringBack_40 (by decide) ?_
  obtain ⟨h37, hF⟩ := g_if hF
  obtain ⟨q38, hq39, hF⟩ := g_bind hF
  refine g_aald hx hb hP (g_pr h27) (by decide) h37 hq39 dX7_bringBack_41 ?_
  refine lv_iconst (v := 0) hx hb dX7_bringBack_42 (by decide) ?_
  obtain ⟨h40, hF⟩ := g_if hF
  obtain ⟨h41, hF⟩ := g_if hF
  refine g_iald hx hb hP (g_pr h40) h41 dX7_bringBack_43 ?_
  obtain ⟨y42, e43, hF⟩ := g_let hF
  rw [e43]
  obtain ⟨h44, hF⟩ := g_if hF
  obtain ⟨h45, hF⟩ := g_if hF
  refine g_iast hx hb hP hS (g_pr h44) h45 dX7_bringBack_44 (fun H locs hP hS => ?_)
  exact g_retV hx hb hr hlocks hF hP hS (Nat.le_of_ble_eq_true rfl) (Nat.le_of_ble_eq_true rfl) dX7_bringBack_45
set_option maxHeartbeats 4000000 in
set_option maxRecDepth 100000 in
theorem k7_comes (l : Launch) (D : va_G) (base : Nat) (g : g_H) (a0 : Nat) (x1 : Int32) (rr : Int32) (gz : g_H) (hF : f7_comes g a0 x1 = some (rr, gz)) : Met l yX7_comes wsX7_comes ({ frames := 5, cells := 4, slots := 387, locals := 118 } : Room) (va_Pc [.ref a0, .int x1] (gC base D g)) (gQi base D rr gz) 4 387 (gA base) := by
  refine g_met (cc := cX7_comes) (maxL := 4) (ret := (some .int)) (lst := [(0, .ref a0), (1, .int x1)]) (by decide) rfl (Nat.le_of_ble_eq_true rfl) rfl ?_
  intro p e s m args below meth c ls hx hb hr hml hown hlocks hname hts hE hP hl
  have hown : s.vm.findClass RX7 = some m.cls := hown
  have hK := hE.1
  have hov := hE.2.2.2.2.2.2.2.1
  have hbz := hE.2.2.2.2.2.2.2.2.2.2.2.2
  have hS : va_S (gA base) s.heap s.heap [] := va_S.rf
  have hiX7 : ∀ w ∈ wsX70, w ∈ wsX7_comes := by decide +kernel
  have HB66 : ∀ (g : g_H) (a0 : Nat) (a2 : Nat) (x3 : Int32) (H : Heap) (locs : List Loc) (ls : Array Slot), f7_comes_66 g a0 a2 x3 = some (rr, gz) → gP base D s g H → va_S (gA base) s.heap H locs → lv_has ls 4 [(0, .ref a0), (2, .ref a2), (3, .int x3)] → W p l e ({ frames := 5, cells := 4, slots := 387, locals := 118 } : Room) s m args below meth c H locs 4 387 (MQ below (gQi base D rr gz) args s 4 387 (gA base)) (F0 m 66 ls []) := by
    intro g a0 a2 x3 H locs ls hF hP hS hl
    unfold f7_comes_66 at hF
    refine lv_aload_n hx hb dX7_comes_66 rfl (lv_at hl 0 rfl) ?_
    refine lv_aload_n hx hb dX7_comes_67 rfl (lv_at hl 1 rfl) ?_
    obtain ⟨h17, hF⟩ := g_if hF
    obtain ⟨g18, h16, hF⟩ := g_bind hF
    refine g_callv (va_runV (As := [.ref a2]) (rest := []) ⟨hx, hb, hml, hown, hts⟩ (k7_bringBack l D base g a0 a2 g18 h16) (cwV 1 hts gX7_comes_X7_bringBack rfl rfl rfl (by decide +kernel) ⟨Nat.le_of_ble_eq_true rfl, Nat.le_of_ble_eq_true rfl⟩) (gC.preV hE hP hS 7 rfl (by decide) h17 [.ref a2]) rfl rfl hl.1 rfl (lv_room (Nat.le_of_ble_eq_true rfl)) dX7_comes_68 ⟨(Nat.le_of_ble_eq_true rfl), (Nat.le_of_ble_eq_true rfl)⟩) hS (fun H locs hP hS => ?_)
    refine lv_iload_n hx hb dX7_comes_71 rfl (lv_at hl 2 rfl) ?_
    exact g_retI hx hb hr hlocks hF hP hS (Nat.le_of_ble_eq_true rfl) (Nat.le_of_ble_eq_true rfl) dX7_comes_72
  have HB54 : ∀ (g : g_H) (a0 : Nat) (x1 : Int32) (a2 : Nat) (x3 : Int32) (H : Heap) (locs : List Loc) (ls : Array Slot), f7_comes_54 g a0 x1 a2 x3 = some (rr, gz) → gP base D s g H → va_S (gA base) s.heap H locs → lv_has ls 4 [(0, .ref a0), (1, .int x1), (2, .ref a2), (3, .int x3)] → W p l e ({ frames := 5, cells := 4, slots := 387, locals := 118 } : Room) s m args below meth c H locs 4 387 (MQ below (gQi base D rr gz) args s 4 387 (gA base)) (F0 m 54 ls []) := by
    intro g a0 x1 a2 x3 H locs ls hF hP hS hl
    unfold f7_comes_54 at hF
    refine lv_aload_n hx hb dX7_comes_54 rfl (lv_at hl 0 rfl) ?_
    refine lv_iload_n hx hb dX7_comes_55 rfl (lv_at hl 1 rfl) ?_
    refine lv_iconst (v := 3) hx hb dX7_comes_56 (by decide) ?_
    obtain ⟨h12, hF⟩ := g_if hF
    obtain ⟨v14, g13, h11, hF⟩ := g_bind2 hF
    refine g_calli (va_runV (As := [.int x1, .int ((3 : Int32))]) (rest := []) ⟨hx, hb, hml, hown, hts⟩ (k7_le l D base g a0 x1 ((3 : Int32)) v14 g13 h11) (cwV 2 hts gX7_comes_X7_le rfl rfl rfl (by decide +kernel) ⟨Nat.le_of_ble_eq_true rfl, Nat.le_of_ble_eq_true rfl⟩) (gC.preV hE hP hS 7 rfl (by decide) h12 [.int x1, .int ((3 : Int32))]) rfl rfl hl.1 rfl (lv_room (Nat.le_of_ble_eq_true rfl)) dX7_comes_57 ⟨(Nat.le_of_ble_eq_true rfl), (Nat.le_of_ble_eq_true rfl)⟩) hS (fun H locs hP hS => ?_)
    refine lv_iconst (v := (-1)) hx hb dX7_comes_60 (by decide) ?_
    refine lv_icmp_ne (tgt := 66) hx hb dX7_comes_61 (by decide) (fun c15 => ?_) (fun c15 => ?_)
    · have hF := g_f c15 hF
      exact HB66 _ _ _ _ _ _ _ hF hP hS (lv_sub hl [0, 2, 3] rfl)
    · have hF := g_t c15 hF
      refine lv_iconst (v := (-1)) hx hb dX7_comes_64 (by decide) ?_
      refine lv_istore_n (lv' := [(3, .int ((-1 : Int32))), (0, .ref a0), (1, .int x1), (2, .ref a2)]) hx hb dX7_comes_65 rfl hl (by decide) rfl (fun ls hl => ?_)
      exact HB66 _ _ _ _ _ _ _ hF hP hS (lv_sub hl [1, 3, 0] rfl)
  have HL26 : ∀ (n26 : Nat), ∀ (g : g_H) (a0 : Nat) (x1 : Int32) (a2 : Nat) (x3 : Int32) (H : Heap) (locs : List Loc) (ls : Array Slot), f7_comes_26 n26 g a0 x1 a2 x3 = some (rr, gz) → gP base D s g H → va_S (gA base) s.heap H locs → lv_has ls 4 [(0, .ref a0), (1, .int x1), (2, .ref a2), (3, .int x3)] → W p l e ({ frames := 5, cells := 4, slots := 387, locals := 118 } : Room) s m args below meth c H locs 4 387 (MQ below (gQi base D rr gz) args s 4 387 (gA base)) (F0 m 26 ls []) := by
    intro n26
    induction n26 with
    | zero => intro g a0 x1 a2 x3 H locs ls hF hP hS hl; exact g_no hF
    | succ n26 ih26 =>
      intro g a0 x1 a2 x3 H locs ls hF hP hS hl
      have hF : f7_comes_26b (f7_comes_26 n26) g a0 x1 a2 x3 = some (rr, gz) := hF
      unfold f7_comes_26b at hF
      refine lv_iload_n hx hb dX7_comes_26 rfl (lv_at hl 3 rfl) ?_
      refine lv_sipush (v := 240) hx hb dX7_comes_27 (by decide) ?_
      refine lv_icmp_ge (tgt := 54) hx hb dX7_comes_30 (by decide) (fun c10 => ?_) (fun c10 => ?_)
      · have hF := g_t c10 hF
        exact HB54 _ _ _ _ _ _ _ _ hF hP hS (lv_sub hl [0, 1, 2, 3] rfl)
      · have hF := g_f c10 hF
        refine lv_aload_n hx hb dX7_comes_33 rfl (lv_at hl 0 rfl) ?_
        refine lv_iload_n hx hb dX7_comes_34 rfl (lv_at hl 1 rfl) ?_
        refine lv_iconst (v := 3) hx hb dX7_comes_35 (by decide) ?_
        obtain ⟨h21, hF⟩ := g_if hF
        obtain ⟨v23, g22, h20, hF⟩ := g_bind2 hF
        refine g_calli (va_runV (As := [.int x1, .int ((3 : Int32))]) (rest := []) ⟨hx, hb, hml, hown, hts⟩ (k7_le l D base g a0 x1 ((3 : Int32)) v23 g22 h20) (cwV 2 hts gX7_comes_X7_le rfl rfl rfl (by decide +kernel) ⟨Nat.le_of_ble_eq_true rfl, Nat.le_of_ble_eq_true rfl⟩) (gC.preV hE hP hS 7 rfl (by decide) h21 [.int x1, .int ((3 : Int32))]) rfl rfl hl.1 rfl (lv_room (Nat.le_of_ble_eq_true rfl)) dX7_comes_36 ⟨(Nat.le_of_ble_eq_true rfl), (Nat.le_of_ble_eq_true rfl)⟩) hS (fun H locs hP hS => ?_)
        refine lv_iconst (v := (-1)) hx hb dX7_comes_39 (by decide) ?_
        refine lv_icmp_ne (tgt := 54) hx hb dX7_comes_40 (by decide) (fun c24 => ?_) (fun c24 => ?_)
        · have hF := g_f c24 hF
          exact HB54 _ _ _ _ _ _ _ _ hF hP hS (lv_sub hl [0, 1, 2, 3] rfl)
        · have hF := g_t c24 hF
          refine lv_aload_n hx hb dX7_comes_43 rfl (lv_at hl 0 rfl) ?_
          obtain ⟨h26, hF⟩ := g_if hF
          obtain ⟨v28, g27, h25, hF⟩ := g_bind2 hF
          refine g_calli (va_runV (As := []) (rest := []) ⟨hx, hb, hml, hown, hts⟩ (k7_quarterOn l D base g22 a0 v28 g27 h25) (cwV 0 hts gX7_comes_X7_quarterOn rfl rfl rfl (by decide +kernel) ⟨Nat.le_of_ble_eq_true rfl, Nat.le_of_ble_eq_true rfl⟩) (gC.preV hE hP hS 7 rfl (by decide) h26 []) rfl rfl hl.1 rfl (lv_room (Nat.le_of_ble_eq_true rfl)) dX7_comes_44 ⟨(Nat.le_of_ble_eq_true rfl), (Nat.le_of_ble_eq_true rfl)⟩) hS (fun H locs hP hS => ?_)
          refine lv_pop hx hb dX7_comes_47 rfl ?_
          refine lv_iinc (v := x3 + (1 : Int32)) (lv' := [(3, .int (x3 + (1 : Int32))), (0, .ref a0), (1, .int x1), (2, .ref a2)]) hx hb dX7_comes_48 hl (k := 3) rfl rfl (by decide) rfl (fun ls hl => ?_)
          refine lv_goto (tgt := 26) hx hb dX7_comes_51 (by decide) ?_
          exact ih26 _ _ _ _ _ _ _ _ hF hP hS (lv_sub hl [1, 2, 3, 0] rfl)
  unfold f7_comes at hF
  refine lv_aload_n hx hb dX7_comes_0 rfl (lv_at hl 0 rfl) ?_
  refine lv_iconst (v := 0) hx hb dX7_comes_1 (by decide) ?_
  obtain ⟨h1, hF⟩ := g_if hF
  refine g_puti hx hb hts hiX7 tyX7 tyX7_ok nmX7 hown hK hP hS 7 rfl (by decide) h1 0 (by decide) (hts (.fieldLink RX7 35 "CourierBeesModel" "thrown" "I") (by decide +kernel)) (fun _ h9 => h9) (Or.inl rfl) (Or.inl rfl) rfl rfl dX7_comes_2 (fun H locs hP hS => ?_)
  refine lv_aload_n hx hb dX7_comes_5 rfl (lv_at hl 0 rfl) ?_
  refine lv_iload_n hx hb dX7_comes_6 rfl (lv_at hl 1 rfl) ?_
  obtain ⟨v4, g3, h2, hF⟩ := g_bind2 hF
  refine g_calli (va_runV (As := [.int x1]) (rest := []) ⟨hx, hb, hml, hown, hts⟩ (k7_isLetter l D base (gPI g a0 0 ((0 : Int32))) a0 x1 v4 g3 h2) (cwV 1 hts gX7_comes_X7_isLetter rfl rfl rfl (by decide +kernel) ⟨Nat.le_of_ble_eq_true rfl, Nat.le_of_ble_eq_true rfl⟩) (gC.preV hE hP hS 7 rfl (by decide) h1 [.int x1]) rfl rfl hl.1 rfl (lv_room (Nat.le_of_ble_eq_true rfl)) dX7_comes_7 ⟨(Nat.le_of_ble_eq_true rfl), (Nat.le_of_ble_eq_true rfl)⟩) hS (fun H locs hP hS => ?_)
  refine lv_if_ne (tgt := 19) hx hb dX7_comes_10 (by decide) (fun c5 => ?_) (fun c5 => ?_)
  · have hF := g_f c5 hF
    refine lv_aload_n hx hb dX7_comes_19 rfl (lv_at hl 0 rfl) ?_
    obtain ⟨h7, hF⟩ := g_if hF
    obtain ⟨v9, g8, h6, hF⟩ := g_bind2 hF
    refine g_callr (va_runV (As := []) (rest := []) ⟨hx, hb, hml, hown, hts⟩ (k7_kept l D base g3 a0 v9 g8 h6) (cwV 0 hts gX7_comes_X7_kept rfl rfl rfl (by decide +kernel) ⟨Nat.le_of_ble_eq_true rfl, Nat.le_of_ble_eq_true rfl⟩) (gC.preV hE hP hS 7 rfl (by decide) h7 []) rfl rfl hl.1 rfl (lv_room (Nat.le_of_ble_eq_true rfl)) dX7_comes_20 ⟨(Nat.le_of_ble_eq_true rfl), (Nat.le_of_ble_eq_true rfl)⟩) hS (fun H locs hP hS => ?_)
    refine lv_astore_n (lv' := [(2, .ref v9), (0, .ref a0), (1, .int x1)]) hx hb dX7_comes_23 rfl hl (by decide) rfl (fun ls hl => ?_)
    refine lv_iconst (v := 0) hx hb dX7_comes_24 (by decide) ?_
    refine lv_istore_n (lv' := [(3, .int ((0 : Int32))), (2, .ref v9), (0, .ref a0), (1, .int x1)]) hx hb dX7_comes_25 rfl hl (by decide) rfl (fun ls hl => ?_)
    exact HL26 300 _ _ _ _ _ _ _ _ hF hP hS (lv_sub hl [2, 3, 1, 0] rfl)
  · have hF := g_t c5 hF
    refine lv_aload_n hx hb dX7_comes_13 rfl (lv_at hl 0 rfl) ?_
    refine lv_iconst (v := 1) hx hb dX7_comes_14 (by decide) ?_
    obtain ⟨h30, hF⟩ := g_if hF
    obtain ⟨v32, g31, h29, hF⟩ := g_bind2 hF
    refine g_calli (va_runV (As := [.int ((1 : Int32))]) (rest := []) ⟨hx, hb, hml, hown, hts⟩ (k7_fail l D base g3 a0 ((1 : Int32)) v32 g31 h29) (cwV 1 hts gX7_comes_X7_fail rfl rfl rfl (by decide +kernel) ⟨Nat.le_of_ble_eq_true rfl, Nat.le_of_ble_eq_true rfl⟩) (gC.preV hE hP hS 7 rfl (by decide) h30 [.int ((1 : Int32))]) rfl rfl hl.1 rfl (lv_room (Nat.le_of_ble_eq_true rfl)) dX7_comes_15 ⟨(Nat.le_of_ble_eq_true rfl), (Nat.le_of_ble_eq_true rfl)⟩) hS (fun H locs hP hS => ?_)
    exact g_retI hx hb hr hlocks hF hP hS (Nat.le_of_ble_eq_true rfl) (Nat.le_of_ble_eq_true rfl) dX7_comes_18
end
section
set_option maxHeartbeats 4000000 in
set_option maxRecDepth 100000 in
theorem k7_advise (l : Launch) (D : va_G) (base : Nat) (g : g_H) (a0 : Nat) (x1 : Int32) (rr : Int32) (gz : g_H) (hF : f7_advise g a0 x1 = some (rr, gz)) : Met l yX7_advise wsX7_advise ({ frames := 5, cells := 4, slots := 387, locals := 118 } : Room) (va_Pc [.ref a0, .int x1] (gC base D g)) (gQi base D rr gz) 4 387 (gA base) := by
  refine g_met (cc := cX7_advise) (maxL := 10) (ret := (some .int)) (lst := [(0, .ref a0), (1, .int x1)]) (by decide) rfl (Nat.le_of_ble_eq_true rfl) rfl ?_
  intro p e s m args below meth c ls hx hb hr hml hown hlocks hname hts hE hP hl
  have hown : s.vm.findClass RX7 = some m.cls := hown
  have hK := hE.1
  have hov := hE.2.2.2.2.2.2.2.1
  have hbz := hE.2.2.2.2.2.2.2.2.2.2.2.2
  have hS : va_S (gA base) s.heap s.heap [] := va_S.rf
  have hiX7 : ∀ w ∈ wsX70, w ∈ wsX7_advise := by decide +kernel
  have HL34 : ∀ (n34 : Nat), ∀ (g : g_H) (a0 : Nat) (x1 : Int32) (a2 : Nat) (x3 : Int32) (x4 : Int32) (x5 : Int32) (H : Heap) (locs : List Loc) (ls : Array Slot), f7_advise_34 n34 g a0 x1 a2 x3 x4 x5 = some (rr, gz) → gP base D s g H → va_S (gA base) s.heap H locs → lv_has ls 10 [(0, .ref a0), (1, .int x1), (2, .ref a2), (3, .int x3), (4, .int x4), (5, .int x5)] → W p l e ({ frames := 5, cells := 4, slots := 387, locals := 118 } : Room) s m args below meth c H locs 4 387 (MQ below (gQi base D rr gz) args s 4 387 (gA base)) (F0 m 34 ls []) := by
    intro n34
    induction n34 with
    | zero => intro g a0 x1 a2 x3 x4 x5 H locs ls hF hP hS hl; exact g_no hF
    | succ n34 ih34 =>
      have HB169 : ∀ (g : g_H) (a0 : Nat) (x1 : Int32) (a2 : Nat) (x3 : Int32) (x4 : Int32) (x5 : Int32) (H : Heap) (locs : List Loc) (ls : Array Slot), f7_advise_169 (f7_advise_34 n34) g a0 x1 a2 x3 x4 x5 = some (rr, gz) → gP base D s g H → va_S (gA base) s.heap H locs → lv_has ls 10 [(0, .ref a0), (1, .int x1), (2, .ref a2), (3, .int x3), (4, .int x4), (5, .int x5)] → W p l e ({ frames := 5, cells := 4, slots := 387, locals := 118 } : Room) s m args below meth c H locs 4 387 (MQ below (gQi base D rr gz) args s 4 387 (gA base)) (F0 m 169 ls []) := by
        intro g a0 x1 a2 x3 x4 x5 H locs ls hF hP hS hl
        unfold f7_advise_169 at hF
        refine lv_iinc (v := x5 + (1 : Int32)) (lv' := [(5, .int (x5 + (1 : Int32))), (0, .ref a0), (1, .int x1), (2, .ref a2), (3, .int x3), (4, .int x4)]) hx hb dX7_advise_169 hl (k := 5) rfl rfl (by decide) rfl (fun ls hl => ?_)
        refine lv_goto (tgt := 34) hx hb dX7_advise_172 (by decide) ?_
        exact ih34 _ _ _ _ _ _ _ _ _ _ hF hP hS (lv_sub hl [1, 2, 3, 4, 5, 0] rfl)
      have HB162 : ∀ (g : g_H) (a0 : Nat) (x1 : Int32) (a2 : Nat) (x5 : Int32) (x8 : Int32) (H : Heap) (locs : List Loc) (ls : Array Slot), f7_advise_162 (f7_advise_34 n34) g a0 x1 a2 x5 x8 = some (rr, gz) → gP base D s g H → va_S (gA base) s.heap H locs → lv_has ls 10 [(0, .ref a0), (1, .int x1), (2, .ref a2), (5, .int x5), (8, .int x8)] → W p l e ({ frames := 5, cells := 4, slots := 387, locals := 118 } : Room) s m args below meth c H locs 4 387 (MQ below (gQi base D rr gz) args s 4 387 (gA base)) (F0 m 162 ls []) := by
        intro g a0 x1 a2 x5 x8 H locs ls hF hP hS hl
        unfold f7_advise_162 at hF
        refine lv_iload hx hb dX7_advise_162 (lv_at hl 3 rfl) ?_
        refine lv_istore_n (lv' := [(3, .int x5), (0, .ref a0), (1, .int x1), (2, .ref a2), (5, .int x5), (8, .int x8)]) hx hb dX7_advise_164 rfl hl (by decide) rfl (fun ls hl => ?_)
        refine lv_iload hx hb dX7_advise_165 (lv_at hl 5 rfl) ?_
        refine lv_istore (lv' := [(4, .int x8), (3, .int x5), (0, .ref a0), (1, .int x1), (2, .ref a2), (5, .int x5), (8, .int x8)]) hx hb dX7_advise_167 hl (by decide) rfl (fun ls hl => ?_)
        exact HB169 _ _ _ _ _ _ _ _ _ _ hF hP hS (lv_sub hl [2, 3, 4, 1, 0, 5] rfl)
      have HB146 : ∀ (g : g_H) (a0 : Nat) (x1 : Int32) (a2 : Nat) (x3 : Int32) (x4 : Int32) (x5 : Int32) (x8 : Int32) (H : Heap) (locs : List Loc) (ls : Array Slot), f7_advise_146 (f7_advise_34 n34) g a0 x1 a2 x3 x4 x5 x8 = some (rr, gz) → gP base D s g H → va_S (gA base) s.heap H locs → lv_has ls 10 [(0, .ref a0), (1, .int x1), (2, .ref a2), (3, .int x3), (4, .int x4), (5, .int x5), (8, .int x8)] → W p l e ({ frames := 5, cells := 4, slots := 387, locals := 118 } : Room) s m args below meth c H locs 4 387 (MQ below (gQi base D rr gz) args s 4 387 (gA base)) (F0 m 146 ls []) := by
        intro g a0 x1 a2 x3 x4 x5 x8 H locs ls hF hP hS hl
        unfold f7_advise_146 at hF
        refine lv_iload hx hb dX7_advise_146 (lv_at hl 5 rfl) ?_
        refine lv_iconst (v := (-1)) hx hb dX7_advise_148 (by decide) ?_
        refine lv_icmp_eq (tgt := 162) hx hb dX7_advise_149 (by decide) (fun c28 => ?_) (fun c28 => ?_)
        · have hF := g_t c28 hF
          exact HB162 _ _ _ _ _ _ _ _ _ hF hP hS (lv_sub hl [0, 1, 2, 5, 6] rfl)
        · have hF := g_f c28 hF
          refine lv_iload hx hb dX7_advise_152 (lv_at hl 6 rfl) ?_
          refine lv_iload hx hb dX7_advise_154 (lv_at hl 4 rfl) ?_
          refine lv_icmp_gt (tgt := 162) hx hb dX7_advise_156 (by decide) (fun c29 => ?_) (fun c29 => ?_)
          · have hF := g_t c29 hF
            exact HB162 _ _ _ _ _ _ _ _ _ hF hP hS (lv_sub hl [0, 1, 2, 5, 6] rfl)
          · have hF := g_f c29 hF
            refine lv_goto (tgt := 169) hx hb dX7_advise_159 (by decide) ?_
            exact HB169 _ _ _ _ _ _ _ _ _ _ hF hP hS (lv_sub hl [0, 1, 2, 3, 4, 5] rfl)
      have HL103 : ∀ (n103 : Nat), ∀ (g : g_H) (a0 : Nat) (x1 : Int32) (a2 : Nat) (x3 : Int32) (x4 : Int32) (x5 : Int32) (x6 : Int32) (x7 : Int32) (x8 : Int32) (x9 : Int32) (H : Heap) (locs : List Loc) (ls : Array Slot), f7_advise_103 (f7_advise_34 n34) n103 g a0 x1 a2 x3 x4 x5 x6 x7 x8 x9 = some (rr, gz) → gP base D s g H → va_S (gA base) s.heap H locs → lv_has ls 10 [(0, .ref a0), (1, .int x1), (2, .ref a2), (3, .int x3), (4, .int x4), (5, .int x5), (6, .int x6), (7, .int x7), (8, .int x8), (9, .int x9)] → W p l e ({ frames := 5, cells := 4, slots := 387, locals := 118 } : Room) s m args below meth c H locs 4 387 (MQ below (gQi base D rr gz) args s 4 387 (gA base)) (F0 m 103 ls []) := by
        intro n103
        induction n103 with
        | zero => intro g a0 x1 a2 x3 x4 x5 x6 x7 x8 x9 H locs ls hF hP hS hl; exact g_no hF
        | succ n103 ih103 =>
          intro g a0 x1 a2 x3 x4 x5 x6 x7 x8 x9 H locs ls hF hP hS hl
          have hF : f7_advise_103b (f7_advise_34 n34) (f7_advise_103 (f7_advise_34 n34) n103) g a0 x1 a2 x3 x4 x5 x6 x7 x8 x9 = some (rr, gz) := hF
          unfold f7_advise_103b at hF
          refine lv_iload hx hb dX7_advise_103 (lv_at hl 9 rfl) ?_
          refine lv_iload_n hx hb dX7_advise_105 rfl (lv_at hl 1 rfl) ?_
          refine lv_icmp_ge (tgt := 124) hx hb dX7_advise_106 (by decide) (fun c22 => ?_) (fun c22 => ?_)
          · have hF := g_t c22 hF
            refine lv_aload_n hx hb dX7_advise_124 rfl (lv_at hl 0 rfl) ?_
            refine lv_aload_n hx hb dX7_advise_125 rfl (lv_at hl 2 rfl) ?_
            obtain ⟨h24, hF⟩ := g_if hF
            obtain ⟨g25, h23, hF⟩ := g_bind hF
            refine g_callv (va_runV (As := [.ref a2]) (rest := []) ⟨hx, hb, hml, hown, hts⟩ (k7_bringBack l D base g a0 a2 g25 h23) (cwV 1 hts gX7_advise_X7_bringBack rfl rfl rfl (by decide +kernel) ⟨Nat.le_of_ble_eq_true rfl, Nat.le_of_ble_eq_true rfl⟩) (gC.preV hE hP hS 7 rfl (by decide) h24 [.ref a2]) rfl rfl hl.1 rfl (lv_room (Nat.le_of_ble_eq_true rfl)) dX7_advise_126 ⟨(Nat.le_of_ble_eq_true rfl), (Nat.le_of_ble_eq_true rfl)⟩) hS (fun H locs hP hS => ?_)
            refine lv_iload hx hb dX7_advise_129 (lv_at hl 5 rfl) ?_
            refine lv_iconst (v := (-1)) hx hb dX7_advise_131 (by decide) ?_
            refine lv_icmp_eq (tgt := 146) hx hb dX7_advise_132 (by decide) (fun c27 => ?_) (fun c27 => ?_)
            · have hF := g_t c27 hF
              exact HB146 _ _ _ _ _ _ _ _ _ _ _ hF hP hS (lv_sub hl [0, 1, 2, 3, 4, 5, 8] rfl)
            · have hF := g_f c27 hF
              refine lv_aload_n hx hb dX7_advise_135 rfl (lv_at hl 0 rfl) ?_
              refine lv_iload hx hb dX7_advise_136 (lv_at hl 5 rfl) ?_
              refine lv_iload hx hb dX7_advise_138 (lv_at hl 6 rfl) ?_
              refine lv_iload hx hb dX7_advise_140 (lv_at hl 7 rfl) ?_
              obtain ⟨h31, hF⟩ := g_if hF
              obtain ⟨v33, g32, h30, hF⟩ := g_bind2 hF
              refine g_calli (va_runV (As := [.int x5, .int x6, .int x7]) (rest := []) ⟨hx, hb, hml, hown, hts⟩ (k7_setGate l D base g25 a0 x5 x6 x7 v33 g32 h30) (cwV 3 hts gX7_advise_X7_setGate rfl rfl rfl (by decide +kernel) ⟨Nat.le_of_ble_eq_true rfl, Nat.le_of_ble_eq_true rfl⟩) (gC.preV hE hP hS 7 rfl (by decide) h31 [.int x5, .int x6, .int x7]) rfl rfl hl.1 rfl (lv_room (Nat.le_of_ble_eq_true rfl)) dX7_advise_142 ⟨(Nat.le_of_ble_eq_true rfl), (Nat.le_of_ble_eq_true rfl)⟩) hS (fun H locs hP hS => ?_)
              refine lv_pop hx hb dX7_advise_145 rfl ?_
              exact HB146 _ _ _ _ _ _ _ _ _ _ _ hF hP hS (lv_sub hl [0, 1, 2, 3, 4, 5, 8] rfl)
          · have hF := g_f c22 hF
            refine lv_iload hx hb dX7_advise_109 (lv_at hl 8 rfl) ?_
            refine lv_aload_n hx hb dX7_advise_111 rfl (lv_at hl 0 rfl) ?_
            obtain ⟨h35, hF⟩ := g_if hF
            obtain ⟨v37, g36, h34, hF⟩ := g_bind2 hF
            refine g_calli (va_runV (As := []) (rest := [.int x8]) ⟨hx, hb, hml, hown, hts⟩ (k7_quarterOn l D base g a0 v37 g36 h34) (cwV 0 hts gX7_advise_X7_quarterOn rfl rfl rfl (by decide +kernel) ⟨Nat.le_of_ble_eq_true rfl, Nat.le_of_ble_eq_true rfl⟩) (gC.preV hE hP hS 7 rfl (by decide) h35 []) rfl rfl hl.1 rfl (lv_room (Nat.le_of_ble_eq_true rfl)) dX7_advise_112 ⟨(Nat.le_of_ble_eq_true rfl), (Nat.le_of_ble_eq_true rfl)⟩) hS (fun H locs hP hS => ?_)
            refine lv_iadd hx hb dX7_advise_115 ?_
            refine lv_istore (lv' := [(8, .int (x8 + v37)), (0, .ref a0), (1, .int x1), (2, .ref a2), (3, .int x3), (4, .int x4), (5, .int x5), (6, .int x6), (7, .int x7), (9, .int x9)]) hx hb dX7_advise_116 hl (by decide) rfl (fun ls hl => ?_)
            refine lv_iinc (v := x9 + (1 : Int32)) (lv' := [(9, .int (x9 + (1 : Int32))), (8, .int (x8 + v37)), (0, .ref a0), (1, .int x1), (2, .ref a2), (3, .int x3), (4, .int x4), (5, .int x5), (6, .int x6), (7, .int x7)]) hx hb dX7_advise_118 hl (k := 9) rfl rfl (by decide) rfl (fun ls hl => ?_)
            refine lv_goto (tgt := 103) hx hb dX7_advise_121 (by decide) ?_
            exact ih103 _ _ _ _ _ _ _ _ _ _ _ _ _ _ hF hP hS (lv_sub hl [2, 3, 4, 5, 6, 7, 8, 9, 1, 0] rfl)
      have HB97 : ∀ (g : g_H) (a0 : Nat) (x1 : Int32) (a2 : Nat) (x3 : Int32) (x4 : Int32) (x5 : Int32) (x6 : Int32) (x7 : Int32) (H : Heap) (locs : List Loc) (ls : Array Slot), f7_advise_97 (f7_advise_34 n34) g a0 x1 a2 x3 x4 x5 x6 x7 = some (rr, gz) → gP base D s g H → va_S (gA base) s.heap H locs → lv_has ls 10 [(0, .ref a0), (1, .int x1), (2, .ref a2), (3, .int x3), (4, .int x4), (5, .int x5), (6, .int x6), (7, .int x7)] → W p l e ({ frames := 5, cells := 4, slots := 387, locals := 118 } : Room) s m args below meth c H locs 4 387 (MQ below (gQi base D rr gz) args s 4 387 (gA base)) (F0 m 97 ls []) := by
        intro g a0 x1 a2 x3 x4 x5 x6 x7 H locs ls hF hP hS hl
        unfold f7_advise_97 at hF
        refine lv_iconst (v := 0) hx hb dX7_advise_97 (by decide) ?_
        refine lv_istore (lv' := [(8, .int ((0 : Int32))), (0, .ref a0), (1, .int x1), (2, .ref a2), (3, .int x3), (4, .int x4), (5, .int x5), (6, .int x6), (7, .int x7)]) hx hb dX7_advise_98 hl (by decide) rfl (fun ls hl => ?_)
        refine lv_iconst (v := 0) hx hb dX7_advise_100 (by decide) ?_
        refine lv_istore (lv' := [(9, .int ((0 : Int32))), (8, .int ((0 : Int32))), (0, .ref a0), (1, .int x1), (2, .ref a2), (3, .int x3), (4, .int x4), (5, .int x5), (6, .int x6), (7, .int x7)]) hx hb dX7_advise_101 hl (by decide) rfl (fun ls hl => ?_)
        exact HL103 300 _ _ _ _ _ _ _ _ _ _ _ _ _ _ hF hP hS (lv_sub hl [2, 3, 4, 5, 6, 7, 8, 9, 1, 0] rfl)
      have HB79 : ∀ (g : g_H) (a0 : Nat) (x1 : Int32) (a2 : Nat) (x3 : Int32) (x4 : Int32) (x5 : Int32) (x6 : Int32) (s0 : Int32) (H : Heap) (locs : List Loc) (ls : Array Slot), f7_advise_79 (f7_advise_34 n34) g a0 x1 a2 x3 x4 x5 x6 s0 = some (rr, gz) → gP base D s g H → va_S (gA base) s.heap H locs → lv_has ls 10 [(0, .ref a0), (1, .int x1), (2, .ref a2), (3, .int x3), (4, .int x4), (5, .int x5), (6, .int x6)] → W p l e ({ frames := 5, cells := 4, slots := 387, locals := 118 } : Room) s m args below meth c H locs 4 387 (MQ below (gQi base D rr gz) args s 4 387 (gA base)) (F0 m 79 ls [.int s0]) := by
        intro g a0 x1 a2 x3 x4 x5 x6 s0 H locs ls hF hP hS hl
        unfold f7_advise_79 at hF
        refine lv_istore (lv' := [(7, .int s0), (0, .ref a0), (1, .int x1), (2, .ref a2), (3, .int x3), (4, .int x4), (5, .int x5), (6, .int x6)]) hx hb dX7_advise_79 hl (by decide) rfl (fun ls hl => ?_)
        refine lv_iload hx hb dX7_advise_81 (lv_at hl 6 rfl) ?_
        refine lv_iconst (v := (-1)) hx hb dX7_advise_83 (by decide) ?_
        refine lv_icmp_eq (tgt := 97) hx hb dX7_advise_84 (by decide) (fun c21 => ?_) (fun c21 => ?_)
        · have hF := g_t c21 hF
          exact HB97 _ _ _ _ _ _ _ _ _ _ _ _ hF hP hS (lv_sub hl [1, 2, 3, 4, 5, 6, 7, 0] rfl)
        · have hF := g_f c21 hF
          refine lv_aload_n hx hb dX7_advise_87 rfl (lv_at hl 1 rfl) ?_
          refine lv_iload hx hb dX7_advise_88 (lv_at hl 6 rfl) ?_
          refine lv_iconst (v := 0) hx hb dX7_advise_90 (by decide) ?_
          refine lv_bipush (v := 24) hx hb dX7_advise_91 (by decide) ?_
          obtain ⟨h39, hF⟩ := g_if hF
          obtain ⟨v41, g40, h38, hF⟩ := g_bind2 hF
          refine g_calli (va_runV (As := [.int x5, .int ((0 : Int32)), .int ((24 : Int32))]) (rest := []) ⟨hx, hb, hml, hown, hts⟩ (k7_setGate l D base g a0 x5 ((0 : Int32)) ((24 : Int32)) v41 g40 h38) (cwV 3 hts gX7_advise_X7_setGate rfl rfl rfl (by decide +kernel) ⟨Nat.le_of_ble_eq_true rfl, Nat.le_of_ble_eq_true rfl⟩) (gC.preV hE hP hS 7 rfl (by decide) h39 [.int x5, .int ((0 : Int32)), .int ((24 : Int32))]) rfl rfl hl.1 rfl (lv_room (Nat.le_of_ble_eq_true rfl)) dX7_advise_93 ⟨(Nat.le_of_ble_eq_true rfl), (Nat.le_of_ble_eq_true rfl)⟩) hS (fun H locs hP hS => ?_)
          refine lv_pop hx hb dX7_advise_96 rfl ?_
          exact HB97 _ _ _ _ _ _ _ _ _ _ _ _ hF hP hS (lv_sub hl [1, 2, 3, 4, 5, 6, 7, 0] rfl)
      have HB60 : ∀ (g : g_H) (a0 : Nat) (x1 : Int32) (a2 : Nat) (x3 : Int32) (x4 : Int32) (x5 : Int32) (s0 : Int32) (H : Heap) (locs : List Loc) (ls : Array Slot), f7_advise_60 (f7_advise_34 n34) g a0 x1 a2 x3 x4 x5 s0 = some (rr, gz) → gP base D s g H → va_S (gA base) s.heap H locs → lv_has ls 10 [(0, .ref a0), (1, .int x1), (2, .ref a2), (3, .int x3), (4, .int x4), (5, .int x5)] → W p l e ({ frames := 5, cells := 4, slots := 387, locals := 118 } : Room) s m args below meth c H locs 4 387 (MQ below (gQi base D rr gz) args s 4 387 (gA base)) (F0 m 60 ls [.int s0]) := by
        intro g a0 x1 a2 x3 x4 x5 s0 H locs ls hF hP hS hl
        unfold f7_advise_60 at hF
        refine lv_istore (lv' := [(6, .int s0), (0, .ref a0), (1, .int x1), (2, .ref a2), (3, .int x3), (4, .int x4), (5, .int x5)]) hx hb dX7_advise_60 hl (by decide) rfl (fun ls hl => ?_)
        refine lv_iload hx hb dX7_advise_62 (lv_at hl 6 rfl) ?_
        refine lv_iconst (v := (-1)) hx hb dX7_advise_64 (by decide) ?_
        refine lv_icmp_ne (tgt := 72) hx hb dX7_advise_65 (by decide) (fun c16 => ?_) (fun c16 => ?_)
        · have hF := g_f c16 hF
          refine lv_aload_n hx hb dX7_advise_72 rfl (lv_at hl 1 rfl) ?_
          refine lv_iload hx hb dX7_advise_73 (lv_at hl 6 rfl) ?_
          refine lv_iconst (v := 4) hx hb dX7_advise_75 (by decide) ?_
          obtain ⟨h18, hF⟩ := g_if hF
          obtain ⟨v20, g19, h17, hF⟩ := g_bind2 hF
          refine g_calli (va_runV (As := [.int x5, .int ((4 : Int32))]) (rest := []) ⟨hx, hb, hml, hown, hts⟩ (k7_ro l D base g a0 x5 ((4 : Int32)) v20 g19 h17) (cwV 2 hts gX7_advise_X7_ro rfl rfl rfl (by decide +kernel) ⟨Nat.le_of_ble_eq_true rfl, Nat.le_of_ble_eq_true rfl⟩) (gC.preV hE hP hS 7 rfl (by decide) h18 [.int x5, .int ((4 : Int32))]) rfl rfl hl.1 rfl (lv_room (Nat.le_of_ble_eq_true rfl)) dX7_advise_76 ⟨(Nat.le_of_ble_eq_true rfl), (Nat.le_of_ble_eq_true rfl)⟩) hS (fun H locs hP hS => ?_)
          exact HB79 _ _ _ _ _ _ _ _ _ _ _ _ hF hP hS (lv_sub hl [1, 2, 3, 4, 5, 6, 0] rfl)
        · have hF := g_t c16 hF
          refine lv_iconst (v := 0) hx hb dX7_advise_68 (by decide) ?_
          refine lv_goto (tgt := 79) hx hb dX7_advise_69 (by decide) ?_
          exact HB79 _ _ _ _ _ _ _ _ _ _ _ _ hF hP hS (lv_sub hl [1, 2, 3, 4, 5, 6, 0] rfl)
      intro g a0 x1 a2 x3 x4 x5 H locs ls hF hP hS hl
      have hF : f7_advise_34b (f7_advise_34 n34) g a0 x1 a2 x3 x4 x5 = some (rr, gz) := hF
      unfold f7_advise_34b at hF
      refine lv_iload hx hb dX7_advise_34 (lv_at hl 5 rfl) ?_
      refine lv_aload_n hx hb dX7_advise_36 rfl (lv_at hl 0 rfl) ?_
      obtain ⟨h10, hF⟩ := g_if hF
      refine g_get hx hb hts hiX7 hown hK hP 7 rfl (by decide) h10 3 (by decide) (hts (.fieldLink RX7 46 "CourierBeesModel" "lanes" "I") (by decide +kernel)) (fun _ h9 => h9) (gFv_i (Or.inl rfl)) dX7_advise_37 ?_
      refine lv_icmp_ge (tgt := 175) hx hb dX7_advise_40 (by decide) (fun c11 => ?_) (fun c11 => ?_)
      · have hF := g_t c11 hF
        refine lv_iload_n hx hb dX7_advise_175 rfl (lv_at hl 3 rfl) ?_
        exact g_retI hx hb hr hlocks hF hP hS (Nat.le_of_ble_eq_true rfl) (Nat.le_of_ble_eq_true rfl) dX7_advise_176
      · have hF := g_f c11 hF
        refine lv_iload hx hb dX7_advise_43 (lv_at hl 5 rfl) ?_
        refine lv_iconst (v := (-1)) hx hb dX7_advise_45 (by decide) ?_
        refine lv_icmp_ne (tgt := 53) hx hb dX7_advise_46 (by decide) (fun c12 => ?_) (fun c12 => ?_)
        · have hF := g_f c12 hF
          refine lv_aload_n hx hb dX7_advise_53 rfl (lv_at hl 0 rfl) ?_
          refine lv_iload hx hb dX7_advise_54 (lv_at hl 5 rfl) ?_
          refine lv_iconst (v := 3) hx hb dX7_advise_56 (by decide) ?_
          obtain ⟨v15, g14, h13, hF⟩ := g_bind2 hF
          refine g_calli (va_runV (As := [.int x5, .int ((3 : Int32))]) (rest := []) ⟨hx, hb, hml, hown, hts⟩ (k7_ro l D base g a0 x5 ((3 : Int32)) v15 g14 h13) (cwV 2 hts gX7_advise_X7_ro rfl rfl rfl (by decide +kernel) ⟨Nat.le_of_ble_eq_true rfl, Nat.le_of_ble_eq_true rfl⟩) (gC.preV hE hP hS 7 rfl (by decide) h10 [.int x5, .int ((3 : Int32))]) rfl rfl hl.1 rfl (lv_room (Nat.le_of_ble_eq_true rfl)) dX7_advise_57 ⟨(Nat.le_of_ble_eq_true rfl), (Nat.le_of_ble_eq_true rfl)⟩) hS (fun H locs hP hS => ?_)
          exact HB60 _ _ _ _ _ _ _ _ _ _ _ hF hP hS (lv_sub hl [0, 1, 2, 3, 4, 5] rfl)
        · have hF := g_t c12 hF
          refine lv_iconst (v := 0) hx hb dX7_advise_49 (by decide) ?_
          refine lv_goto (tgt := 60) hx hb dX7_advise_50 (by decide) ?_
          exact HB60 _ _ _ _ _ _ _ _ _ _ _ hF hP hS (lv_sub hl [0, 1, 2, 3, 4, 5] rfl)
  unfold f7_advise at hF
  refine lv_aload_n hx hb dX7_advise_0 rfl (lv_at hl 0 rfl) ?_
  refine lv_iconst (v := 0) hx hb dX7_advise_1 (by decide) ?_
  obtain ⟨h1, hF⟩ := g_if hF
  refine g_puti hx hb hts hiX7 tyX7 tyX7_ok nmX7 hown hK hP hS 7 rfl (by decide) h1 0 (by decide) (hts (.fieldLink RX7 35 "CourierBeesModel" "thrown" "I") (by decide +kernel)) (fun _ h9 => h9) (Or.inl rfl) (Or.inl rfl) rfl rfl dX7_advise_2 (fun H locs hP hS => ?_)
  refine lv_iload_n hx hb dX7_advise_5 rfl (lv_at hl 1 rfl) ?_
  refine lv_iconst (v := 1) hx hb dX7_advise_6 (by decide) ?_
  refine lv_bipush (v := 120) hx hb dX7_advise_7 (by decide) ?_
  obtain ⟨v4, g3, h2, hF⟩ := g_bind2 hF
  refine g_calli (va_runS (As := [.int x1, .int ((1 : Int32)), .int ((120 : Int32))]) (rest := []) ⟨hx, hb, hml, hown, hts⟩ (k7_isIn l D base (gPI g a0 0 ((0 : Int32))) x1 ((1 : Int32)) ((120 : Int32)) v4 g3 h2) (va_cwS 3 hts gX7_advise_X7_isIn rfl rfl rfl (by decide +kernel) ⟨Nat.le_of_ble_eq_true rfl, Nat.le_of_ble_eq_true rfl⟩) (gC.preS hE hP hS [.int x1, .int ((1 : Int32)), .int ((120 : Int32))]) rfl rfl hl.1 rfl (lv_room (Nat.le_of_ble_eq_true rfl)) dX7_advise_9 ⟨(Nat.le_of_ble_eq_true rfl), (Nat.le_of_ble_eq_true rfl)⟩) hS (fun H locs hP hS => ?_)
  refine lv_if_ne (tgt := 21) hx hb dX7_advise_12 (by decide) (fun c5 => ?_) (fun c5 => ?_)
  · have hF := g_f c5 hF
    refine lv_aload_n hx hb dX7_advise_21 rfl (lv_at hl 0 rfl) ?_
    obtain ⟨h7, hF⟩ := g_if hF
    obtain ⟨v9, g8, h6, hF⟩ := g_bind2 hF
    refine g_callr (va_runV (As := []) (rest := []) ⟨hx, hb, hml, hown, hts⟩ (k7_kept l D base g3 a0 v9 g8 h6) (cwV 0 hts gX7_advise_X7_kept rfl rfl rfl (by decide +kernel) ⟨Nat.le_of_ble_eq_true rfl, Nat.le_of_ble_eq_true rfl⟩) (gC.preV hE hP hS 7 rfl (by decide) h7 []) rfl rfl hl.1 rfl (lv_room (Nat.le_of_ble_eq_true rfl)) dX7_advise_22 ⟨(Nat.le_of_ble_eq_true rfl), (Nat.le_of_ble_eq_true rfl)⟩) hS (fun H locs hP hS => ?_)
    refine lv_astore_n (lv' := [(2, .ref v9), (0, .ref a0), (1, .int x1)]) hx hb dX7_advise_25 rfl hl (by decide) rfl (fun ls hl => ?_)
    refine lv_iconst (v := (-1)) hx hb dX7_advise_26 (by decide) ?_
    refine lv_istore_n (lv' := [(3, .int ((-1 : Int32))), (2, .ref v9), (0, .ref a0), (1, .int x1)]) hx hb dX7_advise_27 rfl hl (by decide) rfl (fun ls hl => ?_)
    refine lv_iconst (v := 0) hx hb dX7_advise_28 (by decide) ?_
    refine lv_istore (lv' := [(4, .int ((0 : Int32))), (3, .int ((-1 : Int32))), (2, .ref v9), (0, .ref a0), (1, .int x1)]) hx hb dX7_advise_29 hl (by decide) rfl (fun ls hl => ?_)
    refine lv_iconst (v := (-1)) hx hb dX7_advise_31 (by decide) ?_
    refine lv_istore (lv' := [(5, .int ((-1 : Int32))), (4, .int ((0 : Int32))), (3, .int ((-1 : Int32))), (2, .ref v9), (0, .ref a0), (1, .int x1)]) hx hb dX7_advise_32 hl (by decide) rfl (fun ls hl => ?_)
    exact HL34 300 _ _ _ _ _ _ _ _ _ _ hF hP hS (lv_sub hl [4, 5, 3, 2, 1, 0] rfl)
  · have hF := g_t c5 hF
    refine lv_aload_n hx hb dX7_advise_15 rfl (lv_at hl 0 rfl) ?_
    refine lv_iconst (v := 1) hx hb dX7_advise_16 (by decide) ?_
    obtain ⟨h43, hF⟩ := g_if hF
    obtain ⟨v45, g44, h42, hF⟩ := g_bind2 hF
    refine g_calli (va_runV (As := [.int ((1 : Int32))]) (rest := []) ⟨hx, hb, hml, hown, hts⟩ (k7_fail l D base g3 a0 ((1 : Int32)) v45 g44 h42) (cwV 1 hts gX7_advise_X7_fail rfl rfl rfl (by decide +kernel) ⟨Nat.le_of_ble_eq_true rfl, Nat.le_of_ble_eq_true rfl⟩) (gC.preV hE hP hS 7 rfl (by decide) h43 [.int ((1 : Int32))]) rfl rfl hl.1 rfl (lv_room (Nat.le_of_ble_eq_true rfl)) dX7_advise_17 ⟨(Nat.le_of_ble_eq_true rfl), (Nat.le_of_ble_eq_true rfl)⟩) hS (fun H locs hP hS => ?_)
    exact g_retI hx hb hr hlocks hF hP hS (Nat.le_of_ble_eq_true rfl) (Nat.le_of_ble_eq_true rfl) dX7_advise_20
set_option maxHeartbeats 4000000 in
set_option maxRecDepth 100000 in
theorem k7_trusted (l : Launch) (D : va_G) (base : Nat) (g : g_H) (a0 : Nat) (x1 : Int32) (rr : Int32) (gz : g_H) (hF : f7_trusted g a0 x1 = some (rr, gz)) : Met l yX7_trusted wsX7_trusted ({ frames := 3, cells := 0, slots := 0, locals := 71 } : Room) (va_Pc [.ref a0, .int x1] (gC base D g)) (gQi base D rr gz) 0 0 (gA base) := by
  refine g_met (cc := cX7_trusted) (maxL := 6) (ret := (some .int)) (lst := [(0, .ref a0), (1, .int x1)]) (by decide) rfl (Nat.le_of_ble_eq_true rfl) rfl ?_
  intro p e s m args below meth c ls hx hb hr hml hown hlocks hname hts hE hP hl
  have hown : s.vm.findClass RX7 = some m.cls := hown
  have hK := hE.1
  have hov := hE.2.2.2.2.2.2.2.1
  have hbz := hE.2.2.2.2.2.2.2.2.2.2.2.2
  have hS : va_S (gA base) s.heap s.heap [] := va_S.rf
  have hiX7 : ∀ w ∈ wsX70, w ∈ wsX7_trusted := by decide +kernel
  have HL23 : ∀ (n23 : Nat), ∀ (g : g_H) (a0 : Nat) (x1 : Int32) (x2 : Int32) (x3 : Int32) (H : Heap) (locs : List Loc) (ls : Array Slot), f7_trusted_23 n23 g a0 x1 x2 x3 = some (rr, gz) → gP base D s g H → va_S (gA base) s.heap H locs → lv_has ls 6 [(0, .ref a0), (1, .int x1), (2, .int x2), (3, .int x3)] → W p l e ({ frames := 3, cells := 0, slots := 0, locals := 71 } : Room) s m args below meth c H locs 0 0 (MQ below (gQi base D rr gz) args s 0 0 (gA base)) (F0 m 23 ls []) := by
    intro n23
    induction n23 with
    | zero => intro g a0 x1 x2 x3 H locs ls hF hP hS hl; exact g_no hF
    | succ n23 ih23 =>
      have HB105 : ∀ (g : g_H) (a0 : Nat) (x1 : Int32) (x2 : Int32) (x3 : Int32) (H : Heap) (locs : List Loc) (ls : Array Slot), f7_trusted_105 (f7_trusted_23 n23) g a0 x1 x2 x3 = some (rr, gz) → gP base D s g H → va_S (gA base) s.heap H locs → lv_has ls 6 [(0, .ref a0), (1, .int x1), (2, .int x2), (3, .int x3)] → W p l e ({ frames := 3, cells := 0, slots := 0, locals := 71 } : Room) s m args below meth c H locs 0 0 (MQ below (gQi base D rr gz) args s 0 0 (gA base)) (F0 m 105 ls []) := by
        intro g a0 x1 x2 x3 H locs ls hF hP hS hl
        unfold f7_trusted_105 at hF
        refine lv_iinc (v := x3 + (1 : Int32)) (lv' := [(3, .int (x3 + (1 : Int32))), (0, .ref a0), (1, .int x1), (2, .int x2)]) hx hb dX7_trusted_105 hl (k := 3) rfl rfl (by decide) rfl (fun ls hl => ?_)
        refine lv_goto (tgt := 23) hx hb dX7_trusted_108 (by decide) ?_
        exact ih23 _ _ _ _ _ _ _ _ hF hP hS (lv_sub hl [1, 2, 3, 0] rfl)
      have HB98 : ∀ (g : g_H) (a0 : Nat) (x1 : Int32) (x2 : Int32) (x3 : Int32) (x5 : Int32) (H : Heap) (locs : List Loc) (ls : Array Slot), f7_trusted_98 (f7_trusted_23 n23) g a0 x1 x2 x3 x5 = some (rr, gz) → gP base D s g H → va_S (gA base) s.heap H locs → lv_has ls 6 [(0, .ref a0), (1, .int x1), (2, .int x2), (3, .int x3), (5, .int x5)] → W p l e ({ frames := 3, cells := 0, slots := 0, locals := 71 } : Room) s m args below meth c H locs 0 0 (MQ below (gQi base D rr gz) args s 0 0 (gA base)) (F0 m 98 ls []) := by
        intro g a0 x1 x2 x3 x5 H locs ls hF hP hS hl
        unfold f7_trusted_98 at hF
        refine lv_iload hx hb dX7_trusted_98 (lv_at hl 4 rfl) ?_
        refine lv_if_ge (tgt := 105) hx hb dX7_trusted_100 (by decide) (fun c26 => ?_) (fun c26 => ?_)
        · have hF := g_t c26 hF
          exact HB105 _ _ _ _ _ _ _ _ hF hP hS (lv_sub hl [0, 1, 2, 3] rfl)
        · have hF := g_f c26 hF
          refine lv_iload_n hx hb dX7_trusted_103 rfl (lv_at hl 3 rfl) ?_
          refine lv_istore_n (lv' := [(2, .int x3), (0, .ref a0), (1, .int x1), (3, .int x3), (5, .int x5)]) hx hb dX7_trusted_104 rfl hl (by decide) rfl (fun ls hl => ?_)
          exact HB105 _ _ _ _ _ _ _ _ hF hP hS (lv_sub hl [1, 2, 0, 3] rfl)
      have HB76 : ∀ (g : g_H) (a0 : Nat) (x1 : Int32) (x2 : Int32) (x3 : Int32) (s0 : Int32) (H : Heap) (locs : List Loc) (ls : Array Slot), f7_trusted_76 (f7_trusted_23 n23) g a0 x1 x2 x3 s0 = some (rr, gz) → gP base D s g H → va_S (gA base) s.heap H locs → lv_has ls 6 [(0, .ref a0), (1, .int x1), (2, .int x2), (3, .int x3)] → W p l e ({ frames := 3, cells := 0, slots := 0, locals := 71 } : Room) s m args below meth c H locs 0 0 (MQ below (gQi base D rr gz) args s 0 0 (gA base)) (F0 m 76 ls [.int s0]) := by
        intro g a0 x1 x2 x3 s0 H locs ls hF hP hS hl
        unfold f7_trusted_76 at hF
        refine lv_istore (lv' := [(5, .int s0), (0, .ref a0), (1, .int x1), (2, .int x2), (3, .int x3)]) hx hb dX7_trusted_76 hl (by decide) rfl (fun ls hl => ?_)
        refine lv_iload hx hb dX7_trusted_78 (lv_at hl 0 rfl) ?_
        refine lv_if_ne (tgt := 98) hx hb dX7_trusted_80 (by decide) (fun c25 => ?_) (fun c25 => ?_)
        · have hF := g_f c25 hF
          exact HB98 _ _ _ _ _ _ _ _ _ hF hP hS (lv_sub hl [1, 2, 3, 4, 0] rfl)
        · have hF := g_t c25 hF
          refine lv_aload_n hx hb dX7_trusted_83 rfl (lv_at hl 1 rfl) ?_
          refine lv_iload_n hx hb dX7_trusted_84 rfl (lv_at hl 3 rfl) ?_
          refine lv_iconst (v := 3) hx hb dX7_trusted_85 (by decide) ?_
          obtain ⟨h28, hF⟩ := g_if hF
          obtain ⟨v30, g29, h27, hF⟩ := g_bind2 hF
          refine g_calli (va_runV (As := [.int x2, .int ((3 : Int32))]) (rest := []) ⟨hx, hb, hml, hown, hts⟩ (k7_be l D base g a0 x2 ((3 : Int32)) v30 g29 h27) (cwV 2 hts gX7_trusted_X7_be rfl rfl rfl (by decide +kernel) ⟨Nat.le_of_ble_eq_true rfl, Nat.le_of_ble_eq_true rfl⟩) (gC.preV hE hP hS 7 rfl (by decide) h28 [.int x2, .int ((3 : Int32))]) rfl rfl hl.1 rfl (lv_room (Nat.le_of_ble_eq_true rfl)) dX7_trusted_86 ⟨(Nat.le_of_ble_eq_true rfl), (Nat.le_of_ble_eq_true rfl)⟩) hS (fun H locs hP hS => ?_)
          refine lv_aload_n hx hb dX7_trusted_89 rfl (lv_at hl 1 rfl) ?_
          refine lv_iload_n hx hb dX7_trusted_90 rfl (lv_at hl 4 rfl) ?_
          refine lv_iconst (v := 3) hx hb dX7_trusted_91 (by decide) ?_
          obtain ⟨h32, hF⟩ := g_if hF
          obtain ⟨v34, g33, h31, hF⟩ := g_bind2 hF
          refine g_calli (va_runV (As := [.int x3, .int ((3 : Int32))]) (rest := [.int v30]) ⟨hx, hb, hml, hown, hts⟩ (k7_be l D base g29 a0 x3 ((3 : Int32)) v34 g33 h31) (cwV 2 hts gX7_trusted_X7_be rfl rfl rfl (by decide +kernel) ⟨Nat.le_of_ble_eq_true rfl, Nat.le_of_ble_eq_true rfl⟩) (gC.preV hE hP hS 7 rfl (by decide) h32 [.int x3, .int ((3 : Int32))]) rfl rfl hl.1 rfl (lv_room (Nat.le_of_ble_eq_true rfl)) dX7_trusted_92 ⟨(Nat.le_of_ble_eq_true rfl), (Nat.le_of_ble_eq_true rfl)⟩) hS (fun H locs hP hS => ?_)
          refine lv_isub hx hb dX7_trusted_95 ?_
          refine lv_istore (lv' := [(5, .int (v30 - v34)), (0, .ref a0), (1, .int x1), (2, .int x2), (3, .int x3)]) hx hb dX7_trusted_96 hl (by decide) rfl (fun ls hl => ?_)
          exact HB98 _ _ _ _ _ _ _ _ _ hF hP hS (lv_sub hl [1, 2, 3, 4, 0] rfl)
      intro g a0 x1 x2 x3 H locs ls hF hP hS hl
      have hF : f7_trusted_23b (f7_trusted_23 n23) g a0 x1 x2 x3 = some (rr, gz) := hF
      unfold f7_trusted_23b at hF
      refine lv_iload_n hx hb dX7_trusted_23 rfl (lv_at hl 3 rfl) ?_
      refine lv_aload_n hx hb dX7_trusted_24 rfl (lv_at hl 0 rfl) ?_
      obtain ⟨h6, hF⟩ := g_if hF
      refine g_get hx hb hts hiX7 hown hK hP 7 rfl (by decide) h6 6 (by decide) (hts (.fieldLink RX7 49 "CourierBeesModel" "bees" "I") (by decide +kernel)) (fun _ h9 => h9) (gFv_i (Or.inl rfl)) dX7_trusted_25 ?_
      refine lv_icmp_ge (tgt := 111) hx hb dX7_trusted_28 (by decide) (fun c7 => ?_) (fun c7 => ?_)
      · have hF := g_t c7 hF
        refine lv_iload_n hx hb dX7_trusted_111 rfl (lv_at hl 2 rfl) ?_
        exact g_retI hx hb hr hlocks hF hP hS (Nat.le_of_ble_eq_true rfl) (Nat.le_of_ble_eq_true rfl) dX7_trusted_112
      · have hF := g_f c7 hF
        refine lv_aload_n hx hb dX7_trusted_31 rfl (lv_at hl 0 rfl) ?_
        refine lv_iload_n hx hb dX7_trusted_32 rfl (lv_at hl 3 rfl) ?_
        refine lv_iload_n hx hb dX7_trusted_33 rfl (lv_at hl 1 rfl) ?_
        obtain ⟨v10, g9, h8, hF⟩ := g_bind2 hF
        refine g_calli (va_runV (As := [.int x3, .int x1]) (rest := []) ⟨hx, hb, hml, hown, hts⟩ (k7_targetOf l D base g a0 x3 x1 v10 g9 h8) (cwV 2 hts gX7_trusted_X7_targetOf rfl rfl rfl (by decide +kernel) ⟨Nat.le_of_ble_eq_true rfl, Nat.le_of_ble_eq_true rfl⟩) (gC.preV hE hP hS 7 rfl (by decide) h6 [.int x3, .int x1]) rfl rfl hl.1 rfl (lv_room (Nat.le_of_ble_eq_true rfl)) dX7_trusted_34 ⟨(Nat.le_of_ble_eq_true rfl), (Nat.le_of_ble_eq_true rfl)⟩) hS (fun H locs hP hS => ?_)
        refine lv_istore (lv' := [(4, .int v10), (0, .ref a0), (1, .int x1), (2, .int x2), (3, .int x3)]) hx hb dX7_trusted_37 hl (by decide) rfl (fun ls hl => ?_)
        refine lv_iload hx hb dX7_trusted_39 (lv_at hl 0 rfl) ?_
        refine lv_iconst (v := (-1)) hx hb dX7_trusted_41 (by decide) ?_
        refine lv_icmp_ne (tgt := 48) hx hb dX7_trusted_42 (by decide) (fun c11 => ?_) (fun c11 => ?_)
        · have hF := g_f c11 hF
          refine lv_iload_n hx hb dX7_trusted_48 rfl (lv_at hl 3 rfl) ?_
          refine lv_iconst (v := (-1)) hx hb dX7_trusted_49 (by decide) ?_
          refine lv_icmp_ne (tgt := 57) hx hb dX7_trusted_50 (by decide) (fun c12 => ?_) (fun c12 => ?_)
          · have hF := g_f c12 hF
            refine lv_aload_n hx hb dX7_trusted_57 rfl (lv_at hl 1 rfl) ?_
            refine lv_iload hx hb dX7_trusted_58 (lv_at hl 0 rfl) ?_
            refine lv_iload_n hx hb dX7_trusted_60 rfl (lv_at hl 2 rfl) ?_
            obtain ⟨h14, hF⟩ := g_if hF
            obtain ⟨v16, g15, h13, hF⟩ := g_bind2 hF
            refine g_calli (va_runV (As := [.int v10, .int x1]) (rest := []) ⟨hx, hb, hml, hown, hts⟩ (k7_away l D base g9 a0 v10 x1 v16 g15 h13) (cwV 2 hts gX7_trusted_X7_away rfl rfl rfl (by decide +kernel) ⟨Nat.le_of_ble_eq_true rfl, Nat.le_of_ble_eq_true rfl⟩) (gC.preV hE hP hS 7 rfl (by decide) h14 [.int v10, .int x1]) rfl rfl hl.1 rfl (lv_room (Nat.le_of_ble_eq_true rfl)) dX7_trusted_61 ⟨(Nat.le_of_ble_eq_true rfl), (Nat.le_of_ble_eq_true rfl)⟩) hS (fun H locs hP hS => ?_)
            refine lv_aload_n hx hb dX7_trusted_64 rfl (lv_at hl 1 rfl) ?_
            refine lv_aload_n hx hb dX7_trusted_65 rfl (lv_at hl 1 rfl) ?_
            refine lv_iload_n hx hb dX7_trusted_66 rfl (lv_at hl 3 rfl) ?_
            refine lv_iload_n hx hb dX7_trusted_67 rfl (lv_at hl 2 rfl) ?_
            obtain ⟨h18, hF⟩ := g_if hF
            obtain ⟨v20, g19, h17, hF⟩ := g_bind2 hF
            refine g_calli (va_runV (As := [.int x2, .int x1]) (rest := [.ref a0, .int v16]) ⟨hx, hb, hml, hown, hts⟩ (k7_targetOf l D base g15 a0 x2 x1 v20 g19 h17) (cwV 2 hts gX7_trusted_X7_targetOf rfl rfl rfl (by decide +kernel) ⟨Nat.le_of_ble_eq_true rfl, Nat.le_of_ble_eq_true rfl⟩) (gC.preV hE hP hS 7 rfl (by decide) h18 [.int x2, .int x1]) rfl rfl hl.1 rfl (lv_room (Nat.le_of_ble_eq_true rfl)) dX7_trusted_68 ⟨(Nat.le_of_ble_eq_true rfl), (Nat.le_of_ble_eq_true rfl)⟩) hS (fun H locs hP hS => ?_)
            refine lv_iload_n hx hb dX7_trusted_71 rfl (lv_at hl 2 rfl) ?_
            obtain ⟨h22, hF⟩ := g_if hF
            obtain ⟨v24, g23, h21, hF⟩ := g_bind2 hF
            refine g_calli (va_runV (As := [.int v20, .int x1]) (rest := [.int v16]) ⟨hx, hb, hml, hown, hts⟩ (k7_away l D base g19 a0 v20 x1 v24 g23 h21) (cwV 2 hts gX7_trusted_X7_away rfl rfl rfl (by decide +kernel) ⟨Nat.le_of_ble_eq_true rfl, Nat.le_of_ble_eq_true rfl⟩) (gC.preV hE hP hS 7 rfl (by decide) h22 [.int v20, .int x1]) rfl rfl hl.1 rfl (lv_room (Nat.le_of_ble_eq_true rfl)) dX7_trusted_72 ⟨(Nat.le_of_ble_eq_true rfl), (Nat.le_of_ble_eq_true rfl)⟩) hS (fun H locs hP hS => ?_)
            refine lv_isub hx hb dX7_trusted_75 ?_
            exact HB76 _ _ _ _ _ _ _ _ _ hF hP hS (lv_sub hl [1, 2, 3, 4] rfl)
          · have hF := g_t c12 hF
            refine lv_iconst (v := (-1)) hx hb dX7_trusted_53 (by decide) ?_
            refine lv_goto (tgt := 76) hx hb dX7_trusted_54 (by decide) ?_
            exact HB76 _ _ _ _ _ _ _ _ _ hF hP hS (lv_sub hl [1, 2, 3, 4] rfl)
        · have hF := g_t c11 hF
          refine lv_goto (tgt := 105) hx hb dX7_trusted_45 (by decide) ?_
          exact HB105 _ _ _ _ _ _ _ _ hF hP hS (lv_sub hl [1, 2, 3, 4] rfl)
  unfold f7_trusted at hF
  refine lv_aload_n hx hb dX7_trusted_0 rfl (lv_at hl 0 rfl) ?_
  refine lv_iconst (v := 0) hx hb dX7_trusted_1 (by decide) ?_
  obtain ⟨h1, hF⟩ := g_if hF
  refine g_puti hx hb hts hiX7 tyX7 tyX7_ok nmX7 hown hK hP hS 7 rfl (by decide) h1 0 (by decide) (hts (.fieldLink RX7 35 "CourierBeesModel" "thrown" "I") (by decide +kernel)) (fun _ h9 => h9) (Or.inl rfl) (Or.inl rfl) rfl rfl dX7_trusted_2 (fun H locs hP hS => ?_)
  refine lv_aload_n hx hb dX7_trusted_5 rfl (lv_at hl 0 rfl) ?_
  refine lv_iload_n hx hb dX7_trusted_6 rfl (lv_at hl 1 rfl) ?_
  obtain ⟨v4, g3, h2, hF⟩ := g_bind2 hF
  refine g_calli (va_runV (As := [.int x1]) (rest := []) ⟨hx, hb, hml, hown, hts⟩ (k7_isHouse l D base (gPI g a0 0 ((0 : Int32))) a0 x1 v4 g3 h2) (cwV 1 hts gX7_trusted_X7_isHouse rfl rfl rfl (by decide +kernel) ⟨Nat.le_of_ble_eq_true rfl, Nat.le_of_ble_eq_true rfl⟩) (gC.preV hE hP hS 7 rfl (by decide) h1 [.int x1]) rfl rfl hl.1 rfl (lv_room (Nat.le_of_ble_eq_true rfl)) dX7_trusted_7 ⟨(Nat.le_of_ble_eq_true rfl), (Nat.le_of_ble_eq_true rfl)⟩) hS (fun H locs hP hS => ?_)
  refine lv_if_ne (tgt := 19) hx hb dX7_trusted_10 (by decide) (fun c5 => ?_) (fun c5 => ?_)
  · have hF := g_f c5 hF
    refine lv_iconst (v := (-1)) hx hb dX7_trusted_19 (by decide) ?_
    refine lv_istore_n (lv' := [(2, .int ((-1 : Int32))), (0, .ref a0), (1, .int x1)]) hx hb dX7_trusted_20 rfl hl (by decide) rfl (fun ls hl => ?_)
    refine lv_iconst (v := 0) hx hb dX7_trusted_21 (by decide) ?_
    refine lv_istore_n (lv' := [(3, .int ((0 : Int32))), (2, .int ((-1 : Int32))), (0, .ref a0), (1, .int x1)]) hx hb dX7_trusted_22 rfl hl (by decide) rfl (fun ls hl => ?_)
    exact HL23 300 _ _ _ _ _ _ _ _ hF hP hS (lv_sub hl [2, 3, 1, 0] rfl)
  · have hF := g_t c5 hF
    refine lv_aload_n hx hb dX7_trusted_13 rfl (lv_at hl 0 rfl) ?_
    refine lv_iconst (v := 1) hx hb dX7_trusted_14 (by decide) ?_
    obtain ⟨h36, hF⟩ := g_if hF
    obtain ⟨v38, g37, h35, hF⟩ := g_bind2 hF
    refine g_calli (va_runV (As := [.int ((1 : Int32))]) (rest := []) ⟨hx, hb, hml, hown, hts⟩ (k7_fail l D base g3 a0 ((1 : Int32)) v38 g37 h35) (cwV 1 hts gX7_trusted_X7_fail rfl rfl rfl (by decide +kernel) ⟨Nat.le_of_ble_eq_true rfl, Nat.le_of_ble_eq_true rfl⟩) (gC.preV hE hP hS 7 rfl (by decide) h36 [.int ((1 : Int32))]) rfl rfl hl.1 rfl (lv_room (Nat.le_of_ble_eq_true rfl)) dX7_trusted_15 ⟨(Nat.le_of_ble_eq_true rfl), (Nat.le_of_ble_eq_true rfl)⟩) hS (fun H locs hP hS => ?_)
    exact g_retI hx hb hr hlocks hF hP hS (Nat.le_of_ble_eq_true rfl) (Nat.le_of_ble_eq_true rfl) dX7_trusted_18
set_option maxHeartbeats 4000000 in
set_option maxRecDepth 100000 in
theorem k7_mean (l : Launch) (D : va_G) (base : Nat) (g : g_H) (a0 : Nat) (rr : UInt64) (gz : g_H) (hF : f7_mean g a0 = some (rr, gz)) : Met l yX7_mean wsX7_mean ({ frames := 1, cells := 0, slots := 0, locals := 22 } : Room) (va_Pc [.ref a0] (gC base D g)) (gQd base D rr gz) 0 0 (gA base) := by
  refine g_met (cc := cX7_mean) (maxL := 4) (ret := (some .double)) (lst := [(0, .ref a0)]) (by decide) rfl (Nat.le_of_ble_eq_true rfl) rfl ?_
  intro p e s m args below meth c ls hx hb hr hml hown hlocks hname hts hE hP hl
  have hown : s.vm.findClass RX7 = some m.cls := hown
  have hK := hE.1
  have hov := hE.2.2.2.2.2.2.2.1
  have hbz := hE.2.2.2.2.2.2.2.2.2.2.2.2
  have hS : va_S (gA base) s.heap s.heap [] := va_S.rf
  have hiX7 : ∀ w ∈ wsX70, w ∈ wsX7_mean := by decide +kernel
  have HL11 : ∀ (n11 : Nat), ∀ (g : g_H) (a0 : Nat) (x1 : Int32) (x2 : Int32) (x3 : Int32) (H : Heap) (locs : List Loc) (ls : Array Slot), f7_mean_11 n11 g a0 x1 x2 x3 = some (rr, gz) → gP base D s g H → va_S (gA base) s.heap H locs → lv_has ls 4 [(0, .ref a0), (1, .int x1), (2, .int x2), (3, .int x3)] → W p l e ({ frames := 1, cells := 0, slots := 0, locals := 22 } : Room) s m args below meth c H locs 0 0 (MQ below (gQd base D rr gz) args s 0 0 (gA base)) (F0 m 11 ls []) := by
    intro n11
    induction n11 with
    | zero => intro g a0 x1 x2 x3 H locs ls hF hP hS hl; exact g_no hF
    | succ n11 ih11 =>
      have HB44 : ∀ (g : g_H) (a0 : Nat) (x1 : Int32) (x2 : Int32) (x3 : Int32) (H : Heap) (locs : List Loc) (ls : Array Slot), f7_mean_44 (f7_mean_11 n11) g a0 x1 x2 x3 = some (rr, gz) → gP base D s g H → va_S (gA base) s.heap H locs → lv_has ls 4 [(0, .ref a0), (1, .int x1), (2, .int x2), (3, .int x3)] → W p l e ({ frames := 1, cells := 0, slots := 0, locals := 22 } : Room) s m args below meth c H locs 0 0 (MQ below (gQd base D rr gz) args s 0 0 (gA base)) (F0 m 44 ls []) := by
        intro g a0 x1 x2 x3 H locs ls hF hP hS hl
        unfold f7_mean_44 at hF
        refine lv_iinc (v := x3 + (1 : Int32)) (lv' := [(3, .int (x3 + (1 : Int32))), (0, .ref a0), (1, .int x1), (2, .int x2)]) hx hb dX7_mean_44 hl (k := 3) rfl rfl (by decide) rfl (fun ls hl => ?_)
        refine lv_goto (tgt := 11) hx hb dX7_mean_47 (by decide) ?_
        exact ih11 _ _ _ _ _ _ _ _ hF hP hS (lv_sub hl [1, 2, 3, 0] rfl)
      intro g a0 x1 x2 x3 H locs ls hF hP hS hl
      have hF : f7_mean_11b (f7_mean_11 n11) g a0 x1 x2 x3 = some (rr, gz) := hF
      unfold f7_mean_11b at hF
      refine lv_iload_n hx hb dX7_mean_11 rfl (lv_at hl 3 rfl) ?_
      refine lv_aload_n hx hb dX7_mean_12 rfl (lv_at hl 0 rfl) ?_
      obtain ⟨h2, hF⟩ := g_if hF
      refine g_get hx hb hts hiX7 hown hK hP 7 rfl (by decide) h2 9 (by decide) (hts (.fieldLink RX7 52 "CourierBeesModel" "letters" "I") (by decide +kernel)) (fun _ h9 => h9) (gFv_i (Or.inl rfl)) dX7_mean_13 ?_
      refine lv_icmp_ge (tgt := 50) hx hb dX7_mean_16 (by decide) (fun c3 => ?_) (fun c3 => ?_)
      · have hF := g_t c3 hF
        refine lv_iload_n hx hb dX7_mean_50 rfl (lv_at hl 2 rfl) ?_
        refine lv_if_ne (tgt := 58) hx hb dX7_mean_51 (by decide) (fun c4 => ?_) (fun c4 => ?_)
        · have hF := g_f c4 hF
          refine lv_iload_n hx hb dX7_mean_58 rfl (lv_at hl 1 rfl) ?_
          refine lv_i2d hx hb dX7_mean_59 ?_
          refine lv_iload_n hx hb dX7_mean_60 rfl (lv_at hl 2 rfl) ?_
          refine lv_i2d hx hb dX7_mean_61 ?_
          obtain ⟨h5, hF⟩ := g_if hF
          refine lv_ddiv hx hb dX7_mean_62 h5 ?_
          exact g_retD hx hb hr hlocks hF hP hS (Nat.le_of_ble_eq_true rfl) (Nat.le_of_ble_eq_true rfl) dX7_mean_63
        · have hF := g_t c4 hF
          refine lv_dconst0 hx hb dX7_mean_54 ?_
          refine lv_goto (tgt := 63) hx hb dX7_mean_55 (by decide) ?_
          exact g_retD hx hb hr hlocks hF hP hS (Nat.le_of_ble_eq_true rfl) (Nat.le_of_ble_eq_true rfl) dX7_mean_63
      · have hF := g_f c3 hF
        refine lv_aload_n hx hb dX7_mean_19 rfl (lv_at hl 0 rfl) ?_
        refine lv_iload_n hx hb dX7_mean_20 rfl (lv_at hl 3 rfl) ?_
        refine lv_iconst (v := 3) hx hb dX7_mean_21 (by decide) ?_
        obtain ⟨v8, g7, h6, hF⟩ := g_bind2 hF
        refine g_calli (va_runV (As := [.int x3, .int ((3 : Int32))]) (rest := []) ⟨hx, hb, hml, hown, hts⟩ (k7_le l D base g a0 x3 ((3 : Int32)) v8 g7 h6) (cwV 2 hts gX7_mean_X7_le rfl rfl rfl (by decide +kernel) ⟨Nat.le_of_ble_eq_true rfl, Nat.le_of_ble_eq_true rfl⟩) (gC.preV hE hP hS 7 rfl (by decide) h2 [.int x3, .int ((3 : Int32))]) rfl rfl hl.1 rfl (lv_room (Nat.le_of_ble_eq_true rfl)) dX7_mean_22 ⟨(Nat.le_of_ble_eq_true rfl), (Nat.le_of_ble_eq_true rfl)⟩) hS (fun H locs hP hS => ?_)
        refine lv_iconst (v := (-1)) hx hb dX7_mean_25 (by decide) ?_
        refine lv_icmp_ne (tgt := 32) hx hb dX7_mean_26 (by decide) (fun c9 => ?_) (fun c9 => ?_)
        · have hF := g_f c9 hF
          refine lv_iload_n hx hb dX7_mean_32 rfl (lv_at hl 1 rfl) ?_
          refine lv_aload_n hx hb dX7_mean_33 rfl (lv_at hl 0 rfl) ?_
          refine lv_iload_n hx hb dX7_mean_34 rfl (lv_at hl 3 rfl) ?_
          refine lv_iconst (v := 3) hx hb dX7_mean_35 (by decide) ?_
          obtain ⟨h11, hF⟩ := g_if hF
          obtain ⟨v13, g12, h10, hF⟩ := g_bind2 hF
          refine g_calli (va_runV (As := [.int x3, .int ((3 : Int32))]) (rest := [.int x1]) ⟨hx, hb, hml, hown, hts⟩ (k7_le l D base g7 a0 x3 ((3 : Int32)) v13 g12 h10) (cwV 2 hts gX7_mean_X7_le rfl rfl rfl (by decide +kernel) ⟨Nat.le_of_ble_eq_true rfl, Nat.le_of_ble_eq_true rfl⟩) (gC.preV hE hP hS 7 rfl (by decide) h11 [.int x3, .int ((3 : Int32))]) rfl rfl hl.1 rfl (lv_room (Nat.le_of_ble_eq_true rfl)) dX7_mean_36 ⟨(Nat.le_of_ble_eq_true rfl), (Nat.le_of_ble_eq_true rfl)⟩) hS (fun H locs hP hS => ?_)
          refine lv_iadd hx hb dX7_mean_39 ?_
          refine lv_istore_n (lv' := [(1, .int (x1 + v13)), (0, .ref a0), (2, .int x2), (3, .int x3)]) hx hb dX7_mean_40 rfl hl (by decide) rfl (fun ls hl => ?_)
          refine lv_iinc (v := x2 + (1 : Int32)) (lv' := [(2, .int (x2 + (1 : Int32))), (1, .int (x1 + v13)), (0, .ref a0), (3, .int x3)]) hx hb dX7_mean_41 hl (k := 2) rfl rfl (by decide) rfl (fun ls hl => ?_)
          exact HB44 _ _ _ _ _ _ _ _ hF hP hS (lv_sub hl [2, 1, 0, 3] rfl)
        · have hF := g_t c9 hF
          refine lv_goto (tgt := 44) hx hb dX7_mean_29 (by decide) ?_
          exact HB44 _ _ _ _ _ _ _ _ hF hP hS (lv_sub hl [0, 1, 2, 3] rfl)
  unfold f7_mean at hF
  refine lv_aload_n hx hb dX7_mean_0 rfl (lv_at hl 0 rfl) ?_
  refine lv_iconst (v := 0) hx hb dX7_mean_1 (by decide) ?_
  obtain ⟨h1, hF⟩ := g_if hF
  refine g_puti hx hb hts hiX7 tyX7 tyX7_ok nmX7 hown hK hP hS 7 rfl (by decide) h1 0 (by decide) (hts (.fieldLink RX7 35 "CourierBeesModel" "thrown" "I") (by decide +kernel)) (fun _ h9 => h9) (Or.inl rfl) (Or.inl rfl) rfl rfl dX7_mean_2 (fun H locs hP hS => ?_)
  refine lv_iconst (v := 0) hx hb dX7_mean_5 (by decide) ?_
  refine lv_istore_n (lv' := [(1, .int ((0 : Int32))), (0, .ref a0)]) hx hb dX7_mean_6 rfl hl (by decide) rfl (fun ls hl => ?_)
  refine lv_iconst (v := 0) hx hb dX7_mean_7 (by decide) ?_
  refine lv_istore_n (lv' := [(2, .int ((0 : Int32))), (1, .int ((0 : Int32))), (0, .ref a0)]) hx hb dX7_mean_8 rfl hl (by decide) rfl (fun ls hl => ?_)
  refine lv_iconst (v := 0) hx hb dX7_mean_9 (by decide) ?_
  refine lv_istore_n (lv' := [(3, .int ((0 : Int32))), (2, .int ((0 : Int32))), (1, .int ((0 : Int32))), (0, .ref a0)]) hx hb dX7_mean_10 rfl hl (by decide) rfl (fun ls hl => ?_)
  exact HL11 300 _ _ _ _ _ _ _ _ hF hP hS (lv_sub hl [3, 2, 1, 0] rfl)
set_option maxHeartbeats 4000000 in
set_option maxRecDepth 100000 in
theorem k7_digest (l : Launch) (D : va_G) (base : Nat) (g : g_H) (a0 : Nat) (rr : Int64) (gz : g_H) (hF : f7_digest g a0 = some (rr, gz)) : Met l yX7_digest wsX7_digest ({ frames := 3, cells := 81, slots := 729, locals := 68 } : Room) (va_Pc [.ref a0] (gC base D g)) (gQl base D rr gz) 81 729 (gA base) := by
  refine g_met (cc := cX7_digest) (maxL := 5) (ret := (some .long)) (lst := [(0, .ref a0)]) (by decide) rfl (Nat.le_of_ble_eq_true rfl) rfl ?_
  intro p e s m args below meth c ls hx hb hr hml hown hlocks hname hts hE hP hl
  have hown : s.vm.findClass RX7 = some m.cls := hown
  have hK := hE.1
  have hov := hE.2.2.2.2.2.2.2.1
  have hbz := hE.2.2.2.2.2.2.2.2.2.2.2.2
  have hS : va_S (gA base) s.heap s.heap [] := va_S.rf
  have hiX7 : ∀ w ∈ wsX70, w ∈ wsX7_digest := by decide +kernel
  have HL195 : ∀ (n195 : Nat), ∀ (g : g_H) (a0 : Nat) (j1 : Int64) (x3 : Int32) (H : Heap) (locs : List Loc) (ls : Array Slot), f7_digest_195 n195 g a0 j1 x3 = some (rr, gz) → gP base D s g H → va_S (gA base) s.heap H locs → lv_has ls 5 [(0, .ref a0), (1, .long j1), (3, .int x3)] → W p l e ({ frames := 3, cells := 81, slots := 729, locals := 68 } : Room) s m args below meth c H locs 70 630 (MQ below (gQl base D rr gz) args s 81 729 (gA base)) (F0 m 195 ls []) := by
    intro n195
    induction n195 with
    | zero => intro g a0 j1 x3 H locs ls hF hP hS hl; exact g_no hF
    | succ n195 ih195 =>
      intro g a0 j1 x3 H locs ls hF hP hS hl
      have hF : f7_digest_195b (f7_digest_195 n195) g a0 j1 x3 = some (rr, gz) := hF
      unfold f7_digest_195b at hF
      refine lv_iload_n hx hb dX7_digest_195 rfl (lv_at hl 2 rfl) ?_
      refine lv_iconst (v := 5) hx hb dX7_digest_196 (by decide) ?_
      refine lv_aload_n hx hb dX7_digest_197 rfl (lv_at hl 0 rfl) ?_
      obtain ⟨h9, hF⟩ := g_if hF
      refine g_get hx hb hts hiX7 hown hK hP 7 rfl (by decide) h9 9 (by decide) (hts (.fieldLink RX7 52 "CourierBeesModel" "letters" "I") (by decide +kernel)) (fun _ h9 => h9) (gFv_i (Or.inl rfl)) dX7_digest_198 ?_
      refine lv_imul hx hb dX7_digest_201 ?_
      refine lv_icmp_ge (tgt := 225) hx hb dX7_digest_202 (by decide) (fun c10 => ?_) (fun c10 => ?_)
      · have hF := g_t c10 hF
        refine lv_lload_n hx hb dX7_digest_225 rfl (lv_at hl 1 rfl) ?_
        exact g_retJ hx hb hr hlocks hF hP hS (Nat.le_of_ble_eq_true rfl) (Nat.le_of_ble_eq_true rfl) dX7_digest_226
      · have hF := g_f c10 hF
        refine lv_lload_n hx hb dX7_digest_205 rfl (lv_at hl 1 rfl) ?_
        refine lv_ldc2 (v := 31) hx hb hown (hts (.constantLong RX7 174 (31)) (by decide +kernel)) dX7_digest_206 ?_
        refine lv_lmul hx hb dX7_digest_209 ?_
        refine lv_aload_n hx hb dX7_digest_210 rfl (lv_at hl 0 rfl) ?_
        obtain ⟨q11, hq12, hF⟩ := g_bind hF
        refine g_get hx hb hts hiX7 hown hK hP 7 rfl (by decide) h9 10 (by decide) (hts (.fieldLink RX7 26 "CourierBeesModel" "post" "[I") (by decide +kernel)) (fun _ h9 => h9) ((gFv_r (by decide)).trans (congrArg va_rf hq12)) dX7_digest_211 ?_
        refine lv_iload_n hx hb dX7_digest_214 rfl (lv_at hl 2 rfl) ?_
        obtain ⟨h13, hF⟩ := g_if hF
        obtain ⟨h14, hF⟩ := g_if hF
        refine g_iald hx hb hP (g_pr h13) h14 dX7_digest_215 ?_
        refine lv_i2l hx hb dX7_digest_216 rfl ?_
        refine lv_ladd hx hb dX7_digest_217 ?_
        refine lv_lstore_n (lv' := [(1, .long ((j1 * ((31 : Int64))) + (Int32.toInt64 (gI g q11 (Int32.toNatClampNeg x3))))), (0, .ref a0), (3, .int x3)]) hx hb dX7_digest_218 rfl hl (by decide) rfl (fun ls hl => ?_)
        refine lv_iinc (v := x3 + (1 : Int32)) (lv' := [(3, .int (x3 + (1 : Int32))), (1, .long ((j1 * ((31 : Int64))) + (Int32.toInt64 (gI g q11 (Int32.toNatClampNeg x3))))), (0, .ref a0)]) hx hb dX7_digest_219 hl (k := 2) rfl rfl (by decide) rfl (fun ls hl => ?_)
        refine lv_goto (tgt := 195) hx hb dX7_digest_222 (by decide) ?_
        exact ih195 _ _ _ _ _ _ _ hF hP hS (lv_sub hl [2, 1, 0] rfl)
  have HL108 : ∀ (n108 : Nat), n108 ≤ 7 → ∀ (g : g_H) (a0 : Nat) (j1 : Int64) (x3 : Int32) (H : Heap) (locs : List Loc) (ls : Array Slot), f7_digest_108 n108 g a0 j1 x3 = some (rr, gz) → gP base D s g H → va_S (gA base) s.heap H locs → lv_has ls 5 [(0, .ref a0), (1, .long j1), (3, .int x3)] → W p l e ({ frames := 3, cells := 81, slots := 729, locals := 68 } : Room) s m args below meth c H locs (0 + (7 - n108) * 10) (0 + (7 - n108) * 90) (MQ below (gQl base D rr gz) args s 81 729 (gA base)) (F0 m 108 ls []) := by
    intro n108
    induction n108 with
    | zero => intro hle108 g a0 j1 x3 H locs ls hF hP hS hl; exact g_no hF
    | succ n108 ih108 =>
      intro hle108
      have HL150 : ∀ (n150 : Nat), ∀ (g : g_H) (a0 : Nat) (j1 : Int64) (x3 : Int32) (x4 : Int32) (H : Heap) (locs : List Loc) (ls : Array Slot), f7_digest_150 (f7_digest_108 n108) n150 g a0 j1 x3 x4 = some (rr, gz) → gP base D s g H → va_S (gA base) s.heap H locs → lv_has ls 5 [(0, .ref a0), (1, .long j1), (3, .int x3), (4, .int x4)] → W p l e ({ frames := 3, cells := 81, slots := 729, locals := 68 } : Room) s m args below meth c H locs (0 + (7 - (n108 + 1)) * 10 + 10) (0 + (7 - (n108 + 1)) * 90 + 90) (MQ below (gQl base D rr gz) args s 81 729 (gA base)) (F0 m 150 ls []) := by
        intro n150
        induction n150 with
        | zero => intro g a0 j1 x3 x4 H locs ls hF hP hS hl; exact g_no hF
        | succ n150 ih150 =>
          intro g a0 j1 x3 x4 H locs ls hF hP hS hl
          have hF : f7_digest_150b (f7_digest_108 n108) (f7_digest_150 (f7_digest_108 n108) n150) g a0 j1 x3 x4 = some (rr, gz) := hF
          unfold f7_digest_150b at hF
          refine lv_iload hx hb dX7_digest_150 (lv_at hl 3 rfl) ?_
          refine lv_aload_n hx hb dX7_digest_152 rfl (lv_at hl 0 rfl) ?_
          refine lv_iload_n hx hb dX7_digest_153 rfl (lv_at hl 2 rfl) ?_
          refine lv_iconst (v := 5) hx hb dX7_digest_154 (by decide) ?_
          obtain ⟨h17, hF⟩ := g_if hF
          obtain ⟨v19, g18, h16, hF⟩ := g_bind2 hF
          refine g_calli (va_runV (As := [.int x3, .int ((5 : Int32))]) (rest := [.int x4]) ⟨hx, hb, hml, hown, hts⟩ (k7_be l D base g a0 x3 ((5 : Int32)) v19 g18 h16) (cwV 2 hts gX7_digest_X7_be rfl rfl rfl (by decide +kernel) ⟨Nat.le_of_ble_eq_true rfl, Nat.le_of_ble_eq_true rfl⟩) (gC.preV hE hP hS 7 rfl (by decide) h17 [.int x3, .int ((5 : Int32))]) rfl rfl hl.1 rfl (lv_room (Nat.le_of_ble_eq_true rfl)) dX7_digest_155 ⟨(by show _ ≤ (81 : Nat); omega), (by show _ ≤ (729 : Nat); omega)⟩) hS (fun H locs hP hS => ?_)
          refine lv_icmp_ge (tgt := 187) hx hb dX7_digest_158 (by decide) (fun c20 => ?_) (fun c20 => ?_)
          · have hF := g_t c20 hF
            refine lv_iinc (v := x3 + (1 : Int32)) (lv' := [(3, .int (x3 + (1 : Int32))), (0, .ref a0), (1, .long j1), (4, .int x4)]) hx hb dX7_digest_187 hl (k := 2) rfl rfl (by decide) rfl (fun ls hl => ?_)
            refine lv_goto (tgt := 108) hx hb dX7_digest_190 (by decide) ?_
            refine W.widen (k := 0 + (7 - n108) * 10) (n := 0 + (7 - n108) * 90) (by omega) (by omega) ?_
            exact ih108 (by omega) _ _ _ _ _ _ _ hF hP hS (lv_sub hl [1, 2, 0] rfl)
          · have hF := g_f c20 hF
            refine lv_lload_n hx hb dX7_digest_161 rfl (lv_at hl 1 rfl) ?_
            refine lv_ldc2 (v := 31) hx hb hown (hts (.constantLong RX7 174 (31)) (by decide +kernel)) dX7_digest_162 ?_
            refine lv_lmul hx hb dX7_digest_165 ?_
            refine lv_aload_n hx hb dX7_digest_166 rfl (lv_at hl 0 rfl) ?_
            obtain ⟨h21, hF⟩ := g_if hF
            obtain ⟨q22, hq23, hF⟩ := g_bind hF
            refine g_get hx hb hts hiX7 hown hK hP 7 rfl (by decide) h21 8 (by decide) (hts (.fieldLink RX7 23 "CourierBeesModel" "routes" "[I") (by decide +kernel)) (fun _ h9 => h9) ((gFv_r (by decide)).trans (congrArg va_rf hq23)) dX7_digest_167 ?_
            refine lv_bipush (v := 7) hx hb dX7_digest_170 (by decide) ?_
            refine lv_iload_n hx hb dX7_digest_172 rfl (lv_at hl 2 rfl) ?_
            refine lv_imul hx hb dX7_digest_173 ?_
            refine lv_iload hx hb dX7_digest_174 (lv_at hl 3 rfl) ?_
            refine lv_iadd hx hb dX7_digest_176 ?_
            obtain ⟨h24, hF⟩ := g_if hF
            obtain ⟨h25, hF⟩ := g_if hF
            refine g_iald hx hb hP (g_pr h24) h25 dX7_digest_177 ?_
            refine lv_i2l hx hb dX7_digest_178 rfl ?_
            refine lv_ladd hx hb dX7_digest_179 ?_
            refine lv_lstore_n (lv' := [(1, .long ((j1 * ((31 : Int64))) + (Int32.toInt64 (gI g18 q22 (Int32.toNatClampNeg ((((7 : Int32)) * x3) + x4)))))), (0, .ref a0), (3, .int x3), (4, .int x4)]) hx hb dX7_digest_180 rfl hl (by decide) rfl (fun ls hl => ?_)
            refine lv_iinc (v := x4 + (1 : Int32)) (lv' := [(4, .int (x4 + (1 : Int32))), (1, .long ((j1 * ((31 : Int64))) + (Int32.toInt64 (gI g18 q22 (Int32.toNatClampNeg ((((7 : Int32)) * x3) + x4)))))), (0, .ref a0), (3, .int x3)]) hx hb dX7_digest_181 hl (k := 3) rfl rfl (by decide) rfl (fun ls hl => ?_)
            refine lv_goto (tgt := 150) hx hb dX7_digest_184 (by decide) ?_
            exact ih150 _ _ _ _ _ _ _ _ hF hP hS (lv_sub hl [2, 1, 3, 0] rfl)
      have HL119 : ∀ (n119 : Nat), n119 ≤ 10 → ∀ (g : g_H) (a0 : Nat) (j1 : Int64) (x3 : Int32) (x4 : Int32) (H : Heap) (locs : List Loc) (ls : Array Slot), f7_digest_119 (f7_digest_108 n108) n119 g a0 j1 x3 x4 = some (rr, gz) → gP base D s g H → va_S (gA base) s.heap H locs → lv_has ls 5 [(0, .ref a0), (1, .long j1), (3, .int x3), (4, .int x4)] → W p l e ({ frames := 3, cells := 81, slots := 729, locals := 68 } : Room) s m args below meth c H locs (0 + (7 - (n108 + 1)) * 10 + (10 - n119) * 1) (0 + (7 - (n108 + 1)) * 90 + (10 - n119) * 9) (MQ below (gQl base D rr gz) args s 81 729 (gA base)) (F0 m 119 ls []) := by
        intro n119
        induction n119 with
        | zero => intro hle119 g a0 j1 x3 x4 H locs ls hF hP hS hl; exact g_no hF
        | succ n119 ih119 =>
          intro hle119
          intro g a0 j1 x3 x4 H locs ls hF hP hS hl
          have hF : f7_digest_119b (f7_digest_108 n108) (f7_digest_119 (f7_digest_108 n108) n119) g a0 j1 x3 x4 = some (rr, gz) := hF
          unfold f7_digest_119b at hF
          refine lv_iload hx hb dX7_digest_119 (lv_at hl 3 rfl) ?_
          refine lv_bipush (v := 9) hx hb dX7_digest_121 (by decide) ?_
          refine lv_icmp_ge (tgt := 147) hx hb dX7_digest_123 (by decide) (fun c15 => ?_) (fun c15 => ?_)
          · have hF := g_t c15 hF
            refine W.widen (k := 0 + (7 - (n108 + 1)) * 10 + 10) (n := 0 + (7 - (n108 + 1)) * 90 + 90) (by omega) (by omega) ?_
            refine lv_iconst (v := 0) hx hb dX7_digest_147 (by decide) ?_
            refine lv_istore (lv' := [(4, .int ((0 : Int32))), (0, .ref a0), (1, .long j1), (3, .int x3)]) hx hb dX7_digest_148 hl (by decide) rfl (fun ls hl => ?_)
            exact HL150 300 _ _ _ _ _ _ _ _ hF hP hS (lv_sub hl [1, 2, 3, 0] rfl)
          · have hF := g_f c15 hF
            refine lv_lload_n hx hb dX7_digest_126 rfl (lv_at hl 1 rfl) ?_
            refine lv_ldc2 (v := 31) hx hb hown (hts (.constantLong RX7 174 (31)) (by decide +kernel)) dX7_digest_127 ?_
            refine lv_lmul hx hb dX7_digest_130 ?_
            refine lv_aload_n hx hb dX7_digest_131 rfl (lv_at hl 0 rfl) ?_
            refine lv_iload_n hx hb dX7_digest_132 rfl (lv_at hl 2 rfl) ?_
            refine lv_iload hx hb dX7_digest_133 (lv_at hl 3 rfl) ?_
            obtain ⟨h27, hF⟩ := g_if hF
            obtain ⟨v29, g28, h26, hF⟩ := g_bind2 hF
            refine g_calli (va_runV (As := [.int x3, .int x4]) (rest := [.long (j1 * ((31 : Int64)))]) ⟨hx, hb, hml, hown, hts⟩ (k7_beeTold l D base g a0 x3 x4 v29 g28 h26) (cwV 2 hts gX7_digest_X7_beeTold rfl rfl rfl (by decide +kernel) ⟨Nat.le_of_ble_eq_true rfl, Nat.le_of_ble_eq_true rfl⟩) (gC.preV hE hP hS 7 rfl (by decide) h27 [.int x3, .int x4]) rfl rfl hl.1 rfl (lv_room (Nat.le_of_ble_eq_true rfl)) dX7_digest_135 ⟨(by show _ ≤ (81 : Nat); omega), (by show _ ≤ (729 : Nat); omega)⟩) hS (fun H locs hP hS => ?_)
            refine lv_i2l hx hb dX7_digest_138 rfl ?_
            refine lv_ladd hx hb dX7_digest_139 ?_
            refine lv_lstore_n (lv' := [(1, .long ((j1 * ((31 : Int64))) + (Int32.toInt64 v29))), (0, .ref a0), (3, .int x3), (4, .int x4)]) hx hb dX7_digest_140 rfl hl (by decide) rfl (fun ls hl => ?_)
            refine lv_iinc (v := x4 + (1 : Int32)) (lv' := [(4, .int (x4 + (1 : Int32))), (1, .long ((j1 * ((31 : Int64))) + (Int32.toInt64 v29))), (0, .ref a0), (3, .int x3)]) hx hb dX7_digest_141 hl (k := 3) rfl rfl (by decide) rfl (fun ls hl => ?_)
            refine lv_goto (tgt := 119) hx hb dX7_digest_144 (by decide) ?_
            refine W.widen (k := 0 + (7 - (n108 + 1)) * 10 + (10 - n119) * 1) (n := 0 + (7 - (n108 + 1)) * 90 + (10 - n119) * 9) (by omega) (by omega) ?_
            exact ih119 (by omega) _ _ _ _ _ _ _ _ hF hP hS (lv_sub hl [2, 1, 3, 0] rfl)
      intro g a0 j1 x3 H locs ls hF hP hS hl
      have hF : f7_digest_108b (f7_digest_108 n108) g a0 j1 x3 = some (rr, gz) := hF
      unfold f7_digest_108b at hF
      refine lv_iload_n hx hb dX7_digest_108 rfl (lv_at hl 2 rfl) ?_
      refine lv_aload_n hx hb dX7_digest_109 rfl (lv_at hl 0 rfl) ?_
      obtain ⟨h7, hF⟩ := g_if hF
      refine g_get hx hb hts hiX7 hown hK hP 7 rfl (by decide) h7 6 (by decide) (hts (.fieldLink RX7 49 "CourierBeesModel" "bees" "I") (by decide +kernel)) (fun _ h9 => h9) (gFv_i (Or.inl rfl)) dX7_digest_110 ?_
      refine lv_icmp_ge (tgt := 193) hx hb dX7_digest_113 (by decide) (fun c8 => ?_) (fun c8 => ?_)
      · have hF := g_t c8 hF
        refine W.widen (k := 70) (n := 630) (by omega) (by omega) ?_
        refine lv_iconst (v := 0) hx hb dX7_digest_193 (by decide) ?_
        refine lv_istore_n (lv' := [(3, .int ((0 : Int32))), (0, .ref a0), (1, .long j1)]) hx hb dX7_digest_194 rfl hl (by decide) rfl (fun ls hl => ?_)
        exact HL195 300 _ _ _ _ _ _ _ hF hP hS (lv_sub hl [1, 2, 0] rfl)
      · have hF := g_f c8 hF
        refine lv_iconst (v := 0) hx hb dX7_digest_116 (by decide) ?_
        refine lv_istore (lv' := [(4, .int ((0 : Int32))), (0, .ref a0), (1, .long j1), (3, .int x3)]) hx hb dX7_digest_117 hl (by decide) rfl (fun ls hl => ?_)
        refine W.widen (k := 0 + (7 - (n108 + 1)) * 10 + (10 - 10) * 1) (n := 0 + (7 - (n108 + 1)) * 90 + (10 - 10) * 9) (by omega) (by omega) ?_
        exact HL119 10 (Nat.le_refl _) _ _ _ _ _ _ _ _ hF hP hS (lv_sub hl [1, 2, 3, 0] rfl)
  have HL76 : ∀ (n76 : Nat), ∀ (g : g_H) (a0 : Nat) (j1 : Int64) (x3 : Int32) (H : Heap) (locs : List Loc) (ls : Array Slot), f7_digest_76 n76 g a0 j1 x3 = some (rr, gz) → gP base D s g H → va_S (gA base) s.heap H locs → lv_has ls 5 [(0, .ref a0), (1, .long j1), (3, .int x3)] → W p l e ({ frames := 3, cells := 81, slots := 729, locals := 68 } : Room) s m args below meth c H locs 0 0 (MQ below (gQl base D rr gz) args s 81 729 (gA base)) (F0 m 76 ls []) := by
    intro n76
    induction n76 with
    | zero => intro g a0 j1 x3 H locs ls hF hP hS hl; exact g_no hF
    | succ n76 ih76 =>
      intro g a0 j1 x3 H locs ls hF hP hS hl
      have hF : f7_digest_76b (f7_digest_76 n76) g a0 j1 x3 = some (rr, gz) := hF
      unfold f7_digest_76b at hF
      refine lv_iload_n hx hb dX7_digest_76 rfl (lv_at hl 2 rfl) ?_
      refine lv_iconst (v := 5) hx hb dX7_digest_77 (by decide) ?_
      refine lv_aload_n hx hb dX7_digest_78 rfl (lv_at hl 0 rfl) ?_
      obtain ⟨h5, hF⟩ := g_if hF
      refine g_get hx hb hts hiX7 hown hK hP 7 rfl (by decide) h5 3 (by decide) (hts (.fieldLink RX7 46 "CourierBeesModel" "lanes" "I") (by decide +kernel)) (fun _ h9 => h9) (gFv_i (Or.inl rfl)) dX7_digest_79 ?_
      refine lv_imul hx hb dX7_digest_82 ?_
      refine lv_icmp_ge (tgt := 106) hx hb dX7_digest_83 (by decide) (fun c6 => ?_) (fun c6 => ?_)
      · have hF := g_t c6 hF
        refine lv_iconst (v := 0) hx hb dX7_digest_106 (by decide) ?_
        refine lv_istore_n (lv' := [(3, .int ((0 : Int32))), (0, .ref a0), (1, .long j1)]) hx hb dX7_digest_107 rfl hl (by decide) rfl (fun ls hl => ?_)
        refine W.widen (k := 0 + (7 - 7) * 10) (n := 0 + (7 - 7) * 90) (by omega) (by omega) ?_
        exact HL108 7 (Nat.le_refl _) _ _ _ _ _ _ _ hF hP hS (lv_sub hl [1, 2, 0] rfl)
      · have hF := g_f c6 hF
        refine lv_lload_n hx hb dX7_digest_86 rfl (lv_at hl 1 rfl) ?_
        refine lv_ldc2 (v := 31) hx hb hown (hts (.constantLong RX7 174 (31)) (by decide +kernel)) dX7_digest_87 ?_
        refine lv_lmul hx hb dX7_digest_90 ?_
        refine lv_aload_n hx hb dX7_digest_91 rfl (lv_at hl 0 rfl) ?_
        obtain ⟨q30, hq31, hF⟩ := g_bind hF
        refine g_get hx hb hts hiX7 hown hK hP 7 rfl (by decide) h5 4 (by decide) (hts (.fieldLink RX7 13 "CourierBeesModel" "roads" "[I") (by decide +kernel)) (fun _ h9 => h9) ((gFv_r (by decide)).trans (congrArg va_rf hq31)) dX7_digest_92 ?_
        refine lv_iload_n hx hb dX7_digest_95 rfl (lv_at hl 2 rfl) ?_
        obtain ⟨h32, hF⟩ := g_if hF
        obtain ⟨h33, hF⟩ := g_if hF
        refine g_iald hx hb hP (g_pr h32) h33 dX7_digest_96 ?_
        refine lv_i2l hx hb dX7_digest_97 rfl ?_
        refine lv_ladd hx hb dX7_digest_98 ?_
        refine lv_lstore_n (lv' := [(1, .long ((j1 * ((31 : Int64))) + (Int32.toInt64 (gI g q30 (Int32.toNatClampNeg x3))))), (0, .ref a0), (3, .int x3)]) hx hb dX7_digest_99 rfl hl (by decide) rfl (fun ls hl => ?_)
        refine lv_iinc (v := x3 + (1 : Int32)) (lv' := [(3, .int (x3 + (1 : Int32))), (1, .long ((j1 * ((31 : Int64))) + (Int32.toInt64 (gI g q30 (Int32.toNatClampNeg x3))))), (0, .ref a0)]) hx hb dX7_digest_100 hl (k := 2) rfl rfl (by decide) rfl (fun ls hl => ?_)
        refine lv_goto (tgt := 76) hx hb dX7_digest_103 (by decide) ?_
        exact ih76 _ _ _ _ _ _ _ hF hP hS (lv_sub hl [2, 1, 0] rfl)
  have HL38 : ∀ (n38 : Nat), ∀ (g : g_H) (a0 : Nat) (j1 : Int64) (x3 : Int32) (H : Heap) (locs : List Loc) (ls : Array Slot), f7_digest_38 n38 g a0 j1 x3 = some (rr, gz) → gP base D s g H → va_S (gA base) s.heap H locs → lv_has ls 5 [(0, .ref a0), (1, .long j1), (3, .int x3)] → W p l e ({ frames := 3, cells := 81, slots := 729, locals := 68 } : Room) s m args below meth c H locs 0 0 (MQ below (gQl base D rr gz) args s 81 729 (gA base)) (F0 m 38 ls []) := by
    intro n38
    induction n38 with
    | zero => intro g a0 j1 x3 H locs ls hF hP hS hl; exact g_no hF
    | succ n38 ih38 =>
      have HB65 : ∀ (g : g_H) (a0 : Nat) (x3 : Int32) (s0 : Int64) (s1 : Int32) (H : Heap) (locs : List Loc) (ls : Array Slot), f7_digest_65 (f7_digest_38 n38) g a0 x3 s0 s1 = some (rr, gz) → gP base D s g H → va_S (gA base) s.heap H locs → lv_has ls 5 [(0, .ref a0), (3, .int x3)] → W p l e ({ frames := 3, cells := 81, slots := 729, locals := 68 } : Room) s m args below meth c H locs 0 0 (MQ below (gQl base D rr gz) args s 81 729 (gA base)) (F0 m 65 ls [.int s1, .long s0]) := by
        intro g a0 x3 s0 s1 H locs ls hF hP hS hl
        unfold f7_digest_65 at hF
        refine lv_i2l hx hb dX7_digest_65 rfl ?_
        refine lv_ladd hx hb dX7_digest_66 ?_
        refine lv_lstore_n (lv' := [(1, .long (s0 + (Int32.toInt64 s1))), (0, .ref a0), (3, .int x3)]) hx hb dX7_digest_67 rfl hl (by decide) rfl (fun ls hl => ?_)
        refine lv_iinc (v := x3 + (1 : Int32)) (lv' := [(3, .int (x3 + (1 : Int32))), (1, .long (s0 + (Int32.toInt64 s1))), (0, .ref a0)]) hx hb dX7_digest_68 hl (k := 2) rfl rfl (by decide) rfl (fun ls hl => ?_)
        refine lv_goto (tgt := 38) hx hb dX7_digest_71 (by decide) ?_
        exact ih38 _ _ _ _ _ _ _ hF hP hS (lv_sub hl [2, 1, 0] rfl)
      intro g a0 j1 x3 H locs ls hF hP hS hl
      have hF : f7_digest_38b (f7_digest_38 n38) g a0 j1 x3 = some (rr, gz) := hF
      unfold f7_digest_38b at hF
      refine lv_iload_n hx hb dX7_digest_38 rfl (lv_at hl 2 rfl) ?_
      refine lv_aload_n hx hb dX7_digest_39 rfl (lv_at hl 0 rfl) ?_
      obtain ⟨h3, hF⟩ := g_if hF
      refine g_get hx hb hts hiX7 hown hK hP 7 rfl (by decide) h3 1 (by decide) (hts (.fieldLink RX7 39 "CourierBeesModel" "houses" "I") (by decide +kernel)) (fun _ h9 => h9) (gFv_i (Or.inl rfl)) dX7_digest_40 ?_
      refine lv_icmp_ge (tgt := 74) hx hb dX7_digest_43 (by decide) (fun c4 => ?_) (fun c4 => ?_)
      · have hF := g_t c4 hF
        refine lv_iconst (v := 0) hx hb dX7_digest_74 (by decide) ?_
        refine lv_istore_n (lv' := [(3, .int ((0 : Int32))), (0, .ref a0), (1, .long j1)]) hx hb dX7_digest_75 rfl hl (by decide) rfl (fun ls hl => ?_)
        exact HL76 300 _ _ _ _ _ _ _ hF hP hS (lv_sub hl [1, 2, 0] rfl)
      · have hF := g_f c4 hF
        refine lv_lload_n hx hb dX7_digest_46 rfl (lv_at hl 1 rfl) ?_
        refine lv_ldc2 (v := 31) hx hb hown (hts (.constantLong RX7 174 (31)) (by decide +kernel)) dX7_digest_47 ?_
        refine lv_lmul hx hb dX7_digest_50 ?_
        refine lv_aload_n hx hb dX7_digest_51 rfl (lv_at hl 0 rfl) ?_
        obtain ⟨q34, hq35, hF⟩ := g_bind hF
        refine g_get hx hb hts hiX7 hown hK hP 7 rfl (by decide) h3 2 (by decide) (hts (.fieldLink RX7 9 "CourierBeesModel" "hives" "[Z") (by decide +kernel)) (fun _ h9 => h9) ((gFv_r (by decide)).trans (congrArg va_rf hq35)) dX7_digest_52 ?_
        refine lv_iload_n hx hb dX7_digest_55 rfl (lv_at hl 2 rfl) ?_
        obtain ⟨h36, hF⟩ := g_if hF
        obtain ⟨h37, hF⟩ := g_if hF
        refine g_zald hx hb hP (g_pr h36) h37 dX7_digest_56 ?_
        refine lv_if_eq (tgt := 64) hx hb dX7_digest_57 (by decide) (fun c38 => ?_) (fun c38 => ?_)
        · have hF := g_t c38 hF
          refine lv_iconst (v := 0) hx hb dX7_digest_64 (by decide) ?_
          exact HB65 _ _ _ _ _ _ _ _ hF hP hS (lv_sub hl [0, 2] rfl)
        · have hF := g_f c38 hF
          refine lv_iconst (v := 1) hx hb dX7_digest_60 (by decide) ?_
          refine lv_goto (tgt := 65) hx hb dX7_digest_61 (by decide) ?_
          exact HB65 _ _ _ _ _ _ _ _ hF hP hS (lv_sub hl [0, 2] rfl)
  have HL11 : ∀ (n11 : Nat), ∀ (g : g_H) (a0 : Nat) (j1 : Int64) (x3 : Int32) (H : Heap) (locs : List Loc) (ls : Array Slot), f7_digest_11 n11 g a0 j1 x3 = some (rr, gz) → gP base D s g H → va_S (gA base) s.heap H locs → lv_has ls 5 [(0, .ref a0), (1, .long j1), (3, .int x3)] → W p l e ({ frames := 3, cells := 81, slots := 729, locals := 68 } : Room) s m args below meth c H locs 0 0 (MQ below (gQl base D rr gz) args s 81 729 (gA base)) (F0 m 11 ls []) := by
    intro n11
    induction n11 with
    | zero => intro g a0 j1 x3 H locs ls hF hP hS hl; exact g_no hF
    | succ n11 ih11 =>
      intro g a0 j1 x3 H locs ls hF hP hS hl
      have hF : f7_digest_11b (f7_digest_11 n11) g a0 j1 x3 = some (rr, gz) := hF
      unfold f7_digest_11b at hF
      refine lv_iload_n hx hb dX7_digest_11 rfl (lv_at hl 2 rfl) ?_
      refine lv_bipush (v := 9) hx hb dX7_digest_12 (by decide) ?_
      refine lv_icmp_ge (tgt := 36) hx hb dX7_digest_14 (by decide) (fun c2 => ?_) (fun c2 => ?_)
      · have hF := g_t c2 hF
        refine lv_iconst (v := 0) hx hb dX7_digest_36 (by decide) ?_
        refine lv_istore_n (lv' := [(3, .int ((0 : Int32))), (0, .ref a0), (1, .long j1)]) hx hb dX7_digest_37 rfl hl (by decide) rfl (fun ls hl => ?_)
        exact HL38 300 _ _ _ _ _ _ _ hF hP hS (lv_sub hl [1, 2, 0] rfl)
      · have hF := g_f c2 hF
        refine lv_lload_n hx hb dX7_digest_17 rfl (lv_at hl 1 rfl) ?_
        refine lv_ldc2 (v := 31) hx hb hown (hts (.constantLong RX7 174 (31)) (by decide +kernel)) dX7_digest_18 ?_
        refine lv_lmul hx hb dX7_digest_21 ?_
        refine lv_aload_n hx hb dX7_digest_22 rfl (lv_at hl 0 rfl) ?_
        refine lv_iload_n hx hb dX7_digest_23 rfl (lv_at hl 2 rfl) ?_
        obtain ⟨h40, hF⟩ := g_if hF
        obtain ⟨v42, g41, h39, hF⟩ := g_bind2 hF
        refine g_calli (va_runV (As := [.int x3]) (rest := [.long (j1 * ((31 : Int64)))]) ⟨hx, hb, hml, hown, hts⟩ (k7_counted l D base g a0 x3 v42 g41 h39) (cwV 1 hts gX7_digest_X7_counted rfl rfl rfl (by decide +kernel) ⟨Nat.le_of_ble_eq_true rfl, Nat.le_of_ble_eq_true rfl⟩) (gC.preV hE hP hS 7 rfl (by decide) h40 [.int x3]) rfl rfl hl.1 rfl (lv_room (Nat.le_of_ble_eq_true rfl)) dX7_digest_24 ⟨(Nat.le_of_ble_eq_true rfl), (Nat.le_of_ble_eq_true rfl)⟩) hS (fun H locs hP hS => ?_)
        refine lv_i2l hx hb dX7_digest_27 rfl ?_
        refine lv_ladd hx hb dX7_digest_28 ?_
        refine lv_lstore_n (lv' := [(1, .long ((j1 * ((31 : Int64))) + (Int32.toInt64 v42))), (0, .ref a0), (3, .int x3)]) hx hb dX7_digest_29 rfl hl (by decide) rfl (fun ls hl => ?_)
        refine lv_iinc (v := x3 + (1 : Int32)) (lv' := [(3, .int (x3 + (1 : Int32))), (1, .long ((j1 * ((31 : Int64))) + (Int32.toInt64 v42))), (0, .ref a0)]) hx hb dX7_digest_30 hl (k := 2) rfl rfl (by decide) rfl (fun ls hl => ?_)
        refine lv_goto (tgt := 11) hx hb dX7_digest_33 (by decide) ?_
        exact ih11 _ _ _ _ _ _ _ hF hP hS (lv_sub hl [2, 1, 0] rfl)
  unfold f7_digest at hF
  refine lv_aload_n hx hb dX7_digest_0 rfl (lv_at hl 0 rfl) ?_
  refine lv_iconst (v := 0) hx hb dX7_digest_1 (by decide) ?_
  obtain ⟨h1, hF⟩ := g_if hF
  refine g_puti hx hb hts hiX7 tyX7 tyX7_ok nmX7 hown hK hP hS 7 rfl (by decide) h1 0 (by decide) (hts (.fieldLink RX7 35 "CourierBeesModel" "thrown" "I") (by decide +kernel)) (fun _ h9 => h9) (Or.inl rfl) (Or.inl rfl) rfl rfl dX7_digest_2 (fun H locs hP hS => ?_)
  refine lv_ldc2 (v := 811) hx hb hown (hts (.constantLong RX7 172 (811)) (by decide +kernel)) dX7_digest_5 ?_
  refine lv_lstore_n (lv' := [(1, .long ((811 : Int64))), (0, .ref a0)]) hx hb dX7_digest_8 rfl hl (by decide) rfl (fun ls hl => ?_)
  refine lv_iconst (v := 0) hx hb dX7_digest_9 (by decide) ?_
  refine lv_istore_n (lv' := [(3, .int ((0 : Int32))), (1, .long ((811 : Int64))), (0, .ref a0)]) hx hb dX7_digest_10 rfl hl (by decide) rfl (fun ls hl => ?_)
  exact HL11 300 _ _ _ _ _ _ _ hF hP hS (lv_sub hl [2, 1, 0] rfl)
end
