set_option maxHeartbeats 4000000 in
set_option maxRecDepth 100000 in
theorem k7_init (l : Launch) (D : va_G) (base : Nat) (g : g_H) (a0 : Nat) (gz : g_H) (hF : f7_init g a0 = some gz) : Met l yX7_init wsX7_init ({ frames := 1, cells := 8, slots := 528, locals := 22 } : Room) (va_Pc [.ref a0] (gC base D g)) (gQv base D gz) 8 528 (gA base) := by
  refine g_met (cc := cX7_init) (maxL := 1) (ret := none) (lst := [(0, .ref a0)]) (by decide) rfl (Nat.le_of_ble_eq_true rfl) rfl ?_
  intro p e s m args below meth c ls hx hb hr hml hown hlocks hname hts hE hP hl
  have hown : s.vm.findClass RX7 = some m.cls := hown
  have hK := hE.1
  have hov := hE.2.2.2.2.2.2.2.1
  have hbz := hE.2.2.2.2.2.2.2.2.2.2.2.2
  have hS : va_S (gA base) s.heap s.heap [] := va_S.rf
  have hiX7 : ∀ w ∈ wsX70, w ∈ wsX7_init := by decide +kernel
  unfold f7_init at hF
  refine lv_aload_n hx hb dX7_init_0 rfl (lv_at hl 0 rfl) ?_
  refine W.objInit hx hb hown (hts (.methodLink RX7 1 objectInit) (by decide +kernel)) (hts (.instanceMethod objectInit) (by decide +kernel)) (hts (.code objectInit ⟨#[0xb1]⟩ 1 none) (by decide +kernel)) rfl (by rw [hml]; exact hl.1) rfl dX7_init_1 (Nat.le_of_ble_eq_true rfl) (Nat.le_of_ble_eq_true rfl) ?_
  refine W.eq (g2 := F0 m 4 ls []) rfl ?_
  refine lv_aload_n hx hb dX7_init_4 rfl (lv_at hl 0 rfl) ?_
  refine lv_bipush (v := 14) hx hb dX7_init_5 (by decide) ?_
  obtain ⟨q1, g2, e3, e4, h5, hF⟩ := g_nw hF
  refine g_newa (atype := .boolean) hx hb (hts (.arrayClass .boolean) (by decide +kernel)) 12 rfl (by decide) rfl hP hS hbz (n := 14) (N' := 14) (by decide) (by decide) (Nat.le_of_ble_eq_true rfl) (Nat.le_of_ble_eq_true rfl) (Nat.le_of_ble_eq_true rfl) dX7_init_7 (fun H hP hS => ?_)
  rw [e4] at hP
  rw [e3]
  obtain ⟨h6, hF⟩ := g_if hF
  refine g_putr hx hb hts hiX7 tyX7 tyX7_ok nmX7 hown hK hP hS 7 rfl (by decide) h6 2 (by decide) (hts (.fieldLink RX7 9 "CourierBeesModel" "hives" "[Z") (by decide +kernel)) (fun _ h9 => h9) (Or.inr ⟨rfl, hname, rfl⟩) (by decide) rfl rfl dX7_init_9 (fun H locs hP hS => ?_)
  refine lv_aload_n hx hb dX7_init_12 rfl (lv_at hl 0 rfl) ?_
  refine lv_bipush (v := 120) hx hb dX7_init_13 (by decide) ?_
  obtain ⟨q7, g8, e9, e10, h11, hF⟩ := g_nw hF
  refine g_newa (atype := .int) hx hb (hts (.arrayClass .int) (by decide +kernel)) 11 rfl (by decide) rfl hP hS hbz (n := 120) (N' := 120) (by decide) (by decide) (Nat.le_of_ble_eq_true rfl) (Nat.le_of_ble_eq_true rfl) (Nat.le_of_ble_eq_true rfl) dX7_init_15 (fun H hP hS => ?_)
  rw [e10] at hP
  rw [e9]
  obtain ⟨h12, hF⟩ := g_if hF
  refine g_putr hx hb hts hiX7 tyX7 tyX7_ok nmX7 hown hK hP hS 7 rfl (by decide) h12 4 (by decide) (hts (.fieldLink RX7 13 "CourierBeesModel" "roads" "[I") (by decide +kernel)) (fun _ h9 => h9) (Or.inr ⟨rfl, hname, rfl⟩) (by decide) rfl rfl dX7_init_17 (fun H locs hP hS => ?_)
  refine lv_aload_n hx hb dX7_init_20 rfl (lv_at hl 0 rfl) ?_
  refine lv_sipush (v := 196) hx hb dX7_init_21 (by decide) ?_
  obtain ⟨q13, g14, e15, e16, h17, hF⟩ := g_nw hF
  refine g_newa (atype := .int) hx hb (hts (.arrayClass .int) (by decide +kernel)) 11 rfl (by decide) rfl hP hS hbz (n := 196) (N' := 196) (by decide) (by decide) (Nat.le_of_ble_eq_true rfl) (Nat.le_of_ble_eq_true rfl) (Nat.le_of_ble_eq_true rfl) dX7_init_24 (fun H hP hS => ?_)
  rw [e16] at hP
  rw [e15]
  obtain ⟨h18, hF⟩ := g_if hF
  refine g_putr hx hb hts hiX7 tyX7 tyX7_ok nmX7 hown hK hP hS 7 rfl (by decide) h18 5 (by decide) (hts (.fieldLink RX7 17 "CourierBeesModel" "ways" "[I") (by decide +kernel)) (fun _ h9 => h9) (Or.inr ⟨rfl, hname, rfl⟩) (by decide) rfl rfl dX7_init_26 (fun H locs hP hS => ?_)
  refine lv_aload_n hx hb dX7_init_29 rfl (lv_at hl 0 rfl) ?_
  refine lv_bipush (v := 48) hx hb dX7_init_30 (by decide) ?_
  obtain ⟨q19, g20, e21, e22, h23, hF⟩ := g_nw hF
  refine g_newa (atype := .int) hx hb (hts (.arrayClass .int) (by decide +kernel)) 11 rfl (by decide) rfl hP hS hbz (n := 48) (N' := 48) (by decide) (by decide) (Nat.le_of_ble_eq_true rfl) (Nat.le_of_ble_eq_true rfl) (Nat.le_of_ble_eq_true rfl) dX7_init_32 (fun H hP hS => ?_)
  rw [e22] at hP
  rw [e21]
  obtain ⟨h24, hF⟩ := g_if hF
  refine g_putr hx hb hts hiX7 tyX7 tyX7_ok nmX7 hown hK hP hS 7 rfl (by decide) h24 7 (by decide) (hts (.fieldLink RX7 20 "CourierBeesModel" "swarm" "[I") (by decide +kernel)) (fun _ h9 => h9) (Or.inr ⟨rfl, hname, rfl⟩) (by decide) rfl rfl dX7_init_34 (fun H locs hP hS => ?_)
  refine lv_aload_n hx hb dX7_init_37 rfl (lv_at hl 0 rfl) ?_
  refine lv_bipush (v := 42) hx hb dX7_init_38 (by decide) ?_
  obtain ⟨q25, g26, e27, e28, h29, hF⟩ := g_nw hF
  refine g_newa (atype := .int) hx hb (hts (.arrayClass .int) (by decide +kernel)) 11 rfl (by decide) rfl hP hS hbz (n := 42) (N' := 42) (by decide) (by decide) (Nat.le_of_ble_eq_true rfl) (Nat.le_of_ble_eq_true rfl) (Nat.le_of_ble_eq_true rfl) dX7_init_40 (fun H hP hS => ?_)
  rw [e28] at hP
  rw [e27]
  obtain ⟨h30, hF⟩ := g_if hF
  refine g_putr hx hb hts hiX7 tyX7 tyX7_ok nmX7 hown hK hP hS 7 rfl (by decide) h30 8 (by decide) (hts (.fieldLink RX7 23 "CourierBeesModel" "routes" "[I") (by decide +kernel)) (fun _ h9 => h9) (Or.inr ⟨rfl, hname, rfl⟩) (by decide) rfl rfl dX7_init_42 (fun H locs hP hS => ?_)
  refine lv_aload_n hx hb dX7_init_45 rfl (lv_at hl 0 rfl) ?_
  refine lv_bipush (v := 100) hx hb dX7_init_46 (by decide) ?_
  obtain ⟨q31, g32, e33, e34, h35, hF⟩ := g_nw hF
  refine g_newa (atype := .int) hx hb (hts (.arrayClass .int) (by decide +kernel)) 11 rfl (by decide) rfl hP hS hbz (n := 100) (N' := 100) (by decide) (by decide) (Nat.le_of_ble_eq_true rfl) (Nat.le_of_ble_eq_true rfl) (Nat.le_of_ble_eq_true rfl) dX7_init_48 (fun H hP hS => ?_)
  rw [e34] at hP
  rw [e33]
  obtain ⟨h36, hF⟩ := g_if hF
  refine g_putr hx hb hts hiX7 tyX7 tyX7_ok nmX7 hown hK hP hS 7 rfl (by decide) h36 10 (by decide) (hts (.fieldLink RX7 26 "CourierBeesModel" "post" "[I") (by decide +kernel)) (fun _ h9 => h9) (Or.inr ⟨rfl, hname, rfl⟩) (by decide) rfl rfl dX7_init_50 (fun H locs hP hS => ?_)
  refine lv_aload_n hx hb dX7_init_53 rfl (lv_at hl 0 rfl) ?_
  refine lv_iconst (v := 1) hx hb dX7_init_54 (by decide) ?_
  obtain ⟨q37, g38, e39, e40, h41, hF⟩ := g_nw hF
  refine g_newa (atype := .int) hx hb (hts (.arrayClass .int) (by decide +kernel)) 11 rfl (by decide) rfl hP hS hbz (n := 1) (N' := 1) (by decide) (by decide) (Nat.le_of_ble_eq_true rfl) (Nat.le_of_ble_eq_true rfl) (Nat.le_of_ble_eq_true rfl) dX7_init_55 (fun H hP hS => ?_)
  rw [e40] at hP
  rw [e39]
  refine lv_dup hx hb dX7_init_57 rfl ?_
  refine lv_iconst (v := 0) hx hb dX7_init_58 (by decide) ?_
  refine lv_iconst (v := 0) hx hb dX7_init_59 (by decide) ?_
  obtain ⟨h42, hF⟩ := g_if hF
  refine g_iast hx hb hP hS (g_pr h41) h42 dX7_init_60 (fun H locs hP hS => ?_)
  obtain ⟨h43, hF⟩ := g_if hF
  refine g_putr hx hb hts hiX7 tyX7 tyX7_ok nmX7 hown hK hP hS 7 rfl (by decide) h43 11 (by decide) (hts (.fieldLink RX7 29 "CourierBeesModel" "quarter" "[I") (by decide +kernel)) (fun _ h9 => h9) (Or.inr ⟨rfl, hname, rfl⟩) (by decide) rfl rfl dX7_init_61 (fun H locs hP hS => ?_)
  refine lv_aload_n hx hb dX7_init_64 rfl (lv_at hl 0 rfl) ?_
  refine lv_bipush (v := 7) hx hb dX7_init_65 (by decide) ?_
  obtain ⟨q44, g45, e46, e47, h48, hF⟩ := g_nw hF
  refine g_newa (atype := .int) hx hb (hts (.arrayClass .int) (by decide +kernel)) 11 rfl (by decide) rfl hP hS hbz (n := 7) (N' := 7) (by decide) (by decide) (Nat.le_of_ble_eq_true rfl) (Nat.le_of_ble_eq_true rfl) (Nat.le_of_ble_eq_true rfl) dX7_init_67 (fun H hP hS => ?_)
  rw [e47] at hP
  rw [e46]
  obtain ⟨h49, hF⟩ := g_if hF
  refine g_putr hx hb hts hiX7 tyX7 tyX7_ok nmX7 hown hK hP hS 7 rfl (by decide) h49 12 (by decide) (hts (.fieldLink RX7 32 "CourierBeesModel" "row" "[I") (by decide +kernel)) (fun _ h9 => h9) (Or.inr ⟨rfl, hname, rfl⟩) (by decide) rfl rfl dX7_init_69 (fun H locs hP hS => ?_)
  exact g_retV hx hb hr hlocks hF hP hS (Nat.le_of_ble_eq_true rfl) (Nat.le_of_ble_eq_true rfl) dX7_init_72
set_option maxHeartbeats 4000000 in
set_option maxRecDepth 100000 in
theorem k7_thrown (l : Launch) (D : va_G) (base : Nat) (g : g_H) (a0 : Nat) (rr : Int32) (gz : g_H) (hF : f7_thrown g a0 = some (rr, gz)) : Met l yX7_thrown wsX7_thrown ({ frames := 0, cells := 0, slots := 0, locals := 0 } : Room) (va_Pc [.ref a0] (gC base D g)) (gQi base D rr gz) 0 0 (gA base) := by
  refine g_met (cc := cX7_thrown) (maxL := 1) (ret := (some .int)) (lst := [(0, .ref a0)]) (by decide) rfl (Nat.le_of_ble_eq_true rfl) rfl ?_
  intro p e s m args below meth c ls hx hb hr hml hown hlocks hname hts hE hP hl
  have hown : s.vm.findClass RX7 = some m.cls := hown
  have hK := hE.1
  have hov := hE.2.2.2.2.2.2.2.1
  have hbz := hE.2.2.2.2.2.2.2.2.2.2.2.2
  have hS : va_S (gA base) s.heap s.heap [] := va_S.rf
  have hiX7 : ∀ w ∈ wsX70, w ∈ wsX7_thrown := by decide +kernel
  unfold f7_thrown at hF
  refine lv_aload_n hx hb dX7_thrown_0 rfl (lv_at hl 0 rfl) ?_
  obtain ⟨h1, hF⟩ := g_if hF
  refine g_get hx hb hts hiX7 hown hK hP 7 rfl (by decide) h1 0 (by decide) (hts (.fieldLink RX7 35 "CourierBeesModel" "thrown" "I") (by decide +kernel)) (fun _ h9 => h9) (gFv_i (Or.inl rfl)) dX7_thrown_1 ?_
  exact g_retI hx hb hr hlocks hF hP hS (Nat.le_of_ble_eq_true rfl) (Nat.le_of_ble_eq_true rfl) dX7_thrown_4
set_option maxHeartbeats 4000000 in
set_option maxRecDepth 100000 in
theorem k7_fail (l : Launch) (D : va_G) (base : Nat) (g : g_H) (a0 : Nat) (x1 : Int32) (rr : Int32) (gz : g_H) (hF : f7_fail g a0 x1 = some (rr, gz)) : Met l yX7_fail wsX7_fail ({ frames := 0, cells := 0, slots := 0, locals := 0 } : Room) (va_Pc [.ref a0, .int x1] (gC base D g)) (gQi base D rr gz) 0 0 (gA base) := by
  refine g_met (cc := cX7_fail) (maxL := 2) (ret := (some .int)) (lst := [(0, .ref a0), (1, .int x1)]) (by decide) rfl (Nat.le_of_ble_eq_true rfl) rfl ?_
  intro p e s m args below meth c ls hx hb hr hml hown hlocks hname hts hE hP hl
  have hown : s.vm.findClass RX7 = some m.cls := hown
  have hK := hE.1
  have hov := hE.2.2.2.2.2.2.2.1
  have hbz := hE.2.2.2.2.2.2.2.2.2.2.2.2
  have hS : va_S (gA base) s.heap s.heap [] := va_S.rf
  have hiX7 : ∀ w ∈ wsX70, w ∈ wsX7_fail := by decide +kernel
  unfold f7_fail at hF
  refine lv_aload_n hx hb dX7_fail_0 rfl (lv_at hl 0 rfl) ?_
  refine lv_iload_n hx hb dX7_fail_1 rfl (lv_at hl 1 rfl) ?_
  obtain ⟨h1, hF⟩ := g_if hF
  refine g_puti hx hb hts hiX7 tyX7 tyX7_ok nmX7 hown hK hP hS 7 rfl (by decide) h1 0 (by decide) (hts (.fieldLink RX7 35 "CourierBeesModel" "thrown" "I") (by decide +kernel)) (fun _ h9 => h9) (Or.inl rfl) (Or.inl rfl) rfl rfl dX7_fail_2 (fun H locs hP hS => ?_)
  refine lv_iconst (v := 0) hx hb dX7_fail_5 (by decide) ?_
  exact g_retI hx hb hr hlocks hF hP hS (Nat.le_of_ble_eq_true rfl) (Nat.le_of_ble_eq_true rfl) dX7_fail_6
set_option maxHeartbeats 4000000 in
set_option maxRecDepth 100000 in
theorem k7_isIn (l : Launch) (D : va_G) (base : Nat) (g : g_H) (x0 : Int32) (x1 : Int32) (x2 : Int32) (rr : Int32) (gz : g_H) (hF : f7_isIn g x0 x1 x2 = some (rr, gz)) : Met l yX7_isIn wsX7_isIn ({ frames := 0, cells := 0, slots := 0, locals := 0 } : Room) (va_Pc [.int x0, .int x1, .int x2] (gC base D g)) (gQi base D rr gz) 0 0 (gA base) := by
  refine g_met (cc := cX7_isIn) (maxL := 3) (ret := (some .boolean)) (lst := [(0, .int x0), (1, .int x1), (2, .int x2)]) (by decide) rfl (Nat.le_of_ble_eq_true rfl) rfl ?_
  intro p e s m args below meth c ls hx hb hr hml hown hlocks hname hts hE hP hl
  have hown : s.vm.findClass RX7 = some m.cls := hown
  have hK := hE.1
  have hov := hE.2.2.2.2.2.2.2.1
  have hbz := hE.2.2.2.2.2.2.2.2.2.2.2.2
  have hS : va_S (gA base) s.heap s.heap [] := va_S.rf
  unfold f7_isIn at hF
  refine lv_iload_n hx hb dX7_isIn_0 rfl (lv_at hl 0 rfl) ?_
  refine lv_iload_n hx hb dX7_isIn_1 rfl (lv_at hl 1 rfl) ?_
  refine lv_icmp_lt (tgt := 14) hx hb dX7_isIn_2 (by decide) (fun c1 => ?_) (fun c1 => ?_)
  · have hF := g_t c1 hF
    refine lv_iconst (v := 0) hx hb dX7_isIn_14 (by decide) ?_
    exact g_retZ hx hb hr (Or.inl rfl) hlocks hF hP hS (Nat.le_of_ble_eq_true rfl) (Nat.le_of_ble_eq_true rfl) dX7_isIn_15
  · have hF := g_f c1 hF
    refine lv_iload_n hx hb dX7_isIn_5 rfl (lv_at hl 0 rfl) ?_
    refine lv_iload_n hx hb dX7_isIn_6 rfl (lv_at hl 2 rfl) ?_
    refine lv_icmp_gt (tgt := 14) hx hb dX7_isIn_7 (by decide) (fun c2 => ?_) (fun c2 => ?_)
    · have hF := g_t c2 hF
      refine lv_iconst (v := 0) hx hb dX7_isIn_14 (by decide) ?_
      exact g_retZ hx hb hr (Or.inl rfl) hlocks hF hP hS (Nat.le_of_ble_eq_true rfl) (Nat.le_of_ble_eq_true rfl) dX7_isIn_15
    · have hF := g_f c2 hF
      refine lv_iconst (v := 1) hx hb dX7_isIn_10 (by decide) ?_
      refine lv_goto (tgt := 15) hx hb dX7_isIn_11 (by decide) ?_
      exact g_retZ hx hb hr (Or.inr rfl) hlocks hF hP hS (Nat.le_of_ble_eq_true rfl) (Nat.le_of_ble_eq_true rfl) dX7_isIn_15
set_option maxHeartbeats 4000000 in
set_option maxRecDepth 100000 in
theorem k7_isHouse (l : Launch) (D : va_G) (base : Nat) (g : g_H) (a0 : Nat) (x1 : Int32) (rr : Int32) (gz : g_H) (hF : f7_isHouse g a0 x1 = some (rr, gz)) : Met l yX7_isHouse wsX7_isHouse ({ frames := 1, cells := 0, slots := 0, locals := 22 } : Room) (va_Pc [.ref a0, .int x1] (gC base D g)) (gQi base D rr gz) 0 0 (gA base) := by
  refine g_met (cc := cX7_isHouse) (maxL := 2) (ret := (some .boolean)) (lst := [(0, .ref a0), (1, .int x1)]) (by decide) rfl (Nat.le_of_ble_eq_true rfl) rfl ?_
  intro p e s m args below meth c ls hx hb hr hml hown hlocks hname hts hE hP hl
  have hown : s.vm.findClass RX7 = some m.cls := hown
  have hK := hE.1
  have hov := hE.2.2.2.2.2.2.2.1
  have hbz := hE.2.2.2.2.2.2.2.2.2.2.2.2
  have hS : va_S (gA base) s.heap s.heap [] := va_S.rf
  have hiX7 : ∀ w ∈ wsX70, w ∈ wsX7_isHouse := by decide +kernel
  unfold f7_isHouse at hF
  refine lv_iload_n hx hb dX7_isHouse_0 rfl (lv_at hl 1 rfl) ?_
  refine lv_iconst (v := 0) hx hb dX7_isHouse_1 (by decide) ?_
  refine lv_aload_n hx hb dX7_isHouse_2 rfl (lv_at hl 0 rfl) ?_
  obtain ⟨h1, hF⟩ := g_if hF
  refine g_get hx hb hts hiX7 hown hK hP 7 rfl (by decide) h1 1 (by decide) (hts (.fieldLink RX7 39 "CourierBeesModel" "houses" "I") (by decide +kernel)) (fun _ h9 => h9) (gFv_i (Or.inl rfl)) dX7_isHouse_3 ?_
  refine lv_iconst (v := 1) hx hb dX7_isHouse_6 (by decide) ?_
  refine lv_isub hx hb dX7_isHouse_7 ?_
  obtain ⟨v4, g3, h2, hF⟩ := g_bind2 hF
  refine g_calli (va_runS (As := [.int x1, .int ((0 : Int32)), .int ((gI g a0 1) - ((1 : Int32)))]) (rest := []) ⟨hx, hb, hml, hown, hts⟩ (k7_isIn l D base g x1 ((0 : Int32)) ((gI g a0 1) - ((1 : Int32))) v4 g3 h2) (va_cwS 3 hts gX7_isHouse_X7_isIn rfl rfl rfl (by decide +kernel) ⟨Nat.le_of_ble_eq_true rfl, Nat.le_of_ble_eq_true rfl⟩) (gC.preS hE hP hS [.int x1, .int ((0 : Int32)), .int ((gI g a0 1) - ((1 : Int32)))]) rfl rfl hl.1 rfl (lv_room (Nat.le_of_ble_eq_true rfl)) dX7_isHouse_8 ⟨(Nat.le_of_ble_eq_true rfl), (Nat.le_of_ble_eq_true rfl)⟩) hS (fun H locs hP hS => ?_)
  obtain ⟨h5, hF⟩ := g_if hF
  exact g_retZ hx hb hr h5 hlocks hF hP hS (Nat.le_of_ble_eq_true rfl) (Nat.le_of_ble_eq_true rfl) dX7_isHouse_11
set_option maxHeartbeats 4000000 in
set_option maxRecDepth 100000 in
theorem k7_isLane (l : Launch) (D : va_G) (base : Nat) (g : g_H) (a0 : Nat) (x1 : Int32) (rr : Int32) (gz : g_H) (hF : f7_isLane g a0 x1 = some (rr, gz)) : Met l yX7_isLane wsX7_isLane ({ frames := 1, cells := 0, slots := 0, locals := 22 } : Room) (va_Pc [.ref a0, .int x1] (gC base D g)) (gQi base D rr gz) 0 0 (gA base) := by
  refine g_met (cc := cX7_isLane) (maxL := 2) (ret := (some .boolean)) (lst := [(0, .ref a0), (1, .int x1)]) (by decide) rfl (Nat.le_of_ble_eq_true rfl) rfl ?_
  intro p e s m args below meth c ls hx hb hr hml hown hlocks hname hts hE hP hl
  have hown : s.vm.findClass RX7 = some m.cls := hown
  have hK := hE.1
  have hov := hE.2.2.2.2.2.2.2.1
  have hbz := hE.2.2.2.2.2.2.2.2.2.2.2.2
  have hS : va_S (gA base) s.heap s.heap [] := va_S.rf
  have hiX7 : ∀ w ∈ wsX70, w ∈ wsX7_isLane := by decide +kernel
  unfold f7_isLane at hF
  refine lv_iload_n hx hb dX7_isLane_0 rfl (lv_at hl 1 rfl) ?_
  refine lv_iconst (v := 0) hx hb dX7_isLane_1 (by decide) ?_
  refine lv_aload_n hx hb dX7_isLane_2 rfl (lv_at hl 0 rfl) ?_
  obtain ⟨h1, hF⟩ := g_if hF
  refine g_get hx hb hts hiX7 hown hK hP 7 rfl (by decide) h1 3 (by decide) (hts (.fieldLink RX7 46 "CourierBeesModel" "lanes" "I") (by decide +kernel)) (fun _ h9 => h9) (gFv_i (Or.inl rfl)) dX7_isLane_3 ?_
  refine lv_iconst (v := 1) hx hb dX7_isLane_6 (by decide) ?_
  refine lv_isub hx hb dX7_isLane_7 ?_
  obtain ⟨v4, g3, h2, hF⟩ := g_bind2 hF
  refine g_calli (va_runS (As := [.int x1, .int ((0 : Int32)), .int ((gI g a0 3) - ((1 : Int32)))]) (rest := []) ⟨hx, hb, hml, hown, hts⟩ (k7_isIn l D base g x1 ((0 : Int32)) ((gI g a0 3) - ((1 : Int32))) v4 g3 h2) (va_cwS 3 hts gX7_isLane_X7_isIn rfl rfl rfl (by decide +kernel) ⟨Nat.le_of_ble_eq_true rfl, Nat.le_of_ble_eq_true rfl⟩) (gC.preS hE hP hS [.int x1, .int ((0 : Int32)), .int ((gI g a0 3) - ((1 : Int32)))]) rfl rfl hl.1 rfl (lv_room (Nat.le_of_ble_eq_true rfl)) dX7_isLane_8 ⟨(Nat.le_of_ble_eq_true rfl), (Nat.le_of_ble_eq_true rfl)⟩) hS (fun H locs hP hS => ?_)
  obtain ⟨h5, hF⟩ := g_if hF
  exact g_retZ hx hb hr h5 hlocks hF hP hS (Nat.le_of_ble_eq_true rfl) (Nat.le_of_ble_eq_true rfl) dX7_isLane_11
set_option maxHeartbeats 4000000 in
set_option maxRecDepth 100000 in
theorem k7_isBee (l : Launch) (D : va_G) (base : Nat) (g : g_H) (a0 : Nat) (x1 : Int32) (rr : Int32) (gz : g_H) (hF : f7_isBee g a0 x1 = some (rr, gz)) : Met l yX7_isBee wsX7_isBee ({ frames := 1, cells := 0, slots := 0, locals := 22 } : Room) (va_Pc [.ref a0, .int x1] (gC base D g)) (gQi base D rr gz) 0 0 (gA base) := by
  refine g_met (cc := cX7_isBee) (maxL := 2) (ret := (some .boolean)) (lst := [(0, .ref a0), (1, .int x1)]) (by decide) rfl (Nat.le_of_ble_eq_true rfl) rfl ?_
  intro p e s m args below meth c ls hx hb hr hml hown hlocks hname hts hE hP hl
  have hown : s.vm.findClass RX7 = some m.cls := hown
  have hK := hE.1
  have hov := hE.2.2.2.2.2.2.2.1
  have hbz := hE.2.2.2.2.2.2.2.2.2.2.2.2
  have hS : va_S (gA base) s.heap s.heap [] := va_S.rf
  have hiX7 : ∀ w ∈ wsX70, w ∈ wsX7_isBee := by decide +kernel
  unfold f7_isBee at hF
  refine lv_iload_n hx hb dX7_isBee_0 rfl (lv_at hl 1 rfl) ?_
  refine lv_iconst (v := 0) hx hb dX7_isBee_1 (by decide) ?_
  refine lv_aload_n hx hb dX7_isBee_2 rfl (lv_at hl 0 rfl) ?_
  obtain ⟨h1, hF⟩ := g_if hF
  refine g_get hx hb hts hiX7 hown hK hP 7 rfl (by decide) h1 6 (by decide) (hts (.fieldLink RX7 49 "CourierBeesModel" "bees" "I") (by decide +kernel)) (fun _ h9 => h9) (gFv_i (Or.inl rfl)) dX7_isBee_3 ?_
  refine lv_iconst (v := 1) hx hb dX7_isBee_6 (by decide) ?_
  refine lv_isub hx hb dX7_isBee_7 ?_
  obtain ⟨v4, g3, h2, hF⟩ := g_bind2 hF
  refine g_calli (va_runS (As := [.int x1, .int ((0 : Int32)), .int ((gI g a0 6) - ((1 : Int32)))]) (rest := []) ⟨hx, hb, hml, hown, hts⟩ (k7_isIn l D base g x1 ((0 : Int32)) ((gI g a0 6) - ((1 : Int32))) v4 g3 h2) (va_cwS 3 hts gX7_isBee_X7_isIn rfl rfl rfl (by decide +kernel) ⟨Nat.le_of_ble_eq_true rfl, Nat.le_of_ble_eq_true rfl⟩) (gC.preS hE hP hS [.int x1, .int ((0 : Int32)), .int ((gI g a0 6) - ((1 : Int32)))]) rfl rfl hl.1 rfl (lv_room (Nat.le_of_ble_eq_true rfl)) dX7_isBee_8 ⟨(Nat.le_of_ble_eq_true rfl), (Nat.le_of_ble_eq_true rfl)⟩) hS (fun H locs hP hS => ?_)
  obtain ⟨h5, hF⟩ := g_if hF
  exact g_retZ hx hb hr h5 hlocks hF hP hS (Nat.le_of_ble_eq_true rfl) (Nat.le_of_ble_eq_true rfl) dX7_isBee_11
set_option maxHeartbeats 4000000 in
set_option maxRecDepth 100000 in
theorem k7_isLetter (l : Launch) (D : va_G) (base : Nat) (g : g_H) (a0 : Nat) (x1 : Int32) (rr : Int32) (gz : g_H) (hF : f7_isLetter g a0 x1 = some (rr, gz)) : Met l yX7_isLetter wsX7_isLetter ({ frames := 1, cells := 0, slots := 0, locals := 22 } : Room) (va_Pc [.ref a0, .int x1] (gC base D g)) (gQi base D rr gz) 0 0 (gA base) := by
  refine g_met (cc := cX7_isLetter) (maxL := 2) (ret := (some .boolean)) (lst := [(0, .ref a0), (1, .int x1)]) (by decide) rfl (Nat.le_of_ble_eq_true rfl) rfl ?_
  intro p e s m args below meth c ls hx hb hr hml hown hlocks hname hts hE hP hl
  have hown : s.vm.findClass RX7 = some m.cls := hown
  have hK := hE.1
  have hov := hE.2.2.2.2.2.2.2.1
  have hbz := hE.2.2.2.2.2.2.2.2.2.2.2.2
  have hS : va_S (gA base) s.heap s.heap [] := va_S.rf
  have hiX7 : ∀ w ∈ wsX70, w ∈ wsX7_isLetter := by decide +kernel
  unfold f7_isLetter at hF
  refine lv_iload_n hx hb dX7_isLetter_0 rfl (lv_at hl 1 rfl) ?_
  refine lv_iconst (v := 0) hx hb dX7_isLetter_1 (by decide) ?_
  refine lv_aload_n hx hb dX7_isLetter_2 rfl (lv_at hl 0 rfl) ?_
  obtain ⟨h1, hF⟩ := g_if hF
  refine g_get hx hb hts hiX7 hown hK hP 7 rfl (by decide) h1 9 (by decide) (hts (.fieldLink RX7 52 "CourierBeesModel" "letters" "I") (by decide +kernel)) (fun _ h9 => h9) (gFv_i (Or.inl rfl)) dX7_isLetter_3 ?_
  refine lv_iconst (v := 1) hx hb dX7_isLetter_6 (by decide) ?_
  refine lv_isub hx hb dX7_isLetter_7 ?_
  obtain ⟨v4, g3, h2, hF⟩ := g_bind2 hF
  refine g_calli (va_runS (As := [.int x1, .int ((0 : Int32)), .int ((gI g a0 9) - ((1 : Int32)))]) (rest := []) ⟨hx, hb, hml, hown, hts⟩ (k7_isIn l D base g x1 ((0 : Int32)) ((gI g a0 9) - ((1 : Int32))) v4 g3 h2) (va_cwS 3 hts gX7_isLetter_X7_isIn rfl rfl rfl (by decide +kernel) ⟨Nat.le_of_ble_eq_true rfl, Nat.le_of_ble_eq_true rfl⟩) (gC.preS hE hP hS [.int x1, .int ((0 : Int32)), .int ((gI g a0 9) - ((1 : Int32)))]) rfl rfl hl.1 rfl (lv_room (Nat.le_of_ble_eq_true rfl)) dX7_isLetter_8 ⟨(Nat.le_of_ble_eq_true rfl), (Nat.le_of_ble_eq_true rfl)⟩) hS (fun H locs hP hS => ?_)
  obtain ⟨h5, hF⟩ := g_if hF
  exact g_retZ hx hb hr h5 hlocks hF hP hS (Nat.le_of_ble_eq_true rfl) (Nat.le_of_ble_eq_true rfl) dX7_isLetter_11
set_option maxHeartbeats 4000000 in
set_option maxRecDepth 100000 in
theorem k7_ro (l : Launch) (D : va_G) (base : Nat) (g : g_H) (a0 : Nat) (x1 : Int32) (x2 : Int32) (rr : Int32) (gz : g_H) (hF : f7_ro g a0 x1 x2 = some (rr, gz)) : Met l yX7_ro wsX7_ro ({ frames := 0, cells := 0, slots := 0, locals := 0 } : Room) (va_Pc [.ref a0, .int x1, .int x2] (gC base D g)) (gQi base D rr gz) 0 0 (gA base) := by
  refine g_met (cc := cX7_ro) (maxL := 3) (ret := (some .int)) (lst := [(0, .ref a0), (1, .int x1), (2, .int x2)]) (by decide) rfl (Nat.le_of_ble_eq_true rfl) rfl ?_
  intro p e s m args below meth c ls hx hb hr hml hown hlocks hname hts hE hP hl
  have hown : s.vm.findClass RX7 = some m.cls := hown
  have hK := hE.1
  have hov := hE.2.2.2.2.2.2.2.1
  have hbz := hE.2.2.2.2.2.2.2.2.2.2.2.2
  have hS : va_S (gA base) s.heap s.heap [] := va_S.rf
  have hiX7 : ∀ w ∈ wsX70, w ∈ wsX7_ro := by decide +kernel
  unfold f7_ro at hF
  refine lv_aload_n hx hb dX7_ro_0 rfl (lv_at hl 0 rfl) ?_
  obtain ⟨h1, hF⟩ := g_if hF
  obtain ⟨q2, hq3, hF⟩ := g_bind hF
  refine g_get hx hb hts hiX7 hown hK hP 7 rfl (by decide) h1 4 (by decide) (hts (.fieldLink RX7 13 "CourierBeesModel" "roads" "[I") (by decide +kernel)) (fun _ h9 => h9) ((gFv_r (by decide)).trans (congrArg va_rf hq3)) dX7_ro_1 ?_
  refine lv_iconst (v := 5) hx hb dX7_ro_4 (by decide) ?_
  refine lv_iload_n hx hb dX7_ro_5 rfl (lv_at hl 1 rfl) ?_
  refine lv_imul hx hb dX7_ro_6 ?_
  refine lv_iload_n hx hb dX7_ro_7 rfl (lv_at hl 2 rfl) ?_
  refine lv_iadd hx hb dX7_ro_8 ?_
  obtain ⟨h4, hF⟩ := g_if hF
  obtain ⟨h5, hF⟩ := g_if hF
  refine g_iald hx hb hP (g_pr h4) h5 dX7_ro_9 ?_
  exact g_retI hx hb hr hlocks hF hP hS (Nat.le_of_ble_eq_true rfl) (Nat.le_of_ble_eq_true rfl) dX7_ro_10
set_option maxHeartbeats 4000000 in
set_option maxRecDepth 100000 in
theorem k7_be (l : Launch) (D : va_G) (base : Nat) (g : g_H) (a0 : Nat) (x1 : Int32) (x2 : Int32) (rr : Int32) (gz : g_H) (hF : f7_be g a0 x1 x2 = some (rr, gz)) : Met l yX7_be wsX7_be ({ frames := 0, cells := 0, slots := 0, locals := 0 } : Room) (va_Pc [.ref a0, .int x1, .int x2] (gC base D g)) (gQi base D rr gz) 0 0 (gA base) := by
  refine g_met (cc := cX7_be) (maxL := 3) (ret := (some .int)) (lst := [(0, .ref a0), (1, .int x1), (2, .int x2)]) (by decide) rfl (Nat.le_of_ble_eq_true rfl) rfl ?_
  intro p e s m args below meth c ls hx hb hr hml hown hlocks hname hts hE hP hl
  have hown : s.vm.findClass RX7 = some m.cls := hown
  have hK := hE.1
  have hov := hE.2.2.2.2.2.2.2.1
  have hbz := hE.2.2.2.2.2.2.2.2.2.2.2.2
  have hS : va_S (gA base) s.heap s.heap [] := va_S.rf
  have hiX7 : ∀ w ∈ wsX70, w ∈ wsX7_be := by decide +kernel
  unfold f7_be at hF
  refine lv_aload_n hx hb dX7_be_0 rfl (lv_at hl 0 rfl) ?_
  obtain ⟨h1, hF⟩ := g_if hF
  obtain ⟨q2, hq3, hF⟩ := g_bind hF
  refine g_get hx hb hts hiX7 hown hK hP 7 rfl (by decide) h1 7 (by decide) (hts (.fieldLink RX7 20 "CourierBeesModel" "swarm" "[I") (by decide +kernel)) (fun _ h9 => h9) ((gFv_r (by decide)).trans (congrArg va_rf hq3)) dX7_be_1 ?_
  refine lv_bipush (v := 8) hx hb dX7_be_4 (by decide) ?_
  refine lv_iload_n hx hb dX7_be_6 rfl (lv_at hl 1 rfl) ?_
  refine lv_imul hx hb dX7_be_7 ?_
  refine lv_iload_n hx hb dX7_be_8 rfl (lv_at hl 2 rfl) ?_
  refine lv_iadd hx hb dX7_be_9 ?_
  obtain ⟨h4, hF⟩ := g_if hF
  obtain ⟨h5, hF⟩ := g_if hF
  refine g_iald hx hb hP (g_pr h4) h5 dX7_be_10 ?_
  exact g_retI hx hb hr hlocks hF hP hS (Nat.le_of_ble_eq_true rfl) (Nat.le_of_ble_eq_true rfl) dX7_be_11
set_option maxHeartbeats 4000000 in
set_option maxRecDepth 100000 in
theorem k7_setBe (l : Launch) (D : va_G) (base : Nat) (g : g_H) (a0 : Nat) (x1 : Int32) (x2 : Int32) (x3 : Int32) (gz : g_H) (hF : f7_setBe g a0 x1 x2 x3 = some gz) : Met l yX7_setBe wsX7_setBe ({ frames := 0, cells := 0, slots := 0, locals := 0 } : Room) (va_Pc [.ref a0, .int x1, .int x2, .int x3] (gC base D g)) (gQv base D gz) 0 0 (gA base) := by
  refine g_met (cc := cX7_setBe) (maxL := 4) (ret := none) (lst := [(0, .ref a0), (1, .int x1), (2, .int x2), (3, .int x3)]) (by decide) rfl (Nat.le_of_ble_eq_true rfl) rfl ?_
  intro p e s m args below meth c ls hx hb hr hml hown hlocks hname hts hE hP hl
  have hown : s.vm.findClass RX7 = some m.cls := hown
  have hK := hE.1
  have hov := hE.2.2.2.2.2.2.2.1
  have hbz := hE.2.2.2.2.2.2.2.2.2.2.2.2
  have hS : va_S (gA base) s.heap s.heap [] := va_S.rf
  have hiX7 : ∀ w ∈ wsX70, w ∈ wsX7_setBe := by decide +kernel
  unfold f7_setBe at hF
  refine lv_aload_n hx hb dX7_setBe_0 rfl (lv_at hl 0 rfl) ?_
  obtain ⟨h1, hF⟩ := g_if hF
  obtain ⟨q2, hq3, hF⟩ := g_bind hF
  refine g_get hx hb hts hiX7 hown hK hP 7 rfl (by decide) h1 7 (by decide) (hts (.fieldLink RX7 20 "CourierBeesModel" "swarm" "[I") (by decide +kernel)) (fun _ h9 => h9) ((gFv_r (by decide)).trans (congrArg va_rf hq3)) dX7_setBe_1 ?_
  refine lv_bipush (v := 8) hx hb dX7_setBe_4 (by decide) ?_
  refine lv_iload_n hx hb dX7_setBe_6 rfl (lv_at hl 1 rfl) ?_
  refine lv_imul hx hb dX7_setBe_7 ?_
  refine lv_iload_n hx hb dX7_setBe_8 rfl (lv_at hl 2 rfl) ?_
  refine lv_iadd hx hb dX7_setBe_9 ?_
  refine lv_iload_n hx hb dX7_setBe_10 rfl (lv_at hl 3 rfl) ?_
  obtain ⟨h4, hF⟩ := g_if hF
  obtain ⟨h5, hF⟩ := g_if hF
  refine g_iast hx hb hP hS (g_pr h4) h5 dX7_setBe_11 (fun H locs hP hS => ?_)
  exact g_retV hx hb hr hlocks hF hP hS (Nat.le_of_ble_eq_true rfl) (Nat.le_of_ble_eq_true rfl) dX7_setBe_12
set_option maxHeartbeats 4000000 in
set_option maxRecDepth 100000 in
theorem k7_le (l : Launch) (D : va_G) (base : Nat) (g : g_H) (a0 : Nat) (x1 : Int32) (x2 : Int32) (rr : Int32) (gz : g_H) (hF : f7_le g a0 x1 x2 = some (rr, gz)) : Met l yX7_le wsX7_le ({ frames := 0, cells := 0, slots := 0, locals := 0 } : Room) (va_Pc [.ref a0, .int x1, .int x2] (gC base D g)) (gQi base D rr gz) 0 0 (gA base) := by
  refine g_met (cc := cX7_le) (maxL := 3) (ret := (some .int)) (lst := [(0, .ref a0), (1, .int x1), (2, .int x2)]) (by decide) rfl (Nat.le_of_ble_eq_true rfl) rfl ?_
  intro p e s m args below meth c ls hx hb hr hml hown hlocks hname hts hE hP hl
  have hown : s.vm.findClass RX7 = some m.cls := hown
  have hK := hE.1
  have hov := hE.2.2.2.2.2.2.2.1
  have hbz := hE.2.2.2.2.2.2.2.2.2.2.2.2
  have hS : va_S (gA base) s.heap s.heap [] := va_S.rf
  have hiX7 : ∀ w ∈ wsX70, w ∈ wsX7_le := by decide +kernel
  unfold f7_le at hF
  refine lv_aload_n hx hb dX7_le_0 rfl (lv_at hl 0 rfl) ?_
  obtain ⟨h1, hF⟩ := g_if hF
  obtain ⟨q2, hq3, hF⟩ := g_bind hF
  refine g_get hx hb hts hiX7 hown hK hP 7 rfl (by decide) h1 10 (by decide) (hts (.fieldLink RX7 26 "CourierBeesModel" "post" "[I") (by decide +kernel)) (fun _ h9 => h9) ((gFv_r (by decide)).trans (congrArg va_rf hq3)) dX7_le_1 ?_
  refine lv_iconst (v := 5) hx hb dX7_le_4 (by decide) ?_
  refine lv_iload_n hx hb dX7_le_5 rfl (lv_at hl 1 rfl) ?_
  refine lv_imul hx hb dX7_le_6 ?_
  refine lv_iload_n hx hb dX7_le_7 rfl (lv_at hl 2 rfl) ?_
  refine lv_iadd hx hb dX7_le_8 ?_
  obtain ⟨h4, hF⟩ := g_if hF
  obtain ⟨h5, hF⟩ := g_if hF
  refine g_iald hx hb hP (g_pr h4) h5 dX7_le_9 ?_
  exact g_retI hx hb hr hlocks hF hP hS (Nat.le_of_ble_eq_true rfl) (Nat.le_of_ble_eq_true rfl) dX7_le_10
set_option maxHeartbeats 4000000 in
set_option maxRecDepth 100000 in
theorem k7_setLe (l : Launch) (D : va_G) (base : Nat) (g : g_H) (a0 : Nat) (x1 : Int32) (x2 : Int32) (x3 : Int32) (gz : g_H) (hF : f7_setLe g a0 x1 x2 x3 = some gz) : Met l yX7_setLe wsX7_setLe ({ frames := 0, cells := 0, slots := 0, locals := 0 } : Room) (va_Pc [.ref a0, .int x1, .int x2, .int x3] (gC base D g)) (gQv base D gz) 0 0 (gA base) := by
  refine g_met (cc := cX7_setLe) (maxL := 4) (ret := none) (lst := [(0, .ref a0), (1, .int x1), (2, .int x2), (3, .int x3)]) (by decide) rfl (Nat.le_of_ble_eq_true rfl) rfl ?_
  intro p e s m args below meth c ls hx hb hr hml hown hlocks hname hts hE hP hl
  have hown : s.vm.findClass RX7 = some m.cls := hown
  have hK := hE.1
  have hov := hE.2.2.2.2.2.2.2.1
  have hbz := hE.2.2.2.2.2.2.2.2.2.2.2.2
  have hS : va_S (gA base) s.heap s.heap [] := va_S.rf
  have hiX7 : ∀ w ∈ wsX70, w ∈ wsX7_setLe := by decide +kernel
  unfold f7_setLe at hF
  refine lv_aload_n hx hb dX7_setLe_0 rfl (lv_at hl 0 rfl) ?_
  obtain ⟨h1, hF⟩ := g_if hF
  obtain ⟨q2, hq3, hF⟩ := g_bind hF
  refine g_get hx hb hts hiX7 hown hK hP 7 rfl (by decide) h1 10 (by decide) (hts (.fieldLink RX7 26 "CourierBeesModel" "post" "[I") (by decide +kernel)) (fun _ h9 => h9) ((gFv_r (by decide)).trans (congrArg va_rf hq3)) dX7_setLe_1 ?_
  refine lv_iconst (v := 5) hx hb dX7_setLe_4 (by decide) ?_
  refine lv_iload_n hx hb dX7_setLe_5 rfl (lv_at hl 1 rfl) ?_
  refine lv_imul hx hb dX7_setLe_6 ?_
  refine lv_iload_n hx hb dX7_setLe_7 rfl (lv_at hl 2 rfl) ?_
  refine lv_iadd hx hb dX7_setLe_8 ?_
  refine lv_iload_n hx hb dX7_setLe_9 rfl (lv_at hl 3 rfl) ?_
  obtain ⟨h4, hF⟩ := g_if hF
  obtain ⟨h5, hF⟩ := g_if hF
  refine g_iast hx hb hP hS (g_pr h4) h5 dX7_setLe_10 (fun H locs hP hS => ?_)
  exact g_retV hx hb hr hlocks hF hP hS (Nat.le_of_ble_eq_true rfl) (Nat.le_of_ble_eq_true rfl) dX7_setLe_11
set_option maxHeartbeats 4000000 in
set_option maxRecDepth 100000 in
theorem k7_reckon (l : Launch) (D : va_G) (base : Nat) (g : g_H) (a0 : Nat) (gz : g_H) (hF : f7_reckon g a0 = some gz) : Met l yX7_reckon wsX7_reckon ({ frames := 1, cells := 0, slots := 0, locals := 24 } : Room) (va_Pc [.ref a0] (gC base D g)) (gQv base D gz) 0 0 (gA base) := by
  refine g_met (cc := cX7_reckon) (maxL := 4) (ret := none) (lst := [(0, .ref a0)]) (by decide) rfl (Nat.le_of_ble_eq_true rfl) rfl ?_
  intro p e s m args below meth c ls hx hb hr hml hown hlocks hname hts hE hP hl
  have hown : s.vm.findClass RX7 = some m.cls := hown
  have hK := hE.1
  have hov := hE.2.2.2.2.2.2.2.1
  have hbz := hE.2.2.2.2.2.2.2.2.2.2.2.2
  have hS : va_S (gA base) s.heap s.heap [] := va_S.rf
  have hiX7 : ∀ w ∈ wsX70, w ∈ wsX7_reckon := by decide +kernel
  have HL148 : ∀ (n148 : Nat), ∀ (g : g_H) (a0 : Nat) (x1 : Int32) (H : Heap) (locs : List Loc) (ls : Array Slot), f7_reckon_148 n148 g a0 x1 = some gz → gP base D s g H → va_S (gA base) s.heap H locs → lv_has ls 4 [(0, .ref a0), (1, .int x1)] → W p l e ({ frames := 1, cells := 0, slots := 0, locals := 24 } : Room) s m args below meth c H locs 0 0 (MQ below (gQv base D gz) args s 0 0 (gA base)) (F0 m 148 ls []) := by
    intro n148
    induction n148 with
    | zero => intro g a0 x1 H locs ls hF hP hS hl; exact g_no hF
    | succ n148 ih148 =>
      have HL158 : ∀ (n158 : Nat), ∀ (g : g_H) (a0 : Nat) (x1 : Int32) (x2 : Int32) (H : Heap) (locs : List Loc) (ls : Array Slot), f7_reckon_158 (f7_reckon_148 n148) n158 g a0 x1 x2 = some gz → gP base D s g H → va_S (gA base) s.heap H locs → lv_has ls 4 [(0, .ref a0), (1, .int x1), (2, .int x2)] → W p l e ({ frames := 1, cells := 0, slots := 0, locals := 24 } : Room) s m args below meth c H locs 0 0 (MQ below (gQv base D gz) args s 0 0 (gA base)) (F0 m 158 ls []) := by
        intro n158
        induction n158 with
        | zero => intro g a0 x1 x2 H locs ls hF hP hS hl; exact g_no hF
        | succ n158 ih158 =>
          have HL168 : ∀ (n168 : Nat), ∀ (g : g_H) (a0 : Nat) (x1 : Int32) (x2 : Int32) (x3 : Int32) (H : Heap) (locs : List Loc) (ls : Array Slot), f7_reckon_168 (f7_reckon_148 n148) (f7_reckon_158 (f7_reckon_148 n148) n158) n168 g a0 x1 x2 x3 = some gz → gP base D s g H → va_S (gA base) s.heap H locs → lv_has ls 4 [(0, .ref a0), (1, .int x1), (2, .int x2), (3, .int x3)] → W p l e ({ frames := 1, cells := 0, slots := 0, locals := 24 } : Room) s m args below meth c H locs 0 0 (MQ below (gQv base D gz) args s 0 0 (gA base)) (F0 m 168 ls []) := by
            intro n168
            induction n168 with
            | zero => intro g a0 x1 x2 x3 H locs ls hF hP hS hl; exact g_no hF
            | succ n168 ih168 =>
              intro g a0 x1 x2 x3 H locs ls hF hP hS hl
              have hF : f7_reckon_168b (f7_reckon_148 n148) (f7_reckon_158 (f7_reckon_148 n148) n158) (f7_reckon_168 (f7_reckon_148 n148) (f7_reckon_158 (f7_reckon_148 n148) n158) n168) g a0 x1 x2 x3 = some gz := hF
              unfold f7_reckon_168b at hF
              refine lv_iload_n hx hb dX7_reckon_168 rfl (lv_at hl 3 rfl) ?_
              refine lv_aload_n hx hb dX7_reckon_169 rfl (lv_at hl 0 rfl) ?_
              obtain ⟨h9, hF⟩ := g_if hF
              refine g_get hx hb hts hiX7 hown hK hP 7 rfl (by decide) h9 1 (by decide) (hts (.fieldLink RX7 39 "CourierBeesModel" "houses" "I") (by decide +kernel)) (fun _ h9 => h9) (gFv_i (Or.inl rfl)) dX7_reckon_170 ?_
              refine lv_icmp_ge (tgt := 230) hx hb dX7_reckon_173 (by decide) (fun c10 => ?_) (fun c10 => ?_)
              · have hF := g_t c10 hF
                refine lv_iinc (v := x2 + (1 : Int32)) (lv' := [(2, .int (x2 + (1 : Int32))), (0, .ref a0), (1, .int x1), (3, .int x3)]) hx hb dX7_reckon_230 hl (k := 2) rfl rfl (by decide) rfl (fun ls hl => ?_)
                refine lv_goto (tgt := 158) hx hb dX7_reckon_233 (by decide) ?_
                exact ih158 _ _ _ _ _ _ _ hF hP hS (lv_sub hl [1, 2, 0] rfl)
              · have hF := g_f c10 hF
                refine lv_aload_n hx hb dX7_reckon_176 rfl (lv_at hl 0 rfl) ?_
                obtain ⟨q11, hq12, hF⟩ := g_bind hF
                refine g_get hx hb hts hiX7 hown hK hP 7 rfl (by decide) h9 5 (by decide) (hts (.fieldLink RX7 17 "CourierBeesModel" "ways" "[I") (by decide +kernel)) (fun _ h9 => h9) ((gFv_r (by decide)).trans (congrArg va_rf hq12)) dX7_reckon_177 ?_
                refine lv_bipush (v := 14) hx hb dX7_reckon_180 (by decide) ?_
                refine lv_iload_n hx hb dX7_reckon_182 rfl (lv_at hl 2 rfl) ?_
                refine lv_imul hx hb dX7_reckon_183 ?_
                refine lv_iload_n hx hb dX7_reckon_184 rfl (lv_at hl 3 rfl) ?_
                refine lv_iadd hx hb dX7_reckon_185 ?_
                refine lv_aload_n hx hb dX7_reckon_186 rfl (lv_at hl 0 rfl) ?_
                obtain ⟨q13, hq14, hF⟩ := g_bind hF
                refine g_get hx hb hts hiX7 hown hK hP 7 rfl (by decide) h9 5 (by decide) (hts (.fieldLink RX7 17 "CourierBeesModel" "ways" "[I") (by decide +kernel)) (fun _ h9 => h9) ((gFv_r (by decide)).trans (congrArg va_rf hq14)) dX7_reckon_187 ?_
                refine lv_bipush (v := 14) hx hb dX7_reckon_190 (by decide) ?_
                refine lv_iload_n hx hb dX7_reckon_192 rfl (lv_at hl 2 rfl) ?_
                refine lv_imul hx hb dX7_reckon_193 ?_
                refine lv_iload_n hx hb dX7_reckon_194 rfl (lv_at hl 3 rfl) ?_
                refine lv_iadd hx hb dX7_reckon_195 ?_
                obtain ⟨h15, hF⟩ := g_if hF
                obtain ⟨h16, hF⟩ := g_if hF
                refine g_iald hx hb hP (g_pr h15) h16 dX7_reckon_196 ?_
                refine lv_aload_n hx hb dX7_reckon_197 rfl (lv_at hl 0 rfl) ?_
                obtain ⟨q17, hq18, hF⟩ := g_bind hF
                refine g_get hx hb hts hiX7 hown hK hP 7 rfl (by decide) h9 5 (by decide) (hts (.fieldLink RX7 17 "CourierBeesModel" "ways" "[I") (by decide +kernel)) (fun _ h9 => h9) ((gFv_r (by decide)).trans (congrArg va_rf hq18)) dX7_reckon_198 ?_
                refine lv_bipush (v := 14) hx hb dX7_reckon_201 (by decide) ?_
                refine lv_iload_n hx hb dX7_reckon_203 rfl (lv_at hl 2 rfl) ?_
                refine lv_imul hx hb dX7_reckon_204 ?_
                refine lv_iload_n hx hb dX7_reckon_205 rfl (lv_at hl 1 rfl) ?_
                refine lv_iadd hx hb dX7_reckon_206 ?_
                obtain ⟨h19, hF⟩ := g_if hF
                obtain ⟨h20, hF⟩ := g_if hF
                refine g_iald hx hb hP (g_pr h19) h20 dX7_reckon_207 ?_
                refine lv_aload_n hx hb dX7_reckon_208 rfl (lv_at hl 0 rfl) ?_
                obtain ⟨q21, hq22, hF⟩ := g_bind hF
                refine g_get hx hb hts hiX7 hown hK hP 7 rfl (by decide) h9 5 (by decide) (hts (.fieldLink RX7 17 "CourierBeesModel" "ways" "[I") (by decide +kernel)) (fun _ h9 => h9) ((gFv_r (by decide)).trans (congrArg va_rf hq22)) dX7_reckon_209 ?_
                refine lv_bipush (v := 14) hx hb dX7_reckon_212 (by decide) ?_
                refine lv_iload_n hx hb dX7_reckon_214 rfl (lv_at hl 1 rfl) ?_
                refine lv_imul hx hb dX7_reckon_215 ?_
                refine lv_iload_n hx hb dX7_reckon_216 rfl (lv_at hl 3 rfl) ?_
                refine lv_iadd hx hb dX7_reckon_217 ?_
                obtain ⟨h23, hF⟩ := g_if hF
                obtain ⟨h24, hF⟩ := g_if hF
                refine g_iald hx hb hP (g_pr h23) h24 dX7_reckon_218 ?_
                refine lv_iadd hx hb dX7_reckon_219 ?_
                refine va_mmin hx hb (hml.trans hl.1.symm) hown (hts (.methodLink RX7 70 Lib.Math.min.name) (by decide +kernel)) (hts (.static Lib.Math.min.name) (by decide +kernel)) (hts (.initialized "java/lang/Math") (by decide +kernel)) (hts (.code Lib.Math.min.name Lib.Math.min.code 2 (some .int)) (by decide +kernel)) (Nat.le_of_ble_eq_true rfl) (Nat.le_of_ble_eq_true rfl) (Nat.le_of_ble_eq_true rfl) (Nat.le_of_ble_eq_true rfl) dX7_reckon_220 ?_
                obtain ⟨y25, e26, hF⟩ := g_let hF
                rw [e26]
                obtain ⟨h27, hF⟩ := g_if hF
                obtain ⟨h28, hF⟩ := g_if hF
                refine g_iast hx hb hP hS (g_pr h27) h28 dX7_reckon_223 (fun H locs hP hS => ?_)
                refine lv_iinc (v := x3 + (1 : Int32)) (lv' := [(3, .int (x3 + (1 : Int32))), (0, .ref a0), (1, .int x1), (2, .int x2)]) hx hb dX7_reckon_224 hl (k := 3) rfl rfl (by decide) rfl (fun ls hl => ?_)
                refine lv_goto (tgt := 168) hx hb dX7_reckon_227 (by decide) ?_
                exact ih168 _ _ _ _ _ _ _ _ hF hP hS (lv_sub hl [1, 2, 3, 0] rfl)
          intro g a0 x1 x2 H locs ls hF hP hS hl
          have hF : f7_reckon_158b (f7_reckon_148 n148) (f7_reckon_158 (f7_reckon_148 n148) n158) g a0 x1 x2 = some gz := hF
          unfold f7_reckon_158b at hF
          refine lv_iload_n hx hb dX7_reckon_158 rfl (lv_at hl 2 rfl) ?_
          refine lv_aload_n hx hb dX7_reckon_159 rfl (lv_at hl 0 rfl) ?_
          obtain ⟨h7, hF⟩ := g_if hF
          refine g_get hx hb hts hiX7 hown hK hP 7 rfl (by decide) h7 1 (by decide) (hts (.fieldLink RX7 39 "CourierBeesModel" "houses" "I") (by decide +kernel)) (fun _ h9 => h9) (gFv_i (Or.inl rfl)) dX7_reckon_160 ?_
          refine lv_icmp_ge (tgt := 236) hx hb dX7_reckon_163 (by decide) (fun c8 => ?_) (fun c8 => ?_)
          · have hF := g_t c8 hF
            refine lv_iinc (v := x1 + (1 : Int32)) (lv' := [(1, .int (x1 + (1 : Int32))), (0, .ref a0), (2, .int x2)]) hx hb dX7_reckon_236 hl (k := 1) rfl rfl (by decide) rfl (fun ls hl => ?_)
            refine lv_goto (tgt := 148) hx hb dX7_reckon_239 (by decide) ?_
            exact ih148 _ _ _ _ _ _ hF hP hS (lv_sub hl [1, 0] rfl)
          · have hF := g_f c8 hF
            refine lv_iconst (v := 0) hx hb dX7_reckon_166 (by decide) ?_
            refine lv_istore_n (lv' := [(3, .int ((0 : Int32))), (0, .ref a0), (1, .int x1), (2, .int x2)]) hx hb dX7_reckon_167 rfl hl (by decide) rfl (fun ls hl => ?_)
            exact HL168 300 _ _ _ _ _ _ _ _ hF hP hS (lv_sub hl [1, 2, 3, 0] rfl)
      intro g a0 x1 H locs ls hF hP hS hl
      have hF : f7_reckon_148b (f7_reckon_148 n148) g a0 x1 = some gz := hF
      unfold f7_reckon_148b at hF
      refine lv_iload_n hx hb dX7_reckon_148 rfl (lv_at hl 1 rfl) ?_
      refine lv_aload_n hx hb dX7_reckon_149 rfl (lv_at hl 0 rfl) ?_
      obtain ⟨h5, hF⟩ := g_if hF
      refine g_get hx hb hts hiX7 hown hK hP 7 rfl (by decide) h5 1 (by decide) (hts (.fieldLink RX7 39 "CourierBeesModel" "houses" "I") (by decide +kernel)) (fun _ h9 => h9) (gFv_i (Or.inl rfl)) dX7_reckon_150 ?_
      refine lv_icmp_ge (tgt := 242) hx hb dX7_reckon_153 (by decide) (fun c6 => ?_) (fun c6 => ?_)
      · have hF := g_t c6 hF
        exact g_retV hx hb hr hlocks hF hP hS (Nat.le_of_ble_eq_true rfl) (Nat.le_of_ble_eq_true rfl) dX7_reckon_242
      · have hF := g_f c6 hF
        refine lv_iconst (v := 0) hx hb dX7_reckon_156 (by decide) ?_
        refine lv_istore_n (lv' := [(2, .int ((0 : Int32))), (0, .ref a0), (1, .int x1)]) hx hb dX7_reckon_157 rfl hl (by decide) rfl (fun ls hl => ?_)
        exact HL158 300 _ _ _ _ _ _ _ hF hP hS (lv_sub hl [1, 2, 0] rfl)
  have HL57 : ∀ (n57 : Nat), ∀ (g : g_H) (a0 : Nat) (x1 : Int32) (H : Heap) (locs : List Loc) (ls : Array Slot), f7_reckon_57 n57 g a0 x1 = some gz → gP base D s g H → va_S (gA base) s.heap H locs → lv_has ls 4 [(0, .ref a0), (1, .int x1)] → W p l e ({ frames := 1, cells := 0, slots := 0, locals := 24 } : Room) s m args below meth c H locs 0 0 (MQ below (gQv base D gz) args s 0 0 (gA base)) (F0 m 57 ls []) := by
    intro n57
    induction n57 with
    | zero => intro g a0 x1 H locs ls hF hP hS hl; exact g_no hF
    | succ n57 ih57 =>
      intro g a0 x1 H locs ls hF hP hS hl
      have hF : f7_reckon_57b (f7_reckon_57 n57) g a0 x1 = some gz := hF
      unfold f7_reckon_57b at hF
      refine lv_iload_n hx hb dX7_reckon_57 rfl (lv_at hl 1 rfl) ?_
      refine lv_aload_n hx hb dX7_reckon_58 rfl (lv_at hl 0 rfl) ?_
      obtain ⟨h3, hF⟩ := g_if hF
      refine g_get hx hb hts hiX7 hown hK hP 7 rfl (by decide) h3 3 (by decide) (hts (.fieldLink RX7 46 "CourierBeesModel" "lanes" "I") (by decide +kernel)) (fun _ h9 => h9) (gFv_i (Or.inl rfl)) dX7_reckon_59 ?_
      refine lv_icmp_ge (tgt := 146) hx hb dX7_reckon_62 (by decide) (fun c4 => ?_) (fun c4 => ?_)
      · have hF := g_t c4 hF
        refine lv_iconst (v := 0) hx hb dX7_reckon_146 (by decide) ?_
        refine lv_istore_n (lv' := [(1, .int ((0 : Int32))), (0, .ref a0)]) hx hb dX7_reckon_147 rfl hl (by decide) rfl (fun ls hl => ?_)
        exact HL148 300 _ _ _ _ _ _ hF hP hS (lv_sub hl [1, 0] rfl)
      · have hF := g_f c4 hF
        refine lv_aload_n hx hb dX7_reckon_65 rfl (lv_at hl 0 rfl) ?_
        refine lv_iload_n hx hb dX7_reckon_66 rfl (lv_at hl 1 rfl) ?_
        refine lv_iconst (v := 2) hx hb dX7_reckon_67 (by decide) ?_
        obtain ⟨v31, g30, h29, hF⟩ := g_bind2 hF
        refine g_calli (va_runV (As := [.int x1, .int ((2 : Int32))]) (rest := []) ⟨hx, hb, hml, hown, hts⟩ (k7_ro l D base g a0 x1 ((2 : Int32)) v31 g30 h29) (cwV 2 hts gX7_reckon_X7_ro rfl rfl rfl (by decide +kernel) ⟨Nat.le_of_ble_eq_true rfl, Nat.le_of_ble_eq_true rfl⟩) (gC.preV hE hP hS 7 rfl (by decide) h3 [.int x1, .int ((2 : Int32))]) rfl rfl hl.1 rfl (lv_room (Nat.le_of_ble_eq_true rfl)) dX7_reckon_68 ⟨(Nat.le_of_ble_eq_true rfl), (Nat.le_of_ble_eq_true rfl)⟩) hS (fun H locs hP hS => ?_)
        refine lv_aload_n hx hb dX7_reckon_71 rfl (lv_at hl 0 rfl) ?_
        obtain ⟨h32, hF⟩ := g_if hF
        obtain ⟨q33, hq34, hF⟩ := g_bind hF
        refine g_get hx hb hts hiX7 hown hK hP 7 rfl (by decide) h32 5 (by decide) (hts (.fieldLink RX7 17 "CourierBeesModel" "ways" "[I") (by decide +kernel)) (fun _ h9 => h9) ((gFv_r (by decide)).trans (congrArg va_rf hq34)) dX7_reckon_72 ?_
        refine lv_bipush (v := 14) hx hb dX7_reckon_75 (by decide) ?_
        refine lv_aload_n hx hb dX7_reckon_77 rfl (lv_at hl 0 rfl) ?_
        refine lv_iload_n hx hb dX7_reckon_78 rfl (lv_at hl 1 rfl) ?_
        refine lv_iconst (v := 0) hx hb dX7_reckon_79 (by decide) ?_
        obtain ⟨v37, g36, h35, hF⟩ := g_bind2 hF
        refine g_calli (va_runV (As := [.int x1, .int ((0 : Int32))]) (rest := [.int ((14 : Int32)), .ref q33, .int v31]) ⟨hx, hb, hml, hown, hts⟩ (k7_ro l D base g30 a0 x1 ((0 : Int32)) v37 g36 h35) (cwV 2 hts gX7_reckon_X7_ro rfl rfl rfl (by decide +kernel) ⟨Nat.le_of_ble_eq_true rfl, Nat.le_of_ble_eq_true rfl⟩) (gC.preV hE hP hS 7 rfl (by decide) h32 [.int x1, .int ((0 : Int32))]) rfl rfl hl.1 rfl (lv_room (Nat.le_of_ble_eq_true rfl)) dX7_reckon_80 ⟨(Nat.le_of_ble_eq_true rfl), (Nat.le_of_ble_eq_true rfl)⟩) hS (fun H locs hP hS => ?_)
        refine lv_imul hx hb dX7_reckon_83 ?_
        refine lv_aload_n hx hb dX7_reckon_84 rfl (lv_at hl 0 rfl) ?_
        refine lv_iload_n hx hb dX7_reckon_85 rfl (lv_at hl 1 rfl) ?_
        refine lv_iconst (v := 1) hx hb dX7_reckon_86 (by decide) ?_
        obtain ⟨h39, hF⟩ := g_if hF
        obtain ⟨v41, g40, h38, hF⟩ := g_bind2 hF
        refine g_calli (va_runV (As := [.int x1, .int ((1 : Int32))]) (rest := [.int (((14 : Int32)) * v37), .ref q33, .int v31]) ⟨hx, hb, hml, hown, hts⟩ (k7_ro l D base g36 a0 x1 ((1 : Int32)) v41 g40 h38) (cwV 2 hts gX7_reckon_X7_ro rfl rfl rfl (by decide +kernel) ⟨Nat.le_of_ble_eq_true rfl, Nat.le_of_ble_eq_true rfl⟩) (gC.preV hE hP hS 7 rfl (by decide) h39 [.int x1, .int ((1 : Int32))]) rfl rfl hl.1 rfl (lv_room (Nat.le_of_ble_eq_true rfl)) dX7_reckon_87 ⟨(Nat.le_of_ble_eq_true rfl), (Nat.le_of_ble_eq_true rfl)⟩) hS (fun H locs hP hS => ?_)
        refine lv_iadd hx hb dX7_reckon_90 ?_
        obtain ⟨h42, hF⟩ := g_if hF
        obtain ⟨h43, hF⟩ := g_if hF
        refine g_iald hx hb hP (g_pr h42) h43 dX7_reckon_91 ?_
        refine va_mmin hx hb (hml.trans hl.1.symm) hown (hts (.methodLink RX7 70 Lib.Math.min.name) (by decide +kernel)) (hts (.static Lib.Math.min.name) (by decide +kernel)) (hts (.initialized "java/lang/Math") (by decide +kernel)) (hts (.code Lib.Math.min.name Lib.Math.min.code 2 (some .int)) (by decide +kernel)) (Nat.le_of_ble_eq_true rfl) (Nat.le_of_ble_eq_true rfl) (Nat.le_of_ble_eq_true rfl) (Nat.le_of_ble_eq_true rfl) dX7_reckon_92 ?_
        refine lv_istore_n (lv' := [(2, .int (if (gI g40 q33 (Int32.toNatClampNeg ((((14 : Int32)) * v37) + v41))) < v31 then (gI g40 q33 (Int32.toNatClampNeg ((((14 : Int32)) * v37) + v41))) else v31)), (0, .ref a0), (1, .int x1)]) hx hb dX7_reckon_95 rfl hl (by decide) rfl (fun ls hl => ?_)
        refine lv_aload_n hx hb dX7_reckon_96 rfl (lv_at hl 1 rfl) ?_
        obtain ⟨h44, hF⟩ := g_if hF
        obtain ⟨q45, hq46, hF⟩ := g_bind hF
        refine g_get hx hb hts hiX7 hown hK hP 7 rfl (by decide) h44 5 (by decide) (hts (.fieldLink RX7 17 "CourierBeesModel" "ways" "[I") (by decide +kernel)) (fun _ h9 => h9) ((gFv_r (by decide)).trans (congrArg va_rf hq46)) dX7_reckon_97 ?_
        refine lv_bipush (v := 14) hx hb dX7_reckon_100 (by decide) ?_
        refine lv_aload_n hx hb dX7_reckon_102 rfl (lv_at hl 1 rfl) ?_
        refine lv_iload_n hx hb dX7_reckon_103 rfl (lv_at hl 2 rfl) ?_
        refine lv_iconst (v := 0) hx hb dX7_reckon_104 (by decide) ?_
        obtain ⟨v49, g48, h47, hF⟩ := g_bind2 hF
        refine g_calli (va_runV (As := [.int x1, .int ((0 : Int32))]) (rest := [.int ((14 : Int32)), .ref q45]) ⟨hx, hb, hml, hown, hts⟩ (k7_ro l D base g40 a0 x1 ((0 : Int32)) v49 g48 h47) (cwV 2 hts gX7_reckon_X7_ro rfl rfl rfl (by decide +kernel) ⟨Nat.le_of_ble_eq_true rfl, Nat.le_of_ble_eq_true rfl⟩) (gC.preV hE hP hS 7 rfl (by decide) h44 [.int x1, .int ((0 : Int32))]) rfl rfl hl.1 rfl (lv_room (Nat.le_of_ble_eq_true rfl)) dX7_reckon_105 ⟨(Nat.le_of_ble_eq_true rfl), (Nat.le_of_ble_eq_true rfl)⟩) hS (fun H locs hP hS => ?_)
        refine lv_imul hx hb dX7_reckon_108 ?_
        refine lv_aload_n hx hb dX7_reckon_109 rfl (lv_at hl 1 rfl) ?_
        refine lv_iload_n hx hb dX7_reckon_110 rfl (lv_at hl 2 rfl) ?_
        refine lv_iconst (v := 1) hx hb dX7_reckon_111 (by decide) ?_
        obtain ⟨h51, hF⟩ := g_if hF
        obtain ⟨v53, g52, h50, hF⟩ := g_bind2 hF
        refine g_calli (va_runV (As := [.int x1, .int ((1 : Int32))]) (rest := [.int (((14 : Int32)) * v49), .ref q45]) ⟨hx, hb, hml, hown, hts⟩ (k7_ro l D base g48 a0 x1 ((1 : Int32)) v53 g52 h50) (cwV 2 hts gX7_reckon_X7_ro rfl rfl rfl (by decide +kernel) ⟨Nat.le_of_ble_eq_true rfl, Nat.le_of_ble_eq_true rfl⟩) (gC.preV hE hP hS 7 rfl (by decide) h51 [.int x1, .int ((1 : Int32))]) rfl rfl hl.1 rfl (lv_room (Nat.le_of_ble_eq_true rfl)) dX7_reckon_112 ⟨(Nat.le_of_ble_eq_true rfl), (Nat.le_of_ble_eq_true rfl)⟩) hS (fun H locs hP hS => ?_)
        refine lv_iadd hx hb dX7_reckon_115 ?_
        refine lv_iload_n hx hb dX7_reckon_116 rfl (lv_at hl 0 rfl) ?_
        obtain ⟨y54, e55, hF⟩ := g_let hF
        rw [e55]
        obtain ⟨h56, hF⟩ := g_if hF
        obtain ⟨h57, hF⟩ := g_if hF
        refine g_iast hx hb hP hS (g_pr h56) h57 dX7_reckon_117 (fun H locs hP hS => ?_)
        refine lv_aload_n hx hb dX7_reckon_118 rfl (lv_at hl 1 rfl) ?_
        obtain ⟨h58, hF⟩ := g_if hF
        obtain ⟨q59, hq60, hF⟩ := g_bind hF
        refine g_get hx hb hts hiX7 hown hK hP 7 rfl (by decide) h58 5 (by decide) (hts (.fieldLink RX7 17 "CourierBeesModel" "ways" "[I") (by decide +kernel)) (fun _ h9 => h9) ((gFv_r (by decide)).trans (congrArg va_rf hq60)) dX7_reckon_119 ?_
        refine lv_bipush (v := 14) hx hb dX7_reckon_122 (by decide) ?_
        refine lv_aload_n hx hb dX7_reckon_124 rfl (lv_at hl 1 rfl) ?_
        refine lv_iload_n hx hb dX7_reckon_125 rfl (lv_at hl 2 rfl) ?_
        refine lv_iconst (v := 1) hx hb dX7_reckon_126 (by decide) ?_
        obtain ⟨v63, g62, h61, hF⟩ := g_bind2 hF
        refine g_calli (va_runV (As := [.int x1, .int ((1 : Int32))]) (rest := [.int ((14 : Int32)), .ref q59]) ⟨hx, hb, hml, hown, hts⟩ (k7_ro l D base (gPI g52 q45 (Int32.toNatClampNeg ((((14 : Int32)) * v49) + v53)) y54) a0 x1 ((1 : Int32)) v63 g62 h61) (cwV 2 hts gX7_reckon_X7_ro rfl rfl rfl (by decide +kernel) ⟨Nat.le_of_ble_eq_true rfl, Nat.le_of_ble_eq_true rfl⟩) (gC.preV hE hP hS 7 rfl (by decide) h58 [.int x1, .int ((1 : Int32))]) rfl rfl hl.1 rfl (lv_room (Nat.le_of_ble_eq_true rfl)) dX7_reckon_127 ⟨(Nat.le_of_ble_eq_true rfl), (Nat.le_of_ble_eq_true rfl)⟩) hS (fun H locs hP hS => ?_)
        refine lv_imul hx hb dX7_reckon_130 ?_
        refine lv_aload_n hx hb dX7_reckon_131 rfl (lv_at hl 1 rfl) ?_
        refine lv_iload_n hx hb dX7_reckon_132 rfl (lv_at hl 2 rfl) ?_
        refine lv_iconst (v := 0) hx hb dX7_reckon_133 (by decide) ?_
        obtain ⟨h65, hF⟩ := g_if hF
        obtain ⟨v67, g66, h64, hF⟩ := g_bind2 hF
        refine g_calli (va_runV (As := [.int x1, .int ((0 : Int32))]) (rest := [.int (((14 : Int32)) * v63), .ref q59]) ⟨hx, hb, hml, hown, hts⟩ (k7_ro l D base g62 a0 x1 ((0 : Int32)) v67 g66 h64) (cwV 2 hts gX7_reckon_X7_ro rfl rfl rfl (by decide +kernel) ⟨Nat.le_of_ble_eq_true rfl, Nat.le_of_ble_eq_true rfl⟩) (gC.preV hE hP hS 7 rfl (by decide) h65 [.int x1, .int ((0 : Int32))]) rfl rfl hl.1 rfl (lv_room (Nat.le_of_ble_eq_true rfl)) dX7_reckon_134 ⟨(Nat.le_of_ble_eq_true rfl), (Nat.le_of_ble_eq_true rfl)⟩) hS (fun H locs hP hS => ?_)
        refine lv_iadd hx hb dX7_reckon_137 ?_
        refine lv_iload_n hx hb dX7_reckon_138 rfl (lv_at hl 0 rfl) ?_
        obtain ⟨y68, e69, hF⟩ := g_let hF
        rw [e69]
        obtain ⟨h70, hF⟩ := g_if hF
        obtain ⟨h71, hF⟩ := g_if hF
        refine g_iast hx hb hP hS (g_pr h70) h71 dX7_reckon_139 (fun H locs hP hS => ?_)
        refine lv_iinc (v := x1 + (1 : Int32)) (lv' := [(1, .int (x1 + (1 : Int32))), (2, .int (if (gI g40 q33 (Int32.toNatClampNeg ((((14 : Int32)) * v37) + v41))) < v31 then (gI g40 q33 (Int32.toNatClampNeg ((((14 : Int32)) * v37) + v41))) else v31)), (0, .ref a0)]) hx hb dX7_reckon_140 hl (k := 2) rfl rfl (by decide) rfl (fun ls hl => ?_)
        refine lv_goto (tgt := 57) hx hb dX7_reckon_143 (by decide) ?_
        exact ih57 _ _ _ _ _ _ hF hP hS (lv_sub hl [2, 0] rfl)
  have HL2 : ∀ (n2 : Nat), ∀ (g : g_H) (a0 : Nat) (x1 : Int32) (H : Heap) (locs : List Loc) (ls : Array Slot), f7_reckon_2 n2 g a0 x1 = some gz → gP base D s g H → va_S (gA base) s.heap H locs → lv_has ls 4 [(0, .ref a0), (1, .int x1)] → W p l e ({ frames := 1, cells := 0, slots := 0, locals := 24 } : Room) s m args below meth c H locs 0 0 (MQ below (gQv base D gz) args s 0 0 (gA base)) (F0 m 2 ls []) := by
    intro n2
    induction n2 with
    | zero => intro g a0 x1 H locs ls hF hP hS hl; exact g_no hF
    | succ n2 ih2 =>
      have HL12 : ∀ (n12 : Nat), ∀ (g : g_H) (a0 : Nat) (x1 : Int32) (x2 : Int32) (H : Heap) (locs : List Loc) (ls : Array Slot), f7_reckon_12 (f7_reckon_2 n2) n12 g a0 x1 x2 = some gz → gP base D s g H → va_S (gA base) s.heap H locs → lv_has ls 4 [(0, .ref a0), (1, .int x1), (2, .int x2)] → W p l e ({ frames := 1, cells := 0, slots := 0, locals := 24 } : Room) s m args below meth c H locs 0 0 (MQ below (gQv base D gz) args s 0 0 (gA base)) (F0 m 12 ls []) := by
        intro n12
        induction n12 with
        | zero => intro g a0 x1 x2 H locs ls hF hP hS hl; exact g_no hF
        | succ n12 ih12 =>
          have HB42 : ∀ (g : g_H) (a0 : Nat) (x1 : Int32) (x2 : Int32) (s0 : Nat) (s1 : Int32) (s2 : Int32) (H : Heap) (locs : List Loc) (ls : Array Slot), f7_reckon_42 (f7_reckon_2 n2) (f7_reckon_12 (f7_reckon_2 n2) n12) g a0 x1 x2 s0 s1 s2 = some gz → gP base D s g H → va_S (gA base) s.heap H locs → lv_has ls 4 [(0, .ref a0), (1, .int x1), (2, .int x2)] → W p l e ({ frames := 1, cells := 0, slots := 0, locals := 24 } : Room) s m args below meth c H locs 0 0 (MQ below (gQv base D gz) args s 0 0 (gA base)) (F0 m 42 ls [.int s2, .int s1, .ref s0]) := by
            intro g a0 x1 x2 s0 s1 s2 H locs ls hF hP hS hl
            unfold f7_reckon_42 at hF
            obtain ⟨h77, hF⟩ := g_if hF
            obtain ⟨h78, hF⟩ := g_if hF
            refine g_iast hx hb hP hS (g_pr h77) h78 dX7_reckon_42 (fun H locs hP hS => ?_)
            refine lv_iinc (v := x2 + (1 : Int32)) (lv' := [(2, .int (x2 + (1 : Int32))), (0, .ref a0), (1, .int x1)]) hx hb dX7_reckon_43 hl (k := 2) rfl rfl (by decide) rfl (fun ls hl => ?_)
            refine lv_goto (tgt := 12) hx hb dX7_reckon_46 (by decide) ?_
            exact ih12 _ _ _ _ _ _ _ hF hP hS (lv_sub hl [1, 2, 0] rfl)
          intro g a0 x1 x2 H locs ls hF hP hS hl
          have hF : f7_reckon_12b (f7_reckon_2 n2) (f7_reckon_12 (f7_reckon_2 n2) n12) g a0 x1 x2 = some gz := hF
          unfold f7_reckon_12b at hF
          refine lv_iload_n hx hb dX7_reckon_12 rfl (lv_at hl 2 rfl) ?_
          refine lv_aload_n hx hb dX7_reckon_13 rfl (lv_at hl 0 rfl) ?_
          obtain ⟨h72, hF⟩ := g_if hF
          refine g_get hx hb hts hiX7 hown hK hP 7 rfl (by decide) h72 1 (by decide) (hts (.fieldLink RX7 39 "CourierBeesModel" "houses" "I") (by decide +kernel)) (fun _ h9 => h9) (gFv_i (Or.inl rfl)) dX7_reckon_14 ?_
          refine lv_icmp_ge (tgt := 49) hx hb dX7_reckon_17 (by decide) (fun c73 => ?_) (fun c73 => ?_)
          · have hF := g_t c73 hF
            refine lv_iinc (v := x1 + (1 : Int32)) (lv' := [(1, .int (x1 + (1 : Int32))), (0, .ref a0), (2, .int x2)]) hx hb dX7_reckon_49 hl (k := 1) rfl rfl (by decide) rfl (fun ls hl => ?_)
            refine lv_goto (tgt := 2) hx hb dX7_reckon_52 (by decide) ?_
            exact ih2 _ _ _ _ _ _ hF hP hS (lv_sub hl [1, 0] rfl)
          · have hF := g_f c73 hF
            refine lv_aload_n hx hb dX7_reckon_20 rfl (lv_at hl 0 rfl) ?_
            obtain ⟨q74, hq75, hF⟩ := g_bind hF
            refine g_get hx hb hts hiX7 hown hK hP 7 rfl (by decide) h72 5 (by decide) (hts (.fieldLink RX7 17 "CourierBeesModel" "ways" "[I") (by decide +kernel)) (fun _ h9 => h9) ((gFv_r (by decide)).trans (congrArg va_rf hq75)) dX7_reckon_21 ?_
            refine lv_bipush (v := 14) hx hb dX7_reckon_24 (by decide) ?_
            refine lv_iload_n hx hb dX7_reckon_26 rfl (lv_at hl 1 rfl) ?_
            refine lv_imul hx hb dX7_reckon_27 ?_
            refine lv_iload_n hx hb dX7_reckon_28 rfl (lv_at hl 2 rfl) ?_
            refine lv_iadd hx hb dX7_reckon_29 ?_
            refine lv_iload_n hx hb dX7_reckon_30 rfl (lv_at hl 1 rfl) ?_
            refine lv_iload_n hx hb dX7_reckon_31 rfl (lv_at hl 2 rfl) ?_
            refine lv_icmp_ne (tgt := 39) hx hb dX7_reckon_32 (by decide) (fun c76 => ?_) (fun c76 => ?_)
            · have hF := g_f c76 hF
              refine lv_sipush (v := 9999) hx hb dX7_reckon_39 (by decide) ?_
              exact HB42 _ _ _ _ _ _ _ _ _ _ hF hP hS (lv_sub hl [0, 1, 2] rfl)
            · have hF := g_t c76 hF
              refine lv_iconst (v := 0) hx hb dX7_reckon_35 (by decide) ?_
              refine lv_goto (tgt := 42) hx hb dX7_reckon_36 (by decide) ?_
              exact HB42 _ _ _ _ _ _ _ _ _ _ hF hP hS (lv_sub hl [0, 1, 2] rfl)
      intro g a0 x1 H locs ls hF hP hS hl
      have hF : f7_reckon_2b (f7_reckon_2 n2) g a0 x1 = some gz := hF
      unfold f7_reckon_2b at hF
      refine lv_iload_n hx hb dX7_reckon_2 rfl (lv_at hl 1 rfl) ?_
      refine lv_aload_n hx hb dX7_reckon_3 rfl (lv_at hl 0 rfl) ?_
      obtain ⟨h1, hF⟩ := g_if hF
      refine g_get hx hb hts hiX7 hown hK hP 7 rfl (by decide) h1 1 (by decide) (hts (.fieldLink RX7 39 "CourierBeesModel" "houses" "I") (by decide +kernel)) (fun _ h9 => h9) (gFv_i (Or.inl rfl)) dX7_reckon_4 ?_
      refine lv_icmp_ge (tgt := 55) hx hb dX7_reckon_7 (by decide) (fun c2 => ?_) (fun c2 => ?_)
      · have hF := g_t c2 hF
        refine lv_iconst (v := 0) hx hb dX7_reckon_55 (by decide) ?_
        refine lv_istore_n (lv' := [(1, .int ((0 : Int32))), (0, .ref a0)]) hx hb dX7_reckon_56 rfl hl (by decide) rfl (fun ls hl => ?_)
        exact HL57 300 _ _ _ _ _ _ hF hP hS (lv_sub hl [1, 0] rfl)
      · have hF := g_f c2 hF
        refine lv_iconst (v := 0) hx hb dX7_reckon_10 (by decide) ?_
        refine lv_istore_n (lv' := [(2, .int ((0 : Int32))), (0, .ref a0), (1, .int x1)]) hx hb dX7_reckon_11 rfl hl (by decide) rfl (fun ls hl => ?_)
        exact HL12 300 _ _ _ _ _ _ _ hF hP hS (lv_sub hl [1, 2, 0] rfl)
  unfold f7_reckon at hF
  refine lv_iconst (v := 0) hx hb dX7_reckon_0 (by decide) ?_
  refine lv_istore_n (lv' := [(1, .int ((0 : Int32))), (0, .ref a0)]) hx hb dX7_reckon_1 rfl hl (by decide) rfl (fun ls hl => ?_)
  exact HL2 300 _ _ _ _ _ _ hF hP hS (lv_sub hl [1, 0] rfl)
set_option maxHeartbeats 4000000 in
set_option maxRecDepth 100000 in
theorem k7_addHouse (l : Launch) (D : va_G) (base : Nat) (g : g_H) (a0 : Nat) (rr : Int32) (gz : g_H) (hF : f7_addHouse g a0 = some (rr, gz)) : Met l yX7_addHouse wsX7_addHouse ({ frames := 2, cells := 0, slots := 0, locals := 47 } : Room) (va_Pc [.ref a0] (gC base D g)) (gQi base D rr gz) 0 0 (gA base) := by
  refine g_met (cc := cX7_addHouse) (maxL := 1) (ret := (some .int)) (lst := [(0, .ref a0)]) (by decide) rfl (Nat.le_of_ble_eq_true rfl) rfl ?_
  intro p e s m args below meth c ls hx hb hr hml hown hlocks hname hts hE hP hl
  have hown : s.vm.findClass RX7 = some m.cls := hown
  have hK := hE.1
  have hov := hE.2.2.2.2.2.2.2.1
  have hbz := hE.2.2.2.2.2.2.2.2.2.2.2.2
  have hS : va_S (gA base) s.heap s.heap [] := va_S.rf
  have hiX7 : ∀ w ∈ wsX70, w ∈ wsX7_addHouse := by decide +kernel
  unfold f7_addHouse at hF
  refine lv_aload_n hx hb dX7_addHouse_0 rfl (lv_at hl 0 rfl) ?_
  refine lv_iconst (v := 0) hx hb dX7_addHouse_1 (by decide) ?_
  obtain ⟨h1, hF⟩ := g_if hF
  refine g_puti hx hb hts hiX7 tyX7 tyX7_ok nmX7 hown hK hP hS 7 rfl (by decide) h1 0 (by decide) (hts (.fieldLink RX7 35 "CourierBeesModel" "thrown" "I") (by decide +kernel)) (fun _ h9 => h9) (Or.inl rfl) (Or.inl rfl) rfl rfl dX7_addHouse_2 (fun H locs hP hS => ?_)
  refine lv_aload_n hx hb dX7_addHouse_5 rfl (lv_at hl 0 rfl) ?_
  refine g_get hx hb hts hiX7 hown hK hP 7 rfl (by decide) h1 1 (by decide) (hts (.fieldLink RX7 39 "CourierBeesModel" "houses" "I") (by decide +kernel)) (fun _ h9 => h9) (gFv_i (Or.inl rfl)) dX7_addHouse_6 ?_
  refine lv_bipush (v := 14) hx hb dX7_addHouse_9 (by decide) ?_
  refine lv_icmp_ne (tgt := 20) hx hb dX7_addHouse_11 (by decide) (fun c2 => ?_) (fun c2 => ?_)
  · have hF := g_f c2 hF
    refine lv_aload_n hx hb dX7_addHouse_20 rfl (lv_at hl 0 rfl) ?_
    refine lv_dup hx hb dX7_addHouse_21 rfl ?_
    refine g_get hx hb hts hiX7 hown hK hP 7 rfl (by decide) h1 1 (by decide) (hts (.fieldLink RX7 39 "CourierBeesModel" "houses" "I") (by decide +kernel)) (fun _ h9 => h9) (gFv_i (Or.inl rfl)) dX7_addHouse_22 ?_
    refine lv_iconst (v := 1) hx hb dX7_addHouse_25 (by decide) ?_
    refine lv_iadd hx hb dX7_addHouse_26 ?_
    obtain ⟨y3, e4, hF⟩ := g_let hF
    rw [e4]
    refine g_puti hx hb hts hiX7 tyX7 tyX7_ok nmX7 hown hK hP hS 7 rfl (by decide) h1 1 (by decide) (hts (.fieldLink RX7 39 "CourierBeesModel" "houses" "I") (by decide +kernel)) (fun _ h9 => h9) (Or.inl rfl) (Or.inl rfl) rfl rfl dX7_addHouse_27 (fun H locs hP hS => ?_)
    refine lv_aload_n hx hb dX7_addHouse_30 rfl (lv_at hl 0 rfl) ?_
    obtain ⟨g6, h5, hF⟩ := g_bind hF
    refine g_callv (va_runV (As := []) (rest := []) ⟨hx, hb, hml, hown, hts⟩ (k7_reckon l D base (gPI (gPI g a0 0 ((0 : Int32))) a0 1 y3) a0 g6 h5) (cwV 0 hts gX7_addHouse_X7_reckon rfl rfl rfl (by decide +kernel) ⟨Nat.le_of_ble_eq_true rfl, Nat.le_of_ble_eq_true rfl⟩) (gC.preV hE hP hS 7 rfl (by decide) h1 []) rfl rfl hl.1 rfl (lv_room (Nat.le_of_ble_eq_true rfl)) dX7_addHouse_31 ⟨(Nat.le_of_ble_eq_true rfl), (Nat.le_of_ble_eq_true rfl)⟩) hS (fun H locs hP hS => ?_)
    refine lv_aload_n hx hb dX7_addHouse_34 rfl (lv_at hl 0 rfl) ?_
    obtain ⟨h8, hF⟩ := g_if hF
    refine g_get hx hb hts hiX7 hown hK hP 7 rfl (by decide) h8 1 (by decide) (hts (.fieldLink RX7 39 "CourierBeesModel" "houses" "I") (by decide +kernel)) (fun _ h9 => h9) (gFv_i (Or.inl rfl)) dX7_addHouse_35 ?_
    refine lv_iconst (v := 1) hx hb dX7_addHouse_38 (by decide) ?_
    refine lv_isub hx hb dX7_addHouse_39 ?_
    exact g_retI hx hb hr hlocks hF hP hS (Nat.le_of_ble_eq_true rfl) (Nat.le_of_ble_eq_true rfl) dX7_addHouse_40
  · have hF := g_t c2 hF
    refine lv_aload_n hx hb dX7_addHouse_14 rfl (lv_at hl 0 rfl) ?_
    refine lv_iconst (v := 1) hx hb dX7_addHouse_15 (by decide) ?_
    obtain ⟨v11, g10, h9, hF⟩ := g_bind2 hF
    refine g_calli (va_runV (As := [.int ((1 : Int32))]) (rest := []) ⟨hx, hb, hml, hown, hts⟩ (k7_fail l D base (gPI g a0 0 ((0 : Int32))) a0 ((1 : Int32)) v11 g10 h9) (cwV 1 hts gX7_addHouse_X7_fail rfl rfl rfl (by decide +kernel) ⟨Nat.le_of_ble_eq_true rfl, Nat.le_of_ble_eq_true rfl⟩) (gC.preV hE hP hS 7 rfl (by decide) h1 [.int ((1 : Int32))]) rfl rfl hl.1 rfl (lv_room (Nat.le_of_ble_eq_true rfl)) dX7_addHouse_16 ⟨(Nat.le_of_ble_eq_true rfl), (Nat.le_of_ble_eq_true rfl)⟩) hS (fun H locs hP hS => ?_)
    exact g_retI hx hb hr hlocks hF hP hS (Nat.le_of_ble_eq_true rfl) (Nat.le_of_ble_eq_true rfl) dX7_addHouse_19
set_option maxHeartbeats 4000000 in
set_option maxRecDepth 100000 in
theorem k7_setHive (l : Launch) (D : va_G) (base : Nat) (g : g_H) (a0 : Nat) (x1 : Int32) (x2 : Int32) (rr : Int32) (gz : g_H) (hF : f7_setHive g a0 x1 x2 = some (rr, gz)) : Met l yX7_setHive wsX7_setHive ({ frames := 2, cells := 0, slots := 0, locals := 43 } : Room) (va_Pc [.ref a0, .int x1, .int x2] (gC base D g)) (gQi base D rr gz) 0 0 (gA base) := by
  refine g_met (cc := cX7_setHive) (maxL := 4) (ret := (some .boolean)) (lst := [(0, .ref a0), (1, .int x1), (2, .int x2)]) (by decide) rfl (Nat.le_of_ble_eq_true rfl) rfl ?_
  intro p e s m args below meth c ls hx hb hr hml hown hlocks hname hts hE hP hl
  have hown : s.vm.findClass RX7 = some m.cls := hown
  have hK := hE.1
  have hov := hE.2.2.2.2.2.2.2.1
  have hbz := hE.2.2.2.2.2.2.2.2.2.2.2.2
  have hS : va_S (gA base) s.heap s.heap [] := va_S.rf
  have hiX7 : ∀ w ∈ wsX70, w ∈ wsX7_setHive := by decide +kernel
  have HB14 : ∀ (g : g_H) (a0 : Nat) (x1 : Int32) (x2 : Int32) (s0 : Nat) (s1 : Int32) (H : Heap) (locs : List Loc) (ls : Array Slot), f7_setHive_14 g a0 x1 x2 s0 s1 = some (rr, gz) → gP base D s g H → va_S (gA base) s.heap H locs → lv_has ls 4 [(0, .ref a0), (1, .int x1), (2, .int x2)] → W p l e ({ frames := 2, cells := 0, slots := 0, locals := 43 } : Room) s m args below meth c H locs 0 0 (MQ below (gQi base D rr gz) args s 0 0 (gA base)) (F0 m 14 ls [.int s1, .ref s0]) := by
    intro g a0 x1 x2 s0 s1 H locs ls hF hP hS hl
    unfold f7_setHive_14 at hF
    obtain ⟨h6, hF⟩ := g_if hF
    refine g_puti hx hb hts hiX7 tyX7 tyX7_ok nmX7 hown hK hP hS 7 rfl (by decide) h6 0 (by decide) (hts (.fieldLink RX7 35 "CourierBeesModel" "thrown" "I") (by decide +kernel)) (fun _ h9 => h9) (Or.inl rfl) (Or.inl rfl) rfl rfl dX7_setHive_14 (fun H locs hP hS => ?_)
    refine lv_aload_n hx hb dX7_setHive_17 rfl (lv_at hl 0 rfl) ?_
    obtain ⟨h7, hF⟩ := g_if hF
    refine g_get hx hb hts hiX7 hown hK hP 7 rfl (by decide) h7 0 (by decide) (hts (.fieldLink RX7 35 "CourierBeesModel" "thrown" "I") (by decide +kernel)) (fun _ h9 => h9) (gFv_i (Or.inl rfl)) dX7_setHive_18 ?_
    refine lv_if_eq (tgt := 26) hx hb dX7_setHive_21 (by decide) (fun c8 => ?_) (fun c8 => ?_)
    · have hF := g_t c8 hF
      refine lv_aload_n hx hb dX7_setHive_26 rfl (lv_at hl 0 rfl) ?_
      obtain ⟨q9, hq10, hF⟩ := g_bind hF
      refine g_get hx hb hts hiX7 hown hK hP 7 rfl (by decide) h7 2 (by decide) (hts (.fieldLink RX7 9 "CourierBeesModel" "hives" "[Z") (by decide +kernel)) (fun _ h9 => h9) ((gFv_r (by decide)).trans (congrArg va_rf hq10)) dX7_setHive_27 ?_
      refine lv_iload_n hx hb dX7_setHive_30 rfl (lv_at hl 1 rfl) ?_
      obtain ⟨h11, hF⟩ := g_if hF
      obtain ⟨h12, hF⟩ := g_if hF
      refine g_zald hx hb hP (g_pr h11) h12 dX7_setHive_31 ?_
      refine lv_istore_n (lv' := [(3, .int (gI (gPI g s0 0 s1) q9 (Int32.toNatClampNeg x1))), (0, .ref a0), (1, .int x1), (2, .int x2)]) hx hb dX7_setHive_32 rfl hl (by decide) rfl (fun ls hl => ?_)
      refine lv_aload_n hx hb dX7_setHive_33 rfl (lv_at hl 1 rfl) ?_
      obtain ⟨q13, hq14, hF⟩ := g_bind hF
      refine g_get hx hb hts hiX7 hown hK hP 7 rfl (by decide) h7 2 (by decide) (hts (.fieldLink RX7 9 "CourierBeesModel" "hives" "[Z") (by decide +kernel)) (fun _ h9 => h9) ((gFv_r (by decide)).trans (congrArg va_rf hq14)) dX7_setHive_34 ?_
      refine lv_iload_n hx hb dX7_setHive_37 rfl (lv_at hl 2 rfl) ?_
      refine lv_iload_n hx hb dX7_setHive_38 rfl (lv_at hl 3 rfl) ?_
      obtain ⟨h15, hF⟩ := g_if hF
      obtain ⟨h16, hF⟩ := g_if hF
      obtain ⟨h17, hF⟩ := g_if hF
      refine g_zast hx hb hP hS (g_pr h15) h16 h17 dX7_setHive_39 (fun H locs hP hS => ?_)
      refine lv_iload_n hx hb dX7_setHive_40 rfl (lv_at hl 0 rfl) ?_
      obtain ⟨h18, hF⟩ := g_if hF
      exact g_retZ hx hb hr h18 hlocks hF hP hS (Nat.le_of_ble_eq_true rfl) (Nat.le_of_ble_eq_true rfl) dX7_setHive_41
    · have hF := g_f c8 hF
      refine lv_iconst (v := 0) hx hb dX7_setHive_24 (by decide) ?_
      exact g_retZ hx hb hr (Or.inl rfl) hlocks hF hP hS (Nat.le_of_ble_eq_true rfl) (Nat.le_of_ble_eq_true rfl) dX7_setHive_25
  unfold f7_setHive at hF
  refine lv_aload_n hx hb dX7_setHive_0 rfl (lv_at hl 0 rfl) ?_
  refine lv_aload_n hx hb dX7_setHive_1 rfl (lv_at hl 0 rfl) ?_
  refine lv_iload_n hx hb dX7_setHive_2 rfl (lv_at hl 1 rfl) ?_
  obtain ⟨h2, hF⟩ := g_if hF
  obtain ⟨v4, g3, h1, hF⟩ := g_bind2 hF
  refine g_calli (va_runV (As := [.int x1]) (rest := [.ref a0]) ⟨hx, hb, hml, hown, hts⟩ (k7_isHouse l D base g a0 x1 v4 g3 h1) (cwV 1 hts gX7_setHive_X7_isHouse rfl rfl rfl (by decide +kernel) ⟨Nat.le_of_ble_eq_true rfl, Nat.le_of_ble_eq_true rfl⟩) (gC.preV hE hP hS 7 rfl (by decide) h2 [.int x1]) rfl rfl hl.1 rfl (lv_room (Nat.le_of_ble_eq_true rfl)) dX7_setHive_3 ⟨(Nat.le_of_ble_eq_true rfl), (Nat.le_of_ble_eq_true rfl)⟩) hS (fun H locs hP hS => ?_)
  refine lv_if_eq (tgt := 13) hx hb dX7_setHive_6 (by decide) (fun c5 => ?_) (fun c5 => ?_)
  · have hF := g_t c5 hF
    refine lv_iconst (v := 1) hx hb dX7_setHive_13 (by decide) ?_
    exact HB14 _ _ _ _ _ _ _ _ _ hF hP hS (lv_sub hl [0, 1, 2] rfl)
  · have hF := g_f c5 hF
    refine lv_iconst (v := 0) hx hb dX7_setHive_9 (by decide) ?_
    refine lv_goto (tgt := 14) hx hb dX7_setHive_10 (by decide) ?_
    exact HB14 _ _ _ _ _ _ _ _ _ hF hP hS (lv_sub hl [0, 1, 2] rfl)
set_option maxHeartbeats 4000000 in
set_option maxRecDepth 100000 in
theorem k7_addLane (l : Launch) (D : va_G) (base : Nat) (g : g_H) (a0 : Nat) (x1 : Int32) (x2 : Int32) (x3 : Int32) (rr : Int32) (gz : g_H) (hF : f7_addLane g a0 x1 x2 x3 = some (rr, gz)) : Met l yX7_addLane wsX7_addLane ({ frames := 2, cells := 1, slots := 5, locals := 47 } : Room) (va_Pc [.ref a0, .int x1, .int x2, .int x3] (gC base D g)) (gQi base D rr gz) 1 5 (gA base) := by
  refine g_met (cc := cX7_addLane) (maxL := 5) (ret := (some .int)) (lst := [(0, .ref a0), (1, .int x1), (2, .int x2), (3, .int x3)]) (by decide) rfl (Nat.le_of_ble_eq_true rfl) rfl ?_
  intro p e s m args below meth c ls hx hb hr hml hown hlocks hname hts hE hP hl
  have hown : s.vm.findClass RX7 = some m.cls := hown
  have hK := hE.1
  have hov := hE.2.2.2.2.2.2.2.1
  have hbz := hE.2.2.2.2.2.2.2.2.2.2.2.2
  have hS : va_S (gA base) s.heap s.heap [] := va_S.rf
  have hiX7 : ∀ w ∈ wsX70, w ∈ wsX7_addLane := by decide +kernel
  have HB21 : ∀ (g : g_H) (a0 : Nat) (H : Heap) (locs : List Loc) (ls : Array Slot), f7_addLane_21 g a0 = some (rr, gz) → gP base D s g H → va_S (gA base) s.heap H locs → lv_has ls 5 [(0, .ref a0)] → W p l e ({ frames := 2, cells := 1, slots := 5, locals := 47 } : Room) s m args below meth c H locs 0 0 (MQ below (gQi base D rr gz) args s 1 5 (gA base)) (F0 m 21 ls []) := by
    intro g a0 H locs ls hF hP hS hl
    unfold f7_addLane_21 at hF
    refine lv_aload_n hx hb dX7_addLane_21 rfl (lv_at hl 0 rfl) ?_
    refine lv_iconst (v := 1) hx hb dX7_addLane_22 (by decide) ?_
    obtain ⟨h7, hF⟩ := g_if hF
    obtain ⟨v9, g8, h6, hF⟩ := g_bind2 hF
    refine g_calli (va_runV (As := [.int ((1 : Int32))]) (rest := []) ⟨hx, hb, hml, hown, hts⟩ (k7_fail l D base g a0 ((1 : Int32)) v9 g8 h6) (cwV 1 hts gX7_addLane_X7_fail rfl rfl rfl (by decide +kernel) ⟨Nat.le_of_ble_eq_true rfl, Nat.le_of_ble_eq_true rfl⟩) (gC.preV hE hP hS 7 rfl (by decide) h7 [.int ((1 : Int32))]) rfl rfl hl.1 rfl (lv_room (Nat.le_of_ble_eq_true rfl)) dX7_addLane_23 ⟨(Nat.le_of_ble_eq_true rfl), (Nat.le_of_ble_eq_true rfl)⟩) hS (fun H locs hP hS => ?_)
    exact g_retI hx hb hr hlocks hF hP hS (Nat.le_of_ble_eq_true rfl) (Nat.le_of_ble_eq_true rfl) dX7_addLane_26
  have HB42 : ∀ (g : g_H) (a0 : Nat) (H : Heap) (locs : List Loc) (ls : Array Slot), f7_addLane_42 g a0 = some (rr, gz) → gP base D s g H → va_S (gA base) s.heap H locs → lv_has ls 5 [(0, .ref a0)] → W p l e ({ frames := 2, cells := 1, slots := 5, locals := 47 } : Room) s m args below meth c H locs 0 0 (MQ below (gQi base D rr gz) args s 1 5 (gA base)) (F0 m 42 ls []) := by
    intro g a0 H locs ls hF hP hS hl
    unfold f7_addLane_42 at hF
    refine lv_aload_n hx hb dX7_addLane_42 rfl (lv_at hl 0 rfl) ?_
    refine lv_iconst (v := 2) hx hb dX7_addLane_43 (by decide) ?_
    obtain ⟨h17, hF⟩ := g_if hF
    obtain ⟨v19, g18, h16, hF⟩ := g_bind2 hF
    refine g_calli (va_runV (As := [.int ((2 : Int32))]) (rest := []) ⟨hx, hb, hml, hown, hts⟩ (k7_fail l D base g a0 ((2 : Int32)) v19 g18 h16) (cwV 1 hts gX7_addLane_X7_fail rfl rfl rfl (by decide +kernel) ⟨Nat.le_of_ble_eq_true rfl, Nat.le_of_ble_eq_true rfl⟩) (gC.preV hE hP hS 7 rfl (by decide) h17 [.int ((2 : Int32))]) rfl rfl hl.1 rfl (lv_room (Nat.le_of_ble_eq_true rfl)) dX7_addLane_44 ⟨(Nat.le_of_ble_eq_true rfl), (Nat.le_of_ble_eq_true rfl)⟩) hS (fun H locs hP hS => ?_)
    exact g_retI hx hb hr hlocks hF hP hS (Nat.le_of_ble_eq_true rfl) (Nat.le_of_ble_eq_true rfl) dX7_addLane_47
  have HB64 : ∀ (g : g_H) (a0 : Nat) (H : Heap) (locs : List Loc) (ls : Array Slot), f7_addLane_64 g a0 = some (rr, gz) → gP base D s g H → va_S (gA base) s.heap H locs → lv_has ls 5 [(0, .ref a0)] → W p l e ({ frames := 2, cells := 1, slots := 5, locals := 47 } : Room) s m args below meth c H locs 0 0 (MQ below (gQi base D rr gz) args s 1 5 (gA base)) (F0 m 64 ls []) := by
    intro g a0 H locs ls hF hP hS hl
    unfold f7_addLane_64 at hF
    refine lv_aload_n hx hb dX7_addLane_64 rfl (lv_at hl 0 rfl) ?_
    refine lv_iconst (v := 3) hx hb dX7_addLane_65 (by decide) ?_
    obtain ⟨h27, hF⟩ := g_if hF
    obtain ⟨v29, g28, h26, hF⟩ := g_bind2 hF
    refine g_calli (va_runV (As := [.int ((3 : Int32))]) (rest := []) ⟨hx, hb, hml, hown, hts⟩ (k7_fail l D base g a0 ((3 : Int32)) v29 g28 h26) (cwV 1 hts gX7_addLane_X7_fail rfl rfl rfl (by decide +kernel) ⟨Nat.le_of_ble_eq_true rfl, Nat.le_of_ble_eq_true rfl⟩) (gC.preV hE hP hS 7 rfl (by decide) h27 [.int ((3 : Int32))]) rfl rfl hl.1 rfl (lv_room (Nat.le_of_ble_eq_true rfl)) dX7_addLane_66 ⟨(Nat.le_of_ble_eq_true rfl), (Nat.le_of_ble_eq_true rfl)⟩) hS (fun H locs hP hS => ?_)
    exact g_retI hx hb hr hlocks hF hP hS (Nat.le_of_ble_eq_true rfl) (Nat.le_of_ble_eq_true rfl) dX7_addLane_69
  unfold f7_addLane at hF
  refine lv_aload_n hx hb dX7_addLane_0 rfl (lv_at hl 0 rfl) ?_
  refine lv_iconst (v := 0) hx hb dX7_addLane_1 (by decide) ?_
  obtain ⟨h1, hF⟩ := g_if hF
  refine g_puti hx hb hts hiX7 tyX7 tyX7_ok nmX7 hown hK hP hS 7 rfl (by decide) h1 0 (by decide) (hts (.fieldLink RX7 35 "CourierBeesModel" "thrown" "I") (by decide +kernel)) (fun _ h9 => h9) (Or.inl rfl) (Or.inl rfl) rfl rfl dX7_addLane_2 (fun H locs hP hS => ?_)
  refine lv_aload_n hx hb dX7_addLane_5 rfl (lv_at hl 0 rfl) ?_
  refine lv_iload_n hx hb dX7_addLane_6 rfl (lv_at hl 1 rfl) ?_
  obtain ⟨v4, g3, h2, hF⟩ := g_bind2 hF
  refine g_calli (va_runV (As := [.int x1]) (rest := []) ⟨hx, hb, hml, hown, hts⟩ (k7_isHouse l D base (gPI g a0 0 ((0 : Int32))) a0 x1 v4 g3 h2) (cwV 1 hts gX7_addLane_X7_isHouse rfl rfl rfl (by decide +kernel) ⟨Nat.le_of_ble_eq_true rfl, Nat.le_of_ble_eq_true rfl⟩) (gC.preV hE hP hS 7 rfl (by decide) h1 [.int x1]) rfl rfl hl.1 rfl (lv_room (Nat.le_of_ble_eq_true rfl)) dX7_addLane_7 ⟨(Nat.le_of_ble_eq_true rfl), (Nat.le_of_ble_eq_true rfl)⟩) hS (fun H locs hP hS => ?_)
  refine lv_if_eq (tgt := 21) hx hb dX7_addLane_10 (by decide) (fun c5 => ?_) (fun c5 => ?_)
  · have hF := g_t c5 hF
    exact HB21 _ _ _ _ _ hF hP hS (lv_sub hl [0] rfl)
  · have hF := g_f c5 hF
    refine lv_aload_n hx hb dX7_addLane_13 rfl (lv_at hl 0 rfl) ?_
    refine lv_iload_n hx hb dX7_addLane_14 rfl (lv_at hl 2 rfl) ?_
    obtain ⟨h11, hF⟩ := g_if hF
    obtain ⟨v13, g12, h10, hF⟩ := g_bind2 hF
    refine g_calli (va_runV (As := [.int x2]) (rest := []) ⟨hx, hb, hml, hown, hts⟩ (k7_isHouse l D base g3 a0 x2 v13 g12 h10) (cwV 1 hts gX7_addLane_X7_isHouse rfl rfl rfl (by decide +kernel) ⟨Nat.le_of_ble_eq_true rfl, Nat.le_of_ble_eq_true rfl⟩) (gC.preV hE hP hS 7 rfl (by decide) h11 [.int x2]) rfl rfl hl.1 rfl (lv_room (Nat.le_of_ble_eq_true rfl)) dX7_addLane_15 ⟨(Nat.le_of_ble_eq_true rfl), (Nat.le_of_ble_eq_true rfl)⟩) hS (fun H locs hP hS => ?_)
    refine lv_if_ne (tgt := 27) hx hb dX7_addLane_18 (by decide) (fun c14 => ?_) (fun c14 => ?_)
    · have hF := g_f c14 hF
      refine lv_iload_n hx hb dX7_addLane_27 rfl (lv_at hl 1 rfl) ?_
      refine lv_iload_n hx hb dX7_addLane_28 rfl (lv_at hl 2 rfl) ?_
      refine lv_icmp_eq (tgt := 42) hx hb dX7_addLane_29 (by decide) (fun c15 => ?_) (fun c15 => ?_)
      · have hF := g_t c15 hF
        exact HB42 _ _ _ _ _ hF hP hS (lv_sub hl [0] rfl)
      · have hF := g_f c15 hF
        refine lv_iload_n hx hb dX7_addLane_32 rfl (lv_at hl 3 rfl) ?_
        refine lv_iconst (v := 1) hx hb dX7_addLane_33 (by decide) ?_
        refine lv_bipush (v := 6) hx hb dX7_addLane_34 (by decide) ?_
        obtain ⟨v22, g21, h20, hF⟩ := g_bind2 hF
        refine g_calli (va_runS (As := [.int x3, .int ((1 : Int32)), .int ((6 : Int32))]) (rest := []) ⟨hx, hb, hml, hown, hts⟩ (k7_isIn l D base g12 x3 ((1 : Int32)) ((6 : Int32)) v22 g21 h20) (va_cwS 3 hts gX7_addLane_X7_isIn rfl rfl rfl (by decide +kernel) ⟨Nat.le_of_ble_eq_true rfl, Nat.le_of_ble_eq_true rfl⟩) (gC.preS hE hP hS [.int x3, .int ((1 : Int32)), .int ((6 : Int32))]) rfl rfl hl.1 rfl (lv_room (Nat.le_of_ble_eq_true rfl)) dX7_addLane_36 ⟨(Nat.le_of_ble_eq_true rfl), (Nat.le_of_ble_eq_true rfl)⟩) hS (fun H locs hP hS => ?_)
        refine lv_if_ne (tgt := 48) hx hb dX7_addLane_39 (by decide) (fun c23 => ?_) (fun c23 => ?_)
        · have hF := g_f c23 hF
          refine lv_aload_n hx hb dX7_addLane_48 rfl (lv_at hl 0 rfl) ?_
          obtain ⟨h24, hF⟩ := g_if hF
          refine g_get hx hb hts hiX7 hown hK hP 7 rfl (by decide) h24 3 (by decide) (hts (.fieldLink RX7 46 "CourierBeesModel" "lanes" "I") (by decide +kernel)) (fun _ h9 => h9) (gFv_i (Or.inl rfl)) dX7_addLane_49 ?_
          refine lv_bipush (v := 24) hx hb dX7_addLane_52 (by decide) ?_
          refine lv_icmp_eq (tgt := 64) hx hb dX7_addLane_54 (by decide) (fun c25 => ?_) (fun c25 => ?_)
          · have hF := g_t c25 hF
            exact HB64 _ _ _ _ _ hF hP hS (lv_sub hl [0] rfl)
          · have hF := g_f c25 hF
            refine lv_aload_n hx hb dX7_addLane_57 rfl (lv_at hl 0 rfl) ?_
            refine g_get hx hb hts hiX7 hown hK hP 7 rfl (by decide) h24 6 (by decide) (hts (.fieldLink RX7 49 "CourierBeesModel" "bees" "I") (by decide +kernel)) (fun _ h9 => h9) (gFv_i (Or.inl rfl)) dX7_addLane_58 ?_
            refine lv_if_le (tgt := 70) hx hb dX7_addLane_61 (by decide) (fun c30 => ?_) (fun c30 => ?_)
            · have hF := g_t c30 hF
              refine lv_iconst (v := 5) hx hb dX7_addLane_70 (by decide) ?_
              obtain ⟨q31, g32, e33, e34, h35, hF⟩ := g_nw hF
              refine g_newa (atype := .int) hx hb (hts (.arrayClass .int) (by decide +kernel)) 11 rfl (by decide) rfl hP hS hbz (n := 5) (N' := 5) (by decide) (by decide) (Nat.le_of_ble_eq_true rfl) (Nat.le_of_ble_eq_true rfl) (Nat.le_of_ble_eq_true rfl) dX7_addLane_71 (fun H hP hS => ?_)
              rw [e34] at hP
              rw [e33]
              refine lv_dup hx hb dX7_addLane_73 rfl ?_
              refine lv_iconst (v := 0) hx hb dX7_addLane_74 (by decide) ?_
              refine lv_iload_n hx hb dX7_addLane_75 rfl (lv_at hl 1 rfl) ?_
              obtain ⟨h36, hF⟩ := g_if hF
              refine g_iast hx hb hP hS (g_pr h35) h36 dX7_addLane_76 (fun H locs hP hS => ?_)
              refine lv_dup hx hb dX7_addLane_77 rfl ?_
              refine lv_iconst (v := 1) hx hb dX7_addLane_78 (by decide) ?_
              refine lv_iload_n hx hb dX7_addLane_79 rfl (lv_at hl 2 rfl) ?_
              obtain ⟨h37, hF⟩ := g_if hF
              refine g_iast hx hb hP hS (g_pr h35) h37 dX7_addLane_80 (fun H locs hP hS => ?_)
              refine lv_dup hx hb dX7_addLane_81 rfl ?_
              refine lv_iconst (v := 2) hx hb dX7_addLane_82 (by decide) ?_
              refine lv_iload_n hx hb dX7_addLane_83 rfl (lv_at hl 3 rfl) ?_
              obtain ⟨h38, hF⟩ := g_if hF
              refine g_iast hx hb hP hS (g_pr h35) h38 dX7_addLane_84 (fun H locs hP hS => ?_)
              refine lv_dup hx hb dX7_addLane_85 rfl ?_
              refine lv_iconst (v := 3) hx hb dX7_addLane_86 (by decide) ?_
              refine lv_iconst (v := 0) hx hb dX7_addLane_87 (by decide) ?_
              obtain ⟨h39, hF⟩ := g_if hF
              refine g_iast hx hb hP hS (g_pr h35) h39 dX7_addLane_88 (fun H locs hP hS => ?_)
              refine lv_dup hx hb dX7_addLane_89 rfl ?_
              refine lv_iconst (v := 4) hx hb dX7_addLane_90 (by decide) ?_
              refine lv_bipush (v := 24) hx hb dX7_addLane_91 (by decide) ?_
              obtain ⟨h40, hF⟩ := g_if hF
              refine g_iast hx hb hP hS (g_pr h35) h40 dX7_addLane_93 (fun H locs hP hS => ?_)
              obtain ⟨g41, e42, hF⟩ := g_let hF
              rw [e42] at hP
              have h43 : (gS g41 q31).1 = 11 := by rw [← e42]; exact h35
              refine lv_astore (lv' := [(4, .ref q31), (0, .ref a0), (1, .int x1), (2, .int x2), (3, .int x3)]) hx hb dX7_addLane_94 hl (by decide) rfl (fun ls hl => ?_)
              refine lv_aload hx hb dX7_addLane_96 (lv_at hl 0 rfl) ?_
              refine lv_iconst (v := 0) hx hb dX7_addLane_98 (by decide) ?_
              refine lv_aload_n hx hb dX7_addLane_99 rfl (lv_at hl 1 rfl) ?_
              obtain ⟨h44, hF⟩ := g_if hF
              obtain ⟨q45, hq46, hF⟩ := g_bind hF
              refine g_get hx hb hts hiX7 hown hK hP 7 rfl (by decide) h44 4 (by decide) (hts (.fieldLink RX7 13 "CourierBeesModel" "roads" "[I") (by decide +kernel)) (fun _ h9 => h9) ((gFv_r (by decide)).trans (congrArg va_rf hq46)) dX7_addLane_100 ?_
              refine lv_iconst (v := 5) hx hb dX7_addLane_103 (by decide) ?_
              refine lv_aload_n hx hb dX7_addLane_104 rfl (lv_at hl 1 rfl) ?_
              refine g_get hx hb hts hiX7 hown hK hP 7 rfl (by decide) h44 3 (by decide) (hts (.fieldLink RX7 46 "CourierBeesModel" "lanes" "I") (by decide +kernel)) (fun _ h9 => h9) (gFv_i (Or.inl rfl)) dX7_addLane_105 ?_
              refine lv_imul hx hb dX7_addLane_108 ?_
              refine lv_iconst (v := 5) hx hb dX7_addLane_109 (by decide) ?_
              obtain ⟨h47, hF⟩ := g_if hF
              obtain ⟨h48, hF⟩ := g_if hF
              refine g_copy hx hb (hml.trans hl.1.symm) hown (hts (.methodLink RX7 75 arraycopyName) (by decide +kernel)) (hts (.native arraycopyName) (by decide +kernel)) (hts (.static arraycopyName) (by decide +kernel)) (hts (.initialized "java/lang/System") (by decide +kernel)) hP hS (g_pr h43) (g_pr h47) h48.1 h48.2.1 h48.2.2.1 h48.2.2.2.1 h48.2.2.2.2 (Nat.le_of_ble_eq_true rfl) (by decide) dX7_addLane_110 (fun H locs hP hS => ?_)
              refine lv_aload_n hx hb dX7_addLane_113 rfl (lv_at hl 1 rfl) ?_
              refine lv_dup hx hb dX7_addLane_114 rfl ?_
              refine g_get hx hb hts hiX7 hown hK hP 7 rfl (by decide) h44 3 (by decide) (hts (.fieldLink RX7 46 "CourierBeesModel" "lanes" "I") (by decide +kernel)) (fun _ h9 => h9) (gFv_i (Or.inl rfl)) dX7_addLane_115 ?_
              refine lv_iconst (v := 1) hx hb dX7_addLane_118 (by decide) ?_
              refine lv_iadd hx hb dX7_addLane_119 ?_
              obtain ⟨y49, e50, hF⟩ := g_let hF
              rw [e50]
              refine g_puti hx hb hts hiX7 tyX7 tyX7_ok nmX7 hown hK hP hS 7 rfl (by decide) h44 3 (by decide) (hts (.fieldLink RX7 46 "CourierBeesModel" "lanes" "I") (by decide +kernel)) (fun _ h9 => h9) (Or.inl rfl) (Or.inl rfl) rfl rfl dX7_addLane_120 (fun H locs hP hS => ?_)
              refine lv_aload_n hx hb dX7_addLane_123 rfl (lv_at hl 1 rfl) ?_
              obtain ⟨g52, h51, hF⟩ := g_bind hF
              refine g_callv (va_runV (As := []) (rest := []) ⟨hx, hb, hml, hown, hts⟩ (k7_reckon l D base (gPI (gPW g41 q45 (va_cpy (gI g41 q31) (gI g41 q45) (Int32.toNatClampNeg ((0 : Int32))) (Int32.toNatClampNeg (((5 : Int32)) * (gI g41 a0 3))) (Int32.toNatClampNeg ((5 : Int32))))) a0 3 y49) a0 g52 h51) (cwV 0 hts gX7_addLane_X7_reckon rfl rfl rfl (by decide +kernel) ⟨Nat.le_of_ble_eq_true rfl, Nat.le_of_ble_eq_true rfl⟩) (gC.preV hE hP hS 7 rfl (by decide) h44 []) rfl rfl hl.1 rfl (lv_room (Nat.le_of_ble_eq_true rfl)) dX7_addLane_124 ⟨(Nat.le_of_ble_eq_true rfl), (Nat.le_of_ble_eq_true rfl)⟩) hS (fun H locs hP hS => ?_)
              refine lv_aload_n hx hb dX7_addLane_127 rfl (lv_at hl 1 rfl) ?_
              obtain ⟨h54, hF⟩ := g_if hF
              refine g_get hx hb hts hiX7 hown hK hP 7 rfl (by decide) h54 3 (by decide) (hts (.fieldLink RX7 46 "CourierBeesModel" "lanes" "I") (by decide +kernel)) (fun _ h9 => h9) (gFv_i (Or.inl rfl)) dX7_addLane_128 ?_
              refine lv_iconst (v := 1) hx hb dX7_addLane_131 (by decide) ?_
              refine lv_isub hx hb dX7_addLane_132 ?_
              exact g_retI hx hb hr hlocks hF hP hS (Nat.le_of_ble_eq_true rfl) (Nat.le_of_ble_eq_true rfl) dX7_addLane_133
            · have hF := g_f c30 hF
              exact HB64 _ _ _ _ _ hF hP hS (lv_sub hl [0] rfl)
        · have hF := g_t c23 hF
          exact HB42 _ _ _ _ _ hF hP hS (lv_sub hl [0] rfl)
    · have hF := g_t c14 hF
      exact HB21 _ _ _ _ _ hF hP hS (lv_sub hl [0] rfl)
