set_option maxHeartbeats 4000000 in
set_option maxRecDepth 100000 in
theorem k0_init (l : Launch) (D : va_G) (base : Nat) (g : g_H) (a0 : Nat) (x1 : Int32) (gz : g_H) (hF : f0_init g a0 x1 = some gz) : Met l yX0_init wsX0_init ({ frames := 2, cells := 4, slots := 32, locals := 42 } : Room) (va_Pc [.ref a0, .int x1] (gC base D g)) (gQv base D gz) 4 32 (gA base) := by
  refine g_met (cc := cX0_init) (maxL := 2) (ret := none) (lst := [(0, .ref a0), (1, .int x1)]) (by decide) rfl (Nat.le_of_ble_eq_true rfl) rfl ?_
  intro p e s m args below meth c ls hx hb hr hml hown hlocks hname hts hE hP hl
  have hown : s.vm.findClass RX0 = some m.cls := hown
  have hK := hE.1
  have hov := hE.2.2.2.2.2.2.2.1
  have hbz := hE.2.2.2.2.2.2.2.2.2.2.2.2
  have hS : va_S (gA base) s.heap s.heap [] := va_S.rf
  have hiX0 : ∀ w ∈ wsX00, w ∈ wsX0_init := by decide +kernel
  have hiX4 : ∀ w ∈ wsX40, w ∈ wsX0_init := by decide +kernel
  unfold f0_init at hF
  refine lv_aload_n hx hb dX0_init_0 rfl (lv_at hl 0 rfl) ?_
  refine W.objInit hx hb hown (hts (.methodLink RX0 3 objectInit) (by decide +kernel)) (hts (.instanceMethod objectInit) (by decide +kernel)) (hts (.code objectInit ⟨#[0xb1]⟩ 1 none) (by decide +kernel)) rfl (by rw [hml]; exact hl.1) rfl dX0_init_1 (Nat.le_of_ble_eq_true rfl) (Nat.le_of_ble_eq_true rfl) ?_
  refine W.eq (g2 := F0 m 4 ls []) rfl ?_
  refine lv_aload_n hx hb dX0_init_4 rfl (lv_at hl 0 rfl) ?_
  refine lv_iload_n hx hb dX0_init_5 rfl (lv_at hl 1 rfl) ?_
  obtain ⟨h1, hF⟩ := g_if hF
  refine g_puti hx hb hts hiX0 tyX0 tyX0_ok nmX0 hown hK hP hS 0 rfl (by decide) h1 0 (by decide) (hts (.fieldLink RX0 9 "CourierBees$Bee" "number" "I") (by decide +kernel)) (fun _ h9 => h9) (Or.inr ⟨rfl, hname, rfl⟩) (Or.inl rfl) rfl rfl dX0_init_6 (fun H locs hP hS => ?_)
  refine lv_aload_n hx hb dX0_init_9 rfl (lv_at hl 0 rfl) ?_
  obtain ⟨q2, g3, e4, e5, h6, hF⟩ := g_nw hF
  refine g_new hx hb hts hiX4 tyX4 tyX4_ok hown (hts (.classLink RX0 15 RX4) (by decide +kernel)) (hts (.instantiable RX4 4) (by decide +kernel)) (hts (.initialized RX4) (by decide +kernel)) hK hP hS hbz 4 rfl (by decide) dfX4 (Nat.le_of_ble_eq_true rfl) (Nat.le_of_ble_eq_true rfl) dX0_init_10 (fun H hP hS => ?_)
  rw [e5] at hP
  rw [e4]
  refine lv_dup hx hb dX0_init_13 rfl ?_
  obtain ⟨g8, h7, hF⟩ := g_bind hF
  refine g_callv (va_runI (As := []) (rest := [.ref q2, .ref a0]) ⟨hx, hb, hml, hown, hts⟩ (k4_init l D base g3 q2 g8 h7) (cwI 0 hts gX0_init_X4_init rfl rfl rfl (hts (.initialized RX4) (by decide +kernel)) (hts (.methodLink RX0 17 yX4_init) (by decide +kernel)) (hts (.instanceMethod yX4_init) (by decide +kernel)) rfl (by decide +kernel) ⟨Nat.le_of_ble_eq_true rfl, Nat.le_of_ble_eq_true rfl⟩) (gC.preS hE hP hS (.ref q2 :: [])) rfl rfl hl.1 rfl (lv_room (Nat.le_of_ble_eq_true rfl)) dX0_init_14 ⟨(Nat.le_of_ble_eq_true rfl), (Nat.le_of_ble_eq_true rfl)⟩) hS (fun H locs hP hS => ?_)
  obtain ⟨h10, hF⟩ := g_if hF
  refine g_putr hx hb hts hiX0 tyX0 tyX0_ok nmX0 hown hK hP hS 0 rfl (by decide) h10 1 (by decide) (hts (.fieldLink RX0 18 "CourierBees$Bee" "route" "LCourierBees$Route;") (by decide +kernel)) (fun _ h9 => h9) (Or.inl rfl) (by decide) rfl rfl dX0_init_17 (fun H locs hP hS => ?_)
  exact g_retV hx hb hr hlocks hF hP hS (Nat.le_of_ble_eq_true rfl) (Nat.le_of_ble_eq_true rfl) dX0_init_20
set_option maxHeartbeats 4000000 in
set_option maxRecDepth 100000 in
theorem k0_follow (l : Launch) (D : va_G) (base : Nat) (g : g_H) (a0 : Nat) (a1 : Nat) (x2 : Int32) (gz : g_H) (hF : f0_follow g a0 a1 x2 = some gz) : Met l yX0_follow wsX0_follow ({ frames := 2, cells := 0, slots := 0, locals := 51 } : Room) (va_Pc [.ref a0, .ref a1, .int x2] (gC base D g)) (gQv base D gz) 0 0 (gA base) := by
  refine g_met (cc := cX0_follow) (maxL := 3) (ret := none) (lst := [(0, .ref a0), (1, .ref a1), (2, .int x2)]) (by decide) rfl (Nat.le_of_ble_eq_true rfl) rfl ?_
  intro p e s m args below meth c ls hx hb hr hml hown hlocks hname hts hE hP hl
  have hown : s.vm.findClass RX0 = some m.cls := hown
  have hK := hE.1
  have hov := hE.2.2.2.2.2.2.2.1
  have hbz := hE.2.2.2.2.2.2.2.2.2.2.2.2
  have hS : va_S (gA base) s.heap s.heap [] := va_S.rf
  have hiX0 : ∀ w ∈ wsX00, w ∈ wsX0_follow := by decide +kernel
  unfold f0_follow at hF
  refine lv_aload_n hx hb dX0_follow_0 rfl (lv_at hl 0 rfl) ?_
  obtain ⟨h1, hF⟩ := g_if hF
  obtain ⟨q2, hq3, hF⟩ := g_bind hF
  refine g_get hx hb hts hiX0 hown hK hP 0 rfl (by decide) h1 1 (by decide) (hts (.fieldLink RX0 18 "CourierBees$Bee" "route" "LCourierBees$Route;") (by decide +kernel)) (fun _ h9 => h9) ((gFv_r (by decide)).trans (congrArg va_rf hq3)) dX0_follow_1 ?_
  refine lv_aload_n hx hb dX0_follow_4 rfl (lv_at hl 1 rfl) ?_
  obtain ⟨h5, hF⟩ := g_if hF
  obtain ⟨g6, h4, hF⟩ := g_bind hF
  refine g_callv (va_runV (As := [.ref a1]) (rest := []) ⟨hx, hb, hml, hown, hts⟩ (k4_copyFrom l D base g q2 a1 g6 h4) (cwV 1 hts gX0_follow_X4_copyFrom rfl rfl rfl (by decide +kernel) ⟨Nat.le_of_ble_eq_true rfl, Nat.le_of_ble_eq_true rfl⟩) (gC.preV hE hP hS 4 rfl (by decide) h5 [.ref a1]) rfl rfl hl.1 rfl (lv_room (Nat.le_of_ble_eq_true rfl)) dX0_follow_5 ⟨(Nat.le_of_ble_eq_true rfl), (Nat.le_of_ble_eq_true rfl)⟩) hS (fun H locs hP hS => ?_)
  refine lv_aload_n hx hb dX0_follow_8 rfl (lv_at hl 0 rfl) ?_
  refine lv_iload_n hx hb dX0_follow_9 rfl (lv_at hl 2 rfl) ?_
  obtain ⟨h8, hF⟩ := g_if hF
  refine g_puti hx hb hts hiX0 tyX0 tyX0_ok nmX0 hown hK hP hS 0 rfl (by decide) h8 2 (by decide) (hts (.fieldLink RX0 49 "CourierBees$Bee" "place" "I") (by decide +kernel)) (fun _ h9 => h9) (Or.inl rfl) (Or.inl rfl) rfl rfl dX0_follow_10 (fun H locs hP hS => ?_)
  refine lv_aload_n hx hb dX0_follow_13 rfl (lv_at hl 0 rfl) ?_
  refine lv_iconst (v := 1) hx hb dX0_follow_14 (by decide) ?_
  refine g_puti hx hb hts hiX0 tyX0 tyX0_ok nmX0 hown hK hP hS 0 rfl (by decide) h8 9 (by decide) (hts (.fieldLink RX0 52 "CourierBees$Bee" "onward" "Z") (by decide +kernel)) (fun _ h9 => h9) (Or.inl rfl) (Or.inr rfl) (g_bz (Or.inr rfl)).1 (g_bz (Or.inr rfl)).2 dX0_follow_15 (fun H locs hP hS => ?_)
  exact g_retV hx hb hr hlocks hF hP hS (Nat.le_of_ble_eq_true rfl) (Nat.le_of_ble_eq_true rfl) dX0_follow_18
set_option maxHeartbeats 4000000 in
set_option maxRecDepth 100000 in
theorem k0_hatch (l : Launch) (D : va_G) (base : Nat) (g : g_H) (a0 : Nat) (a1 : Nat) (gz : g_H) (hF : f0_hatch g a0 a1 = some gz) : Met l yX0_hatch wsX0_hatch ({ frames := 3, cells := 0, slots := 0, locals := 73 } : Room) (va_Pc [.ref a0, .ref a1] (gC base D g)) (gQv base D gz) 0 0 (gA base) := by
  refine g_met (cc := cX0_hatch) (maxL := 2) (ret := none) (lst := [(0, .ref a0), (1, .ref a1)]) (by decide) rfl (Nat.le_of_ble_eq_true rfl) rfl ?_
  intro p e s m args below meth c ls hx hb hr hml hown hlocks hname hts hE hP hl
  have hown : s.vm.findClass RX0 = some m.cls := hown
  have hK := hE.1
  have hov := hE.2.2.2.2.2.2.2.1
  have hbz := hE.2.2.2.2.2.2.2.2.2.2.2.2
  have hS : va_S (gA base) s.heap s.heap [] := va_S.rf
  have hiX0 : ∀ w ∈ wsX00, w ∈ wsX0_hatch := by decide +kernel
  unfold f0_hatch at hF
  refine lv_aload_n hx hb dX0_hatch_0 rfl (lv_at hl 0 rfl) ?_
  refine lv_iconst (v := 0) hx hb dX0_hatch_1 (by decide) ?_
  obtain ⟨h1, hF⟩ := g_if hF
  refine g_puti hx hb hts hiX0 tyX0 tyX0_ok nmX0 hown hK hP hS 0 rfl (by decide) h1 3 (by decide) (hts (.fieldLink RX0 22 "CourierBees$Bee" "left" "I") (by decide +kernel)) (fun _ h9 => h9) (Or.inl rfl) (Or.inl rfl) rfl rfl dX0_hatch_2 (fun H locs hP hS => ?_)
  refine lv_aload_n hx hb dX0_hatch_5 rfl (lv_at hl 0 rfl) ?_
  refine lv_bipush (v := 30) hx hb dX0_hatch_6 (by decide) ?_
  refine g_puti hx hb hts hiX0 tyX0 tyX0_ok nmX0 hown hK hP hS 0 rfl (by decide) h1 4 (by decide) (hts (.fieldLink RX0 25 "CourierBees$Bee" "strength" "I") (by decide +kernel)) (fun _ h9 => h9) (Or.inl rfl) (Or.inl rfl) rfl rfl dX0_hatch_8 (fun H locs hP hS => ?_)
  refine lv_aload_n hx hb dX0_hatch_11 rfl (lv_at hl 0 rfl) ?_
  refine lv_bipush (v := 10) hx hb dX0_hatch_12 (by decide) ?_
  refine g_puti hx hb hts hiX0 tyX0 tyX0_ok nmX0 hown hK hP hS 0 rfl (by decide) h1 5 (by decide) (hts (.fieldLink RX0 28 "CourierBees$Bee" "honour" "I") (by decide +kernel)) (fun _ h9 => h9) (Or.inl rfl) (Or.inl rfl) rfl rfl dX0_hatch_14 (fun H locs hP hS => ?_)
  refine lv_aload_n hx hb dX0_hatch_17 rfl (lv_at hl 0 rfl) ?_
  refine lv_iconst (v := 0) hx hb dX0_hatch_18 (by decide) ?_
  refine g_puti hx hb hts hiX0 tyX0 tyX0_ok nmX0 hown hK hP hS 0 rfl (by decide) h1 6 (by decide) (hts (.fieldLink RX0 31 "CourierBees$Bee" "carries" "I") (by decide +kernel)) (fun _ h9 => h9) (Or.inl rfl) (Or.inl rfl) rfl rfl dX0_hatch_19 (fun H locs hP hS => ?_)
  refine lv_aload_n hx hb dX0_hatch_22 rfl (lv_at hl 0 rfl) ?_
  refine lv_iconst (v := 0) hx hb dX0_hatch_23 (by decide) ?_
  refine g_puti hx hb hts hiX0 tyX0 tyX0_ok nmX0 hown hK hP hS 0 rfl (by decide) h1 7 (by decide) (hts (.fieldLink RX0 34 "CourierBees$Bee" "rests" "Z") (by decide +kernel)) (fun _ h9 => h9) (Or.inl rfl) (Or.inr rfl) (g_bz (Or.inl rfl)).1 (g_bz (Or.inl rfl)).2 dX0_hatch_24 (fun H locs hP hS => ?_)
  refine lv_aload_n hx hb dX0_hatch_27 rfl (lv_at hl 0 rfl) ?_
  refine lv_iconst (v := 0) hx hb dX0_hatch_28 (by decide) ?_
  refine g_puti hx hb hts hiX0 tyX0 tyX0_ok nmX0 hown hK hP hS 0 rfl (by decide) h1 8 (by decide) (hts (.fieldLink RX0 38 "CourierBees$Bee" "delivered" "I") (by decide +kernel)) (fun _ h9 => h9) (Or.inl rfl) (Or.inl rfl) rfl rfl dX0_hatch_29 (fun H locs hP hS => ?_)
  refine lv_aload_n hx hb dX0_hatch_32 rfl (lv_at hl 0 rfl) ?_
  refine lv_aload_n hx hb dX0_hatch_33 rfl (lv_at hl 1 rfl) ?_
  refine lv_iconst (v := 0) hx hb dX0_hatch_34 (by decide) ?_
  obtain ⟨g3, h2, hF⟩ := g_bind hF
  refine g_callv (va_runV (As := [.ref a1, .int ((0 : Int32))]) (rest := []) ⟨hx, hb, hml, hown, hts⟩ (k0_follow l D base (gPI (gPI (gPI (gPI (gPI (gPI g a0 3 ((0 : Int32))) a0 4 ((30 : Int32))) a0 5 ((10 : Int32))) a0 6 ((0 : Int32))) a0 7 ((0 : Int32))) a0 8 ((0 : Int32))) a0 a1 ((0 : Int32)) g3 h2) (cwV 2 hts gX0_hatch_X0_follow rfl rfl rfl (by decide +kernel) ⟨Nat.le_of_ble_eq_true rfl, Nat.le_of_ble_eq_true rfl⟩) (gC.preV hE hP hS 0 rfl (by decide) h1 [.ref a1, .int ((0 : Int32))]) rfl rfl hl.1 rfl (lv_room (Nat.le_of_ble_eq_true rfl)) dX0_hatch_35 ⟨(Nat.le_of_ble_eq_true rfl), (Nat.le_of_ble_eq_true rfl)⟩) hS (fun H locs hP hS => ?_)
  exact g_retV hx hb hr hlocks hF hP hS (Nat.le_of_ble_eq_true rfl) (Nat.le_of_ble_eq_true rfl) dX0_hatch_38
set_option maxHeartbeats 4000000 in
set_option maxRecDepth 100000 in
theorem k0_house (l : Launch) (D : va_G) (base : Nat) (g : g_H) (a0 : Nat) (rr : Int32) (gz : g_H) (hF : f0_house g a0 = some (rr, gz)) : Met l yX0_house wsX0_house ({ frames := 1, cells := 0, slots := 0, locals := 21 } : Room) (va_Pc [.ref a0] (gC base D g)) (gQi base D rr gz) 0 0 (gA base) := by
  refine g_met (cc := cX0_house) (maxL := 1) (ret := (some .int)) (lst := [(0, .ref a0)]) (by decide) rfl (Nat.le_of_ble_eq_true rfl) rfl ?_
  intro p e s m args below meth c ls hx hb hr hml hown hlocks hname hts hE hP hl
  have hown : s.vm.findClass RX0 = some m.cls := hown
  have hK := hE.1
  have hov := hE.2.2.2.2.2.2.2.1
  have hbz := hE.2.2.2.2.2.2.2.2.2.2.2.2
  have hS : va_S (gA base) s.heap s.heap [] := va_S.rf
  have hiX0 : ∀ w ∈ wsX00, w ∈ wsX0_house := by decide +kernel
  unfold f0_house at hF
  refine lv_aload_n hx hb dX0_house_0 rfl (lv_at hl 0 rfl) ?_
  obtain ⟨h1, hF⟩ := g_if hF
  obtain ⟨q2, hq3, hF⟩ := g_bind hF
  refine g_get hx hb hts hiX0 hown hK hP 0 rfl (by decide) h1 1 (by decide) (hts (.fieldLink RX0 18 "CourierBees$Bee" "route" "LCourierBees$Route;") (by decide +kernel)) (fun _ h9 => h9) ((gFv_r (by decide)).trans (congrArg va_rf hq3)) dX0_house_1 ?_
  refine lv_aload_n hx hb dX0_house_4 rfl (lv_at hl 0 rfl) ?_
  refine g_get hx hb hts hiX0 hown hK hP 0 rfl (by decide) h1 2 (by decide) (hts (.fieldLink RX0 49 "CourierBees$Bee" "place" "I") (by decide +kernel)) (fun _ h9 => h9) (gFv_i (Or.inl rfl)) dX0_house_5 ?_
  obtain ⟨h5, hF⟩ := g_if hF
  obtain ⟨v7, g6, h4, hF⟩ := g_bind2 hF
  refine g_calli (va_runV (As := [.int (gI g a0 2)]) (rest := []) ⟨hx, hb, hml, hown, hts⟩ (k4_houseAt l D base g q2 (gI g a0 2) v7 g6 h4) (cwV 1 hts gX0_house_X4_houseAt rfl rfl rfl (by decide +kernel) ⟨Nat.le_of_ble_eq_true rfl, Nat.le_of_ble_eq_true rfl⟩) (gC.preV hE hP hS 4 rfl (by decide) h5 [.int (gI g a0 2)]) rfl rfl hl.1 rfl (lv_room (Nat.le_of_ble_eq_true rfl)) dX0_house_8 ⟨(Nat.le_of_ble_eq_true rfl), (Nat.le_of_ble_eq_true rfl)⟩) hS (fun H locs hP hS => ?_)
  exact g_retI hx hb hr hlocks hF hP hS (Nat.le_of_ble_eq_true rfl) (Nat.le_of_ble_eq_true rfl) dX0_house_11
set_option maxHeartbeats 4000000 in
set_option maxRecDepth 100000 in
theorem k0_addHonour (l : Launch) (D : va_G) (base : Nat) (g : g_H) (a0 : Nat) (x1 : Int32) (gz : g_H) (hF : f0_addHonour g a0 x1 = some gz) : Met l yX0_addHonour wsX0_addHonour ({ frames := 1, cells := 0, slots := 0, locals := 24 } : Room) (va_Pc [.ref a0, .int x1] (gC base D g)) (gQv base D gz) 0 0 (gA base) := by
  refine g_met (cc := cX0_addHonour) (maxL := 2) (ret := none) (lst := [(0, .ref a0), (1, .int x1)]) (by decide) rfl (Nat.le_of_ble_eq_true rfl) rfl ?_
  intro p e s m args below meth c ls hx hb hr hml hown hlocks hname hts hE hP hl
  have hown : s.vm.findClass RX0 = some m.cls := hown
  have hK := hE.1
  have hov := hE.2.2.2.2.2.2.2.1
  have hbz := hE.2.2.2.2.2.2.2.2.2.2.2.2
  have hS : va_S (gA base) s.heap s.heap [] := va_S.rf
  have hiX0 : ∀ w ∈ wsX00, w ∈ wsX0_addHonour := by decide +kernel
  unfold f0_addHonour at hF
  refine lv_aload_n hx hb dX0_addHonour_0 rfl (lv_at hl 0 rfl) ?_
  refine lv_iconst (v := 0) hx hb dX0_addHonour_1 (by decide) ?_
  refine lv_bipush (v := 20) hx hb dX0_addHonour_2 (by decide) ?_
  refine lv_aload_n hx hb dX0_addHonour_4 rfl (lv_at hl 0 rfl) ?_
  obtain ⟨h1, hF⟩ := g_if hF
  refine g_get hx hb hts hiX0 hown hK hP 0 rfl (by decide) h1 5 (by decide) (hts (.fieldLink RX0 28 "CourierBees$Bee" "honour" "I") (by decide +kernel)) (fun _ h9 => h9) (gFv_i (Or.inl rfl)) dX0_addHonour_5 ?_
  refine lv_iload_n hx hb dX0_addHonour_8 rfl (lv_at hl 1 rfl) ?_
  refine lv_iadd hx hb dX0_addHonour_9 ?_
  refine va_mmin hx hb (hml.trans hl.1.symm) hown (hts (.methodLink RX0 59 Lib.Math.min.name) (by decide +kernel)) (hts (.static Lib.Math.min.name) (by decide +kernel)) (hts (.initialized "java/lang/Math") (by decide +kernel)) (hts (.code Lib.Math.min.name Lib.Math.min.code 2 (some .int)) (by decide +kernel)) (Nat.le_of_ble_eq_true rfl) (Nat.le_of_ble_eq_true rfl) (Nat.le_of_ble_eq_true rfl) (Nat.le_of_ble_eq_true rfl) dX0_addHonour_10 ?_
  refine va_mmax hx hb (hml.trans hl.1.symm) hown (hts (.methodLink RX0 65 Lib.Math.max.name) (by decide +kernel)) (hts (.static Lib.Math.max.name) (by decide +kernel)) (hts (.initialized "java/lang/Math") (by decide +kernel)) (hts (.code Lib.Math.max.name Lib.Math.max.code 2 (some .int)) (by decide +kernel)) (Nat.le_of_ble_eq_true rfl) (Nat.le_of_ble_eq_true rfl) (Nat.le_of_ble_eq_true rfl) (Nat.le_of_ble_eq_true rfl) dX0_addHonour_13 ?_
  obtain ⟨y2, e3, hF⟩ := g_let hF
  rw [e3]
  refine g_puti hx hb hts hiX0 tyX0 tyX0_ok nmX0 hown hK hP hS 0 rfl (by decide) h1 5 (by decide) (hts (.fieldLink RX0 28 "CourierBees$Bee" "honour" "I") (by decide +kernel)) (fun _ h9 => h9) (Or.inl rfl) (Or.inl rfl) rfl rfl dX0_addHonour_16 (fun H locs hP hS => ?_)
  exact g_retV hx hb hr hlocks hF hP hS (Nat.le_of_ble_eq_true rfl) (Nat.le_of_ble_eq_true rfl) dX0_addHonour_19
set_option maxHeartbeats 4000000 in
set_option maxRecDepth 100000 in
theorem k0_addStrength (l : Launch) (D : va_G) (base : Nat) (g : g_H) (a0 : Nat) (x1 : Int32) (gz : g_H) (hF : f0_addStrength g a0 x1 = some gz) : Met l yX0_addStrength wsX0_addStrength ({ frames := 1, cells := 0, slots := 0, locals := 24 } : Room) (va_Pc [.ref a0, .int x1] (gC base D g)) (gQv base D gz) 0 0 (gA base) := by
  refine g_met (cc := cX0_addStrength) (maxL := 2) (ret := none) (lst := [(0, .ref a0), (1, .int x1)]) (by decide) rfl (Nat.le_of_ble_eq_true rfl) rfl ?_
  intro p e s m args below meth c ls hx hb hr hml hown hlocks hname hts hE hP hl
  have hown : s.vm.findClass RX0 = some m.cls := hown
  have hK := hE.1
  have hov := hE.2.2.2.2.2.2.2.1
  have hbz := hE.2.2.2.2.2.2.2.2.2.2.2.2
  have hS : va_S (gA base) s.heap s.heap [] := va_S.rf
  have hiX0 : ∀ w ∈ wsX00, w ∈ wsX0_addStrength := by decide +kernel
  unfold f0_addStrength at hF
  refine lv_aload_n hx hb dX0_addStrength_0 rfl (lv_at hl 0 rfl) ?_
  refine lv_bipush (v := 30) hx hb dX0_addStrength_1 (by decide) ?_
  refine lv_aload_n hx hb dX0_addStrength_3 rfl (lv_at hl 0 rfl) ?_
  obtain ⟨h1, hF⟩ := g_if hF
  refine g_get hx hb hts hiX0 hown hK hP 0 rfl (by decide) h1 4 (by decide) (hts (.fieldLink RX0 25 "CourierBees$Bee" "strength" "I") (by decide +kernel)) (fun _ h9 => h9) (gFv_i (Or.inl rfl)) dX0_addStrength_4 ?_
  refine lv_iload_n hx hb dX0_addStrength_7 rfl (lv_at hl 1 rfl) ?_
  refine lv_iadd hx hb dX0_addStrength_8 ?_
  refine va_mmin hx hb (hml.trans hl.1.symm) hown (hts (.methodLink RX0 59 Lib.Math.min.name) (by decide +kernel)) (hts (.static Lib.Math.min.name) (by decide +kernel)) (hts (.initialized "java/lang/Math") (by decide +kernel)) (hts (.code Lib.Math.min.name Lib.Math.min.code 2 (some .int)) (by decide +kernel)) (Nat.le_of_ble_eq_true rfl) (Nat.le_of_ble_eq_true rfl) (Nat.le_of_ble_eq_true rfl) (Nat.le_of_ble_eq_true rfl) dX0_addStrength_9 ?_
  obtain ⟨y2, e3, hF⟩ := g_let hF
  rw [e3]
  refine g_puti hx hb hts hiX0 tyX0 tyX0_ok nmX0 hown hK hP hS 0 rfl (by decide) h1 4 (by decide) (hts (.fieldLink RX0 25 "CourierBees$Bee" "strength" "I") (by decide +kernel)) (fun _ h9 => h9) (Or.inl rfl) (Or.inl rfl) rfl rfl dX0_addStrength_12 (fun H locs hP hS => ?_)
  exact g_retV hx hb hr hlocks hF hP hS (Nat.le_of_ble_eq_true rfl) (Nat.le_of_ble_eq_true rfl) dX0_addStrength_15
set_option maxHeartbeats 4000000 in
set_option maxRecDepth 100000 in
theorem k0_take (l : Launch) (D : va_G) (base : Nat) (g : g_H) (a0 : Nat) (a1 : Nat) (gz : g_H) (hF : f0_take g a0 a1 = some gz) : Met l yX0_take wsX0_take ({ frames := 0, cells := 0, slots := 0, locals := 0 } : Room) (va_Pc [.ref a0, .ref a1] (gC base D g)) (gQv base D gz) 0 0 (gA base) := by
  refine g_met (cc := cX0_take) (maxL := 2) (ret := none) (lst := [(0, .ref a0), (1, .ref a1)]) (by decide) rfl (Nat.le_of_ble_eq_true rfl) rfl ?_
  intro p e s m args below meth c ls hx hb hr hml hown hlocks hname hts hE hP hl
  have hown : s.vm.findClass RX0 = some m.cls := hown
  have hK := hE.1
  have hov := hE.2.2.2.2.2.2.2.1
  have hbz := hE.2.2.2.2.2.2.2.2.2.2.2.2
  have hS : va_S (gA base) s.heap s.heap [] := va_S.rf
  have hiX0 : ∀ w ∈ wsX00, w ∈ wsX0_take := by decide +kernel
  have hiX3 : ∀ w ∈ wsX30, w ∈ wsX0_take := by decide +kernel
  unfold f0_take at hF
  refine lv_aload_n hx hb dX0_take_0 rfl (lv_at hl 1 rfl) ?_
  refine lv_iconst (v := (-1)) hx hb dX0_take_1 (by decide) ?_
  obtain ⟨h1, hF⟩ := g_if hF
  refine g_puti hx hb hts hiX3 tyX3 tyX3_ok nmX3 hown hK hP hS 3 rfl (by decide) h1 1 (by decide) (hts (.fieldLink RX0 68 "CourierBees$Letter" "lies" "I") (by decide +kernel)) (fun _ h9 => h9) (Or.inl rfl) (Or.inl rfl) rfl rfl dX0_take_2 (fun H locs hP hS => ?_)
  refine lv_aload_n hx hb dX0_take_5 rfl (lv_at hl 1 rfl) ?_
  refine lv_aload_n hx hb dX0_take_6 rfl (lv_at hl 0 rfl) ?_
  obtain ⟨h2, hF⟩ := g_if hF
  refine g_get hx hb hts hiX0 hown hK hP 0 rfl (by decide) h2 0 (by decide) (hts (.fieldLink RX0 9 "CourierBees$Bee" "number" "I") (by decide +kernel)) (fun _ h9 => h9) (gFv_i (Or.inl rfl)) dX0_take_7 ?_
  obtain ⟨y3, e4, hF⟩ := g_let hF
  rw [e4]
  refine g_puti hx hb hts hiX3 tyX3 tyX3_ok nmX3 hown hK hP hS 3 rfl (by decide) h1 2 (by decide) (hts (.fieldLink RX0 73 "CourierBees$Letter" "carrier" "I") (by decide +kernel)) (fun _ h9 => h9) (Or.inl rfl) (Or.inl rfl) rfl rfl dX0_take_10 (fun H locs hP hS => ?_)
  refine lv_aload_n hx hb dX0_take_13 rfl (lv_at hl 1 rfl) ?_
  refine lv_dup hx hb dX0_take_14 rfl ?_
  refine g_get hx hb hts hiX3 hown hK hP 3 rfl (by decide) h1 4 (by decide) (hts (.fieldLink RX0 76 "CourierBees$Letter" "taken" "I") (by decide +kernel)) (fun _ h9 => h9) (gFv_i (Or.inl rfl)) dX0_take_15 ?_
  refine lv_iconst (v := 1) hx hb dX0_take_18 (by decide) ?_
  refine lv_iadd hx hb dX0_take_19 ?_
  obtain ⟨y5, e6, hF⟩ := g_let hF
  rw [e6]
  refine g_puti hx hb hts hiX3 tyX3 tyX3_ok nmX3 hown hK hP hS 3 rfl (by decide) h1 4 (by decide) (hts (.fieldLink RX0 76 "CourierBees$Letter" "taken" "I") (by decide +kernel)) (fun _ h9 => h9) (Or.inl rfl) (Or.inl rfl) rfl rfl dX0_take_20 (fun H locs hP hS => ?_)
  refine lv_aload_n hx hb dX0_take_23 rfl (lv_at hl 0 rfl) ?_
  refine lv_dup hx hb dX0_take_24 rfl ?_
  refine g_get hx hb hts hiX0 hown hK hP 0 rfl (by decide) h2 6 (by decide) (hts (.fieldLink RX0 31 "CourierBees$Bee" "carries" "I") (by decide +kernel)) (fun _ h9 => h9) (gFv_i (Or.inl rfl)) dX0_take_25 ?_
  refine lv_iconst (v := 1) hx hb dX0_take_28 (by decide) ?_
  refine lv_iadd hx hb dX0_take_29 ?_
  obtain ⟨y7, e8, hF⟩ := g_let hF
  rw [e8]
  refine g_puti hx hb hts hiX0 tyX0 tyX0_ok nmX0 hown hK hP hS 0 rfl (by decide) h2 6 (by decide) (hts (.fieldLink RX0 31 "CourierBees$Bee" "carries" "I") (by decide +kernel)) (fun _ h9 => h9) (Or.inl rfl) (Or.inl rfl) rfl rfl dX0_take_30 (fun H locs hP hS => ?_)
  exact g_retV hx hb hr hlocks hF hP hS (Nat.le_of_ble_eq_true rfl) (Nat.le_of_ble_eq_true rfl) dX0_take_33
set_option maxHeartbeats 4000000 in
set_option maxRecDepth 100000 in
theorem k0_layDown (l : Launch) (D : va_G) (base : Nat) (g : g_H) (a0 : Nat) (a1 : Nat) (gz : g_H) (hF : f0_layDown g a0 a1 = some gz) : Met l yX0_layDown wsX0_layDown ({ frames := 2, cells := 0, slots := 0, locals := 41 } : Room) (va_Pc [.ref a0, .ref a1] (gC base D g)) (gQv base D gz) 0 0 (gA base) := by
  refine g_met (cc := cX0_layDown) (maxL := 2) (ret := none) (lst := [(0, .ref a0), (1, .ref a1)]) (by decide) rfl (Nat.le_of_ble_eq_true rfl) rfl ?_
  intro p e s m args below meth c ls hx hb hr hml hown hlocks hname hts hE hP hl
  have hown : s.vm.findClass RX0 = some m.cls := hown
  have hK := hE.1
  have hov := hE.2.2.2.2.2.2.2.1
  have hbz := hE.2.2.2.2.2.2.2.2.2.2.2.2
  have hS : va_S (gA base) s.heap s.heap [] := va_S.rf
  have hiX0 : ∀ w ∈ wsX00, w ∈ wsX0_layDown := by decide +kernel
  have hiX3 : ∀ w ∈ wsX30, w ∈ wsX0_layDown := by decide +kernel
  unfold f0_layDown at hF
  refine lv_aload_n hx hb dX0_layDown_0 rfl (lv_at hl 1 rfl) ?_
  refine lv_iconst (v := (-1)) hx hb dX0_layDown_1 (by decide) ?_
  obtain ⟨h1, hF⟩ := g_if hF
  refine g_puti hx hb hts hiX3 tyX3 tyX3_ok nmX3 hown hK hP hS 3 rfl (by decide) h1 2 (by decide) (hts (.fieldLink RX0 73 "CourierBees$Letter" "carrier" "I") (by decide +kernel)) (fun _ h9 => h9) (Or.inl rfl) (Or.inl rfl) rfl rfl dX0_layDown_2 (fun H locs hP hS => ?_)
  refine lv_aload_n hx hb dX0_layDown_5 rfl (lv_at hl 1 rfl) ?_
  refine lv_aload_n hx hb dX0_layDown_6 rfl (lv_at hl 0 rfl) ?_
  obtain ⟨h3, hF⟩ := g_if hF
  obtain ⟨v5, g4, h2, hF⟩ := g_bind2 hF
  refine g_calli (va_runV (As := []) (rest := [.ref a1]) ⟨hx, hb, hml, hown, hts⟩ (k0_house l D base (gPI g a1 2 ((-1 : Int32))) a0 v5 g4 h2) (cwV 0 hts gX0_layDown_X0_house rfl rfl rfl (by decide +kernel) ⟨Nat.le_of_ble_eq_true rfl, Nat.le_of_ble_eq_true rfl⟩) (gC.preV hE hP hS 0 rfl (by decide) h3 []) rfl rfl hl.1 rfl (lv_room (Nat.le_of_ble_eq_true rfl)) dX0_layDown_7 ⟨(Nat.le_of_ble_eq_true rfl), (Nat.le_of_ble_eq_true rfl)⟩) hS (fun H locs hP hS => ?_)
  obtain ⟨h6, hF⟩ := g_if hF
  refine g_puti hx hb hts hiX3 tyX3 tyX3_ok nmX3 hown hK hP hS 3 rfl (by decide) h6 1 (by decide) (hts (.fieldLink RX0 68 "CourierBees$Letter" "lies" "I") (by decide +kernel)) (fun _ h9 => h9) (Or.inl rfl) (Or.inl rfl) rfl rfl dX0_layDown_10 (fun H locs hP hS => ?_)
  refine lv_aload_n hx hb dX0_layDown_13 rfl (lv_at hl 0 rfl) ?_
  refine lv_dup hx hb dX0_layDown_14 rfl ?_
  obtain ⟨h7, hF⟩ := g_if hF
  refine g_get hx hb hts hiX0 hown hK hP 0 rfl (by decide) h7 6 (by decide) (hts (.fieldLink RX0 31 "CourierBees$Bee" "carries" "I") (by decide +kernel)) (fun _ h9 => h9) (gFv_i (Or.inl rfl)) dX0_layDown_15 ?_
  refine lv_iconst (v := 1) hx hb dX0_layDown_18 (by decide) ?_
  refine lv_isub hx hb dX0_layDown_19 ?_
  obtain ⟨y8, e9, hF⟩ := g_let hF
  rw [e9]
  refine g_puti hx hb hts hiX0 tyX0 tyX0_ok nmX0 hown hK hP hS 0 rfl (by decide) h7 6 (by decide) (hts (.fieldLink RX0 31 "CourierBees$Bee" "carries" "I") (by decide +kernel)) (fun _ h9 => h9) (Or.inl rfl) (Or.inl rfl) rfl rfl dX0_layDown_20 (fun H locs hP hS => ?_)
  exact g_retV hx hb hr hlocks hF hP hS (Nat.le_of_ble_eq_true rfl) (Nat.le_of_ble_eq_true rfl) dX0_layDown_23
set_option maxHeartbeats 4000000 in
set_option maxRecDepth 100000 in
theorem k0_deliver (l : Launch) (D : va_G) (base : Nat) (g : g_H) (a0 : Nat) (a1 : Nat) (x2 : Int32) (gz : g_H) (hF : f0_deliver g a0 a1 x2 = some gz) : Met l yX0_deliver wsX0_deliver ({ frames := 2, cells := 0, slots := 0, locals := 45 } : Room) (va_Pc [.ref a0, .ref a1, .int x2] (gC base D g)) (gQv base D gz) 0 0 (gA base) := by
  refine g_met (cc := cX0_deliver) (maxL := 3) (ret := none) (lst := [(0, .ref a0), (1, .ref a1), (2, .int x2)]) (by decide) rfl (Nat.le_of_ble_eq_true rfl) rfl ?_
  intro p e s m args below meth c ls hx hb hr hml hown hlocks hname hts hE hP hl
  have hown : s.vm.findClass RX0 = some m.cls := hown
  have hK := hE.1
  have hov := hE.2.2.2.2.2.2.2.1
  have hbz := hE.2.2.2.2.2.2.2.2.2.2.2.2
  have hS : va_S (gA base) s.heap s.heap [] := va_S.rf
  have hiX0 : ∀ w ∈ wsX00, w ∈ wsX0_deliver := by decide +kernel
  have hiX3 : ∀ w ∈ wsX30, w ∈ wsX0_deliver := by decide +kernel
  unfold f0_deliver at hF
  refine lv_aload_n hx hb dX0_deliver_0 rfl (lv_at hl 1 rfl) ?_
  refine lv_iconst (v := (-1)) hx hb dX0_deliver_1 (by decide) ?_
  obtain ⟨h1, hF⟩ := g_if hF
  refine g_puti hx hb hts hiX3 tyX3 tyX3_ok nmX3 hown hK hP hS 3 rfl (by decide) h1 2 (by decide) (hts (.fieldLink RX0 73 "CourierBees$Letter" "carrier" "I") (by decide +kernel)) (fun _ h9 => h9) (Or.inl rfl) (Or.inl rfl) rfl rfl dX0_deliver_2 (fun H locs hP hS => ?_)
  refine lv_aload_n hx hb dX0_deliver_5 rfl (lv_at hl 1 rfl) ?_
  refine lv_iload_n hx hb dX0_deliver_6 rfl (lv_at hl 2 rfl) ?_
  refine g_puti hx hb hts hiX3 tyX3 tyX3_ok nmX3 hown hK hP hS 3 rfl (by decide) h1 3 (by decide) (hts (.fieldLink RX0 83 "CourierBees$Letter" "arrivedIn" "I") (by decide +kernel)) (fun _ h9 => h9) (Or.inl rfl) (Or.inl rfl) rfl rfl dX0_deliver_7 (fun H locs hP hS => ?_)
  refine lv_aload_n hx hb dX0_deliver_10 rfl (lv_at hl 0 rfl) ?_
  refine lv_dup hx hb dX0_deliver_11 rfl ?_
  obtain ⟨h2, hF⟩ := g_if hF
  refine g_get hx hb hts hiX0 hown hK hP 0 rfl (by decide) h2 6 (by decide) (hts (.fieldLink RX0 31 "CourierBees$Bee" "carries" "I") (by decide +kernel)) (fun _ h9 => h9) (gFv_i (Or.inl rfl)) dX0_deliver_12 ?_
  refine lv_iconst (v := 1) hx hb dX0_deliver_15 (by decide) ?_
  refine lv_isub hx hb dX0_deliver_16 ?_
  obtain ⟨y3, e4, hF⟩ := g_let hF
  rw [e4]
  refine g_puti hx hb hts hiX0 tyX0 tyX0_ok nmX0 hown hK hP hS 0 rfl (by decide) h2 6 (by decide) (hts (.fieldLink RX0 31 "CourierBees$Bee" "carries" "I") (by decide +kernel)) (fun _ h9 => h9) (Or.inl rfl) (Or.inl rfl) rfl rfl dX0_deliver_17 (fun H locs hP hS => ?_)
  refine lv_aload_n hx hb dX0_deliver_20 rfl (lv_at hl 0 rfl) ?_
  refine lv_dup hx hb dX0_deliver_21 rfl ?_
  refine g_get hx hb hts hiX0 hown hK hP 0 rfl (by decide) h2 8 (by decide) (hts (.fieldLink RX0 38 "CourierBees$Bee" "delivered" "I") (by decide +kernel)) (fun _ h9 => h9) (gFv_i (Or.inl rfl)) dX0_deliver_22 ?_
  refine lv_iconst (v := 1) hx hb dX0_deliver_25 (by decide) ?_
  refine lv_iadd hx hb dX0_deliver_26 ?_
  obtain ⟨y5, e6, hF⟩ := g_let hF
  rw [e6]
  refine g_puti hx hb hts hiX0 tyX0 tyX0_ok nmX0 hown hK hP hS 0 rfl (by decide) h2 8 (by decide) (hts (.fieldLink RX0 38 "CourierBees$Bee" "delivered" "I") (by decide +kernel)) (fun _ h9 => h9) (Or.inl rfl) (Or.inl rfl) rfl rfl dX0_deliver_27 (fun H locs hP hS => ?_)
  refine lv_aload_n hx hb dX0_deliver_30 rfl (lv_at hl 0 rfl) ?_
  refine lv_iconst (v := 1) hx hb dX0_deliver_31 (by decide) ?_
  obtain ⟨g8, h7, hF⟩ := g_bind hF
  refine g_callv (va_runV (As := [.int ((1 : Int32))]) (rest := []) ⟨hx, hb, hml, hown, hts⟩ (k0_addHonour l D base (gPI (gPI (gPI (gPI g a1 2 ((-1 : Int32))) a1 3 x2) a0 6 y3) a0 8 y5) a0 ((1 : Int32)) g8 h7) (cwV 1 hts gX0_deliver_X0_addHonour rfl rfl rfl (by decide +kernel) ⟨Nat.le_of_ble_eq_true rfl, Nat.le_of_ble_eq_true rfl⟩) (gC.preV hE hP hS 0 rfl (by decide) h2 [.int ((1 : Int32))]) rfl rfl hl.1 rfl (lv_room (Nat.le_of_ble_eq_true rfl)) dX0_deliver_32 ⟨(Nat.le_of_ble_eq_true rfl), (Nat.le_of_ble_eq_true rfl)⟩) hS (fun H locs hP hS => ?_)
  exact g_retV hx hb hr hlocks hF hP hS (Nat.le_of_ble_eq_true rfl) (Nat.le_of_ble_eq_true rfl) dX0_deliver_35
set_option maxHeartbeats 4000000 in
set_option maxRecDepth 100000 in
theorem k0_restsNow (l : Launch) (D : va_G) (base : Nat) (g : g_H) (a0 : Nat) (x1 : Int32) (rr : Int32) (gz : g_H) (hF : f0_restsNow g a0 x1 = some (rr, gz)) : Met l yX0_restsNow wsX0_restsNow ({ frames := 2, cells := 0, slots := 0, locals := 45 } : Room) (va_Pc [.ref a0, .int x1] (gC base D g)) (gQi base D rr gz) 0 0 (gA base) := by
  refine g_met (cc := cX0_restsNow) (maxL := 2) (ret := (some .boolean)) (lst := [(0, .ref a0), (1, .int x1)]) (by decide) rfl (Nat.le_of_ble_eq_true rfl) rfl ?_
  intro p e s m args below meth c ls hx hb hr hml hown hlocks hname hts hE hP hl
  have hown : s.vm.findClass RX0 = some m.cls := hown
  have hK := hE.1
  have hov := hE.2.2.2.2.2.2.2.1
  have hbz := hE.2.2.2.2.2.2.2.2.2.2.2.2
  have hS : va_S (gA base) s.heap s.heap [] := va_S.rf
  have hiX0 : ∀ w ∈ wsX00, w ∈ wsX0_restsNow := by decide +kernel
  unfold f0_restsNow at hF
  refine lv_aload_n hx hb dX0_restsNow_0 rfl (lv_at hl 0 rfl) ?_
  obtain ⟨h1, hF⟩ := g_if hF
  refine g_get hx hb hts hiX0 hown hK hP 0 rfl (by decide) h1 7 (by decide) (hts (.fieldLink RX0 34 "CourierBees$Bee" "rests" "Z") (by decide +kernel)) (fun _ h9 => h9) (gFv_i (Or.inr rfl)) dX0_restsNow_1 ?_
  refine lv_if_eq (tgt := 32) hx hb dX0_restsNow_4 (by decide) (fun c2 => ?_) (fun c2 => ?_)
  · have hF := g_t c2 hF
    refine lv_aload_n hx hb dX0_restsNow_32 rfl (lv_at hl 0 rfl) ?_
    refine lv_iload_n hx hb dX0_restsNow_33 rfl (lv_at hl 1 rfl) ?_
    refine lv_if_eq (tgt := 50) hx hb dX0_restsNow_34 (by decide) (fun c3 => ?_) (fun c3 => ?_)
    · have hF := g_t c3 hF
      refine lv_iconst (v := 0) hx hb dX0_restsNow_50 (by decide) ?_
      refine g_puti hx hb hts hiX0 tyX0 tyX0_ok nmX0 hown hK hP hS 0 rfl (by decide) h1 7 (by decide) (hts (.fieldLink RX0 34 "CourierBees$Bee" "rests" "Z") (by decide +kernel)) (fun _ h9 => h9) (Or.inl rfl) (Or.inr rfl) (g_bz (Or.inl rfl)).1 (g_bz (Or.inl rfl)).2 dX0_restsNow_51 (fun H locs hP hS => ?_)
      refine lv_aload_n hx hb dX0_restsNow_54 rfl (lv_at hl 0 rfl) ?_
      refine g_get hx hb hts hiX0 hown hK hP 0 rfl (by decide) h1 7 (by decide) (hts (.fieldLink RX0 34 "CourierBees$Bee" "rests" "Z") (by decide +kernel)) (fun _ h9 => h9) (gFv_i (Or.inr rfl)) dX0_restsNow_55 ?_
      obtain ⟨h4, hF⟩ := g_if hF
      exact g_retZ hx hb hr h4 hlocks hF hP hS (Nat.le_of_ble_eq_true rfl) (Nat.le_of_ble_eq_true rfl) dX0_restsNow_58
    · have hF := g_f c3 hF
      refine lv_aload_n hx hb dX0_restsNow_37 rfl (lv_at hl 0 rfl) ?_
      refine g_get hx hb hts hiX0 hown hK hP 0 rfl (by decide) h1 4 (by decide) (hts (.fieldLink RX0 25 "CourierBees$Bee" "strength" "I") (by decide +kernel)) (fun _ h9 => h9) (gFv_i (Or.inl rfl)) dX0_restsNow_38 ?_
      refine lv_bipush (v := 10) hx hb dX0_restsNow_41 (by decide) ?_
      refine lv_icmp_ge (tgt := 50) hx hb dX0_restsNow_43 (by decide) (fun c5 => ?_) (fun c5 => ?_)
      · have hF := g_t c5 hF
        refine lv_iconst (v := 0) hx hb dX0_restsNow_50 (by decide) ?_
        refine g_puti hx hb hts hiX0 tyX0 tyX0_ok nmX0 hown hK hP hS 0 rfl (by decide) h1 7 (by decide) (hts (.fieldLink RX0 34 "CourierBees$Bee" "rests" "Z") (by decide +kernel)) (fun _ h9 => h9) (Or.inl rfl) (Or.inr rfl) (g_bz (Or.inl rfl)).1 (g_bz (Or.inl rfl)).2 dX0_restsNow_51 (fun H locs hP hS => ?_)
        refine lv_aload_n hx hb dX0_restsNow_54 rfl (lv_at hl 0 rfl) ?_
        refine g_get hx hb hts hiX0 hown hK hP 0 rfl (by decide) h1 7 (by decide) (hts (.fieldLink RX0 34 "CourierBees$Bee" "rests" "Z") (by decide +kernel)) (fun _ h9 => h9) (gFv_i (Or.inr rfl)) dX0_restsNow_55 ?_
        obtain ⟨h6, hF⟩ := g_if hF
        exact g_retZ hx hb hr h6 hlocks hF hP hS (Nat.le_of_ble_eq_true rfl) (Nat.le_of_ble_eq_true rfl) dX0_restsNow_58
      · have hF := g_f c5 hF
        refine lv_iconst (v := 1) hx hb dX0_restsNow_46 (by decide) ?_
        refine lv_goto (tgt := 51) hx hb dX0_restsNow_47 (by decide) ?_
        refine g_puti hx hb hts hiX0 tyX0 tyX0_ok nmX0 hown hK hP hS 0 rfl (by decide) h1 7 (by decide) (hts (.fieldLink RX0 34 "CourierBees$Bee" "rests" "Z") (by decide +kernel)) (fun _ h9 => h9) (Or.inl rfl) (Or.inr rfl) (g_bz (Or.inr rfl)).1 (g_bz (Or.inr rfl)).2 dX0_restsNow_51 (fun H locs hP hS => ?_)
        refine lv_aload_n hx hb dX0_restsNow_54 rfl (lv_at hl 0 rfl) ?_
        refine g_get hx hb hts hiX0 hown hK hP 0 rfl (by decide) h1 7 (by decide) (hts (.fieldLink RX0 34 "CourierBees$Bee" "rests" "Z") (by decide +kernel)) (fun _ h9 => h9) (gFv_i (Or.inr rfl)) dX0_restsNow_55 ?_
        obtain ⟨h7, hF⟩ := g_if hF
        exact g_retZ hx hb hr h7 hlocks hF hP hS (Nat.le_of_ble_eq_true rfl) (Nat.le_of_ble_eq_true rfl) dX0_restsNow_58
  · have hF := g_f c2 hF
    refine lv_aload_n hx hb dX0_restsNow_7 rfl (lv_at hl 0 rfl) ?_
    refine lv_iconst (v := 3) hx hb dX0_restsNow_8 (by decide) ?_
    obtain ⟨g9, h8, hF⟩ := g_bind hF
    refine g_callv (va_runV (As := [.int ((3 : Int32))]) (rest := []) ⟨hx, hb, hml, hown, hts⟩ (k0_addStrength l D base g a0 ((3 : Int32)) g9 h8) (cwV 1 hts gX0_restsNow_X0_addStrength rfl rfl rfl (by decide +kernel) ⟨Nat.le_of_ble_eq_true rfl, Nat.le_of_ble_eq_true rfl⟩) (gC.preV hE hP hS 0 rfl (by decide) h1 [.int ((3 : Int32))]) rfl rfl hl.1 rfl (lv_room (Nat.le_of_ble_eq_true rfl)) dX0_restsNow_9 ⟨(Nat.le_of_ble_eq_true rfl), (Nat.le_of_ble_eq_true rfl)⟩) hS (fun H locs hP hS => ?_)
    refine lv_aload_n hx hb dX0_restsNow_12 rfl (lv_at hl 0 rfl) ?_
    refine lv_aload_n hx hb dX0_restsNow_13 rfl (lv_at hl 0 rfl) ?_
    obtain ⟨h11, hF⟩ := g_if hF
    refine g_get hx hb hts hiX0 hown hK hP 0 rfl (by decide) h11 4 (by decide) (hts (.fieldLink RX0 25 "CourierBees$Bee" "strength" "I") (by decide +kernel)) (fun _ h9 => h9) (gFv_i (Or.inl rfl)) dX0_restsNow_14 ?_
    refine lv_bipush (v := 20) hx hb dX0_restsNow_17 (by decide) ?_
    refine lv_icmp_ge (tgt := 26) hx hb dX0_restsNow_19 (by decide) (fun c12 => ?_) (fun c12 => ?_)
    · have hF := g_t c12 hF
      refine lv_iconst (v := 0) hx hb dX0_restsNow_26 (by decide) ?_
      refine g_puti hx hb hts hiX0 tyX0 tyX0_ok nmX0 hown hK hP hS 0 rfl (by decide) h11 7 (by decide) (hts (.fieldLink RX0 34 "CourierBees$Bee" "rests" "Z") (by decide +kernel)) (fun _ h9 => h9) (Or.inl rfl) (Or.inr rfl) (g_bz (Or.inl rfl)).1 (g_bz (Or.inl rfl)).2 dX0_restsNow_27 (fun H locs hP hS => ?_)
      refine lv_iconst (v := 1) hx hb dX0_restsNow_30 (by decide) ?_
      exact g_retZ hx hb hr (Or.inr rfl) hlocks hF hP hS (Nat.le_of_ble_eq_true rfl) (Nat.le_of_ble_eq_true rfl) dX0_restsNow_31
    · have hF := g_f c12 hF
      refine lv_iconst (v := 1) hx hb dX0_restsNow_22 (by decide) ?_
      refine lv_goto (tgt := 27) hx hb dX0_restsNow_23 (by decide) ?_
      refine g_puti hx hb hts hiX0 tyX0 tyX0_ok nmX0 hown hK hP hS 0 rfl (by decide) h11 7 (by decide) (hts (.fieldLink RX0 34 "CourierBees$Bee" "rests" "Z") (by decide +kernel)) (fun _ h9 => h9) (Or.inl rfl) (Or.inr rfl) (g_bz (Or.inr rfl)).1 (g_bz (Or.inr rfl)).2 dX0_restsNow_27 (fun H locs hP hS => ?_)
      refine lv_iconst (v := 1) hx hb dX0_restsNow_30 (by decide) ?_
      exact g_retZ hx hb hr (Or.inr rfl) hlocks hF hP hS (Nat.le_of_ble_eq_true rfl) (Nat.le_of_ble_eq_true rfl) dX0_restsNow_31
set_option maxHeartbeats 4000000 in
set_option maxRecDepth 100000 in
theorem k0_turnAtEnd (l : Launch) (D : va_G) (base : Nat) (g : g_H) (a0 : Nat) (gz : g_H) (hF : f0_turnAtEnd g a0 = some gz) : Met l yX0_turnAtEnd wsX0_turnAtEnd ({ frames := 1, cells := 0, slots := 0, locals := 20 } : Room) (va_Pc [.ref a0] (gC base D g)) (gQv base D gz) 0 0 (gA base) := by
  refine g_met (cc := cX0_turnAtEnd) (maxL := 2) (ret := none) (lst := [(0, .ref a0)]) (by decide) rfl (Nat.le_of_ble_eq_true rfl) rfl ?_
  intro p e s m args below meth c ls hx hb hr hml hown hlocks hname hts hE hP hl
  have hown : s.vm.findClass RX0 = some m.cls := hown
  have hK := hE.1
  have hov := hE.2.2.2.2.2.2.2.1
  have hbz := hE.2.2.2.2.2.2.2.2.2.2.2.2
  have hS : va_S (gA base) s.heap s.heap [] := va_S.rf
  have hiX0 : ∀ w ∈ wsX00, w ∈ wsX0_turnAtEnd := by decide +kernel
  have HB20 : ∀ (g : g_H) (a0 : Nat) (s0 : Int32) (H : Heap) (locs : List Loc) (ls : Array Slot), f0_turnAtEnd_20 g a0 s0 = some gz → gP base D s g H → va_S (gA base) s.heap H locs → lv_has ls 2 [(0, .ref a0)] → W p l e ({ frames := 1, cells := 0, slots := 0, locals := 20 } : Room) s m args below meth c H locs 0 0 (MQ below (gQv base D gz) args s 0 0 (gA base)) (F0 m 20 ls [.int s0]) := by
    intro g a0 s0 H locs ls hF hP hS hl
    unfold f0_turnAtEnd_20 at hF
    refine lv_istore_n (lv' := [(1, .int s0), (0, .ref a0)]) hx hb dX0_turnAtEnd_20 rfl hl (by decide) rfl (fun ls hl => ?_)
    refine lv_aload_n hx hb dX0_turnAtEnd_21 rfl (lv_at hl 1 rfl) ?_
    obtain ⟨h3, hF⟩ := g_if hF
    refine g_get hx hb hts hiX0 hown hK hP 0 rfl (by decide) h3 2 (by decide) (hts (.fieldLink RX0 49 "CourierBees$Bee" "place" "I") (by decide +kernel)) (fun _ h9 => h9) (gFv_i (Or.inl rfl)) dX0_turnAtEnd_22 ?_
    refine lv_iload_n hx hb dX0_turnAtEnd_25 rfl (lv_at hl 0 rfl) ?_
    refine lv_icmp_ne (tgt := 45) hx hb dX0_turnAtEnd_26 (by decide) (fun c4 => ?_) (fun c4 => ?_)
    · have hF := g_f c4 hF
      exact g_retV hx hb hr hlocks hF hP hS (Nat.le_of_ble_eq_true rfl) (Nat.le_of_ble_eq_true rfl) dX0_turnAtEnd_45
    · have hF := g_t c4 hF
      refine lv_aload_n hx hb dX0_turnAtEnd_29 rfl (lv_at hl 1 rfl) ?_
      refine lv_aload_n hx hb dX0_turnAtEnd_30 rfl (lv_at hl 1 rfl) ?_
      refine g_get hx hb hts hiX0 hown hK hP 0 rfl (by decide) h3 9 (by decide) (hts (.fieldLink RX0 52 "CourierBees$Bee" "onward" "Z") (by decide +kernel)) (fun _ h9 => h9) (gFv_i (Or.inr rfl)) dX0_turnAtEnd_31 ?_
      refine lv_if_ne (tgt := 41) hx hb dX0_turnAtEnd_34 (by decide) (fun c5 => ?_) (fun c5 => ?_)
      · have hF := g_f c5 hF
        refine lv_iconst (v := 0) hx hb dX0_turnAtEnd_41 (by decide) ?_
        refine g_puti hx hb hts hiX0 tyX0 tyX0_ok nmX0 hown hK hP hS 0 rfl (by decide) h3 9 (by decide) (hts (.fieldLink RX0 52 "CourierBees$Bee" "onward" "Z") (by decide +kernel)) (fun _ h9 => h9) (Or.inl rfl) (Or.inr rfl) (g_bz (Or.inl rfl)).1 (g_bz (Or.inl rfl)).2 dX0_turnAtEnd_42 (fun H locs hP hS => ?_)
        exact g_retV hx hb hr hlocks hF hP hS (Nat.le_of_ble_eq_true rfl) (Nat.le_of_ble_eq_true rfl) dX0_turnAtEnd_45
      · have hF := g_t c5 hF
        refine lv_iconst (v := 1) hx hb dX0_turnAtEnd_37 (by decide) ?_
        refine lv_goto (tgt := 42) hx hb dX0_turnAtEnd_38 (by decide) ?_
        refine g_puti hx hb hts hiX0 tyX0 tyX0_ok nmX0 hown hK hP hS 0 rfl (by decide) h3 9 (by decide) (hts (.fieldLink RX0 52 "CourierBees$Bee" "onward" "Z") (by decide +kernel)) (fun _ h9 => h9) (Or.inl rfl) (Or.inr rfl) (g_bz (Or.inr rfl)).1 (g_bz (Or.inr rfl)).2 dX0_turnAtEnd_42 (fun H locs hP hS => ?_)
        exact g_retV hx hb hr hlocks hF hP hS (Nat.le_of_ble_eq_true rfl) (Nat.le_of_ble_eq_true rfl) dX0_turnAtEnd_45
  unfold f0_turnAtEnd at hF
  refine lv_aload_n hx hb dX0_turnAtEnd_0 rfl (lv_at hl 0 rfl) ?_
  obtain ⟨h1, hF⟩ := g_if hF
  refine g_get hx hb hts hiX0 hown hK hP 0 rfl (by decide) h1 9 (by decide) (hts (.fieldLink RX0 52 "CourierBees$Bee" "onward" "Z") (by decide +kernel)) (fun _ h9 => h9) (gFv_i (Or.inr rfl)) dX0_turnAtEnd_1 ?_
  refine lv_if_eq (tgt := 19) hx hb dX0_turnAtEnd_4 (by decide) (fun c2 => ?_) (fun c2 => ?_)
  · have hF := g_t c2 hF
    refine lv_iconst (v := 0) hx hb dX0_turnAtEnd_19 (by decide) ?_
    exact HB20 _ _ _ _ _ _ hF hP hS (lv_sub hl [0] rfl)
  · have hF := g_f c2 hF
    refine lv_aload_n hx hb dX0_turnAtEnd_7 rfl (lv_at hl 0 rfl) ?_
    obtain ⟨q6, hq7, hF⟩ := g_bind hF
    refine g_get hx hb hts hiX0 hown hK hP 0 rfl (by decide) h1 1 (by decide) (hts (.fieldLink RX0 18 "CourierBees$Bee" "route" "LCourierBees$Route;") (by decide +kernel)) (fun _ h9 => h9) ((gFv_r (by decide)).trans (congrArg va_rf hq7)) dX0_turnAtEnd_8 ?_
    obtain ⟨h9, hF⟩ := g_if hF
    obtain ⟨v11, g10, h8, hF⟩ := g_bind2 hF
    refine g_calli (va_runV (As := []) (rest := []) ⟨hx, hb, hml, hown, hts⟩ (k4_length l D base g q6 v11 g10 h8) (cwV 0 hts gX0_turnAtEnd_X4_length rfl rfl rfl (by decide +kernel) ⟨Nat.le_of_ble_eq_true rfl, Nat.le_of_ble_eq_true rfl⟩) (gC.preV hE hP hS 4 rfl (by decide) h9 []) rfl rfl hl.1 rfl (lv_room (Nat.le_of_ble_eq_true rfl)) dX0_turnAtEnd_11 ⟨(Nat.le_of_ble_eq_true rfl), (Nat.le_of_ble_eq_true rfl)⟩) hS (fun H locs hP hS => ?_)
    refine lv_iconst (v := 1) hx hb dX0_turnAtEnd_14 (by decide) ?_
    refine lv_isub hx hb dX0_turnAtEnd_15 ?_
    refine lv_goto (tgt := 20) hx hb dX0_turnAtEnd_16 (by decide) ?_
    exact HB20 _ _ _ _ _ _ hF hP hS (lv_sub hl [0] rfl)
set_option maxHeartbeats 4000000 in
set_option maxRecDepth 100000 in
theorem k0_nextLane (l : Launch) (D : va_G) (base : Nat) (g : g_H) (a0 : Nat) (rr : Int32) (gz : g_H) (hF : f0_nextLane g a0 = some (rr, gz)) : Met l yX0_nextLane wsX0_nextLane ({ frames := 1, cells := 0, slots := 0, locals := 21 } : Room) (va_Pc [.ref a0] (gC base D g)) (gQi base D rr gz) 0 0 (gA base) := by
  refine g_met (cc := cX0_nextLane) (maxL := 1) (ret := (some .int)) (lst := [(0, .ref a0)]) (by decide) rfl (Nat.le_of_ble_eq_true rfl) rfl ?_
  intro p e s m args below meth c ls hx hb hr hml hown hlocks hname hts hE hP hl
  have hown : s.vm.findClass RX0 = some m.cls := hown
  have hK := hE.1
  have hov := hE.2.2.2.2.2.2.2.1
  have hbz := hE.2.2.2.2.2.2.2.2.2.2.2.2
  have hS : va_S (gA base) s.heap s.heap [] := va_S.rf
  have hiX0 : ∀ w ∈ wsX00, w ∈ wsX0_nextLane := by decide +kernel
  unfold f0_nextLane at hF
  refine lv_aload_n hx hb dX0_nextLane_0 rfl (lv_at hl 0 rfl) ?_
  obtain ⟨h1, hF⟩ := g_if hF
  obtain ⟨q2, hq3, hF⟩ := g_bind hF
  refine g_get hx hb hts hiX0 hown hK hP 0 rfl (by decide) h1 1 (by decide) (hts (.fieldLink RX0 18 "CourierBees$Bee" "route" "LCourierBees$Route;") (by decide +kernel)) (fun _ h9 => h9) ((gFv_r (by decide)).trans (congrArg va_rf hq3)) dX0_nextLane_1 ?_
  refine lv_aload_n hx hb dX0_nextLane_4 rfl (lv_at hl 0 rfl) ?_
  refine g_get hx hb hts hiX0 hown hK hP 0 rfl (by decide) h1 9 (by decide) (hts (.fieldLink RX0 52 "CourierBees$Bee" "onward" "Z") (by decide +kernel)) (fun _ h9 => h9) (gFv_i (Or.inr rfl)) dX0_nextLane_5 ?_
  refine lv_if_eq (tgt := 18) hx hb dX0_nextLane_8 (by decide) (fun c4 => ?_) (fun c4 => ?_)
  · have hF := g_t c4 hF
    refine lv_aload_n hx hb dX0_nextLane_18 rfl (lv_at hl 0 rfl) ?_
    refine g_get hx hb hts hiX0 hown hK hP 0 rfl (by decide) h1 2 (by decide) (hts (.fieldLink RX0 49 "CourierBees$Bee" "place" "I") (by decide +kernel)) (fun _ h9 => h9) (gFv_i (Or.inl rfl)) dX0_nextLane_19 ?_
    refine lv_iconst (v := 1) hx hb dX0_nextLane_22 (by decide) ?_
    refine lv_isub hx hb dX0_nextLane_23 ?_
    obtain ⟨h6, hF⟩ := g_if hF
    obtain ⟨v8, g7, h5, hF⟩ := g_bind2 hF
    refine g_calli (va_runV (As := [.int ((gI g a0 2) - ((1 : Int32)))]) (rest := []) ⟨hx, hb, hml, hown, hts⟩ (k4_laneAt l D base g q2 ((gI g a0 2) - ((1 : Int32))) v8 g7 h5) (cwV 1 hts gX0_nextLane_X4_laneAt rfl rfl rfl (by decide +kernel) ⟨Nat.le_of_ble_eq_true rfl, Nat.le_of_ble_eq_true rfl⟩) (gC.preV hE hP hS 4 rfl (by decide) h6 [.int ((gI g a0 2) - ((1 : Int32)))]) rfl rfl hl.1 rfl (lv_room (Nat.le_of_ble_eq_true rfl)) dX0_nextLane_24 ⟨(Nat.le_of_ble_eq_true rfl), (Nat.le_of_ble_eq_true rfl)⟩) hS (fun H locs hP hS => ?_)
    exact g_retI hx hb hr hlocks hF hP hS (Nat.le_of_ble_eq_true rfl) (Nat.le_of_ble_eq_true rfl) dX0_nextLane_27
  · have hF := g_f c4 hF
    refine lv_aload_n hx hb dX0_nextLane_11 rfl (lv_at hl 0 rfl) ?_
    refine g_get hx hb hts hiX0 hown hK hP 0 rfl (by decide) h1 2 (by decide) (hts (.fieldLink RX0 49 "CourierBees$Bee" "place" "I") (by decide +kernel)) (fun _ h9 => h9) (gFv_i (Or.inl rfl)) dX0_nextLane_12 ?_
    refine lv_goto (tgt := 24) hx hb dX0_nextLane_15 (by decide) ?_
    obtain ⟨h10, hF⟩ := g_if hF
    obtain ⟨v12, g11, h9, hF⟩ := g_bind2 hF
    refine g_calli (va_runV (As := [.int (gI g a0 2)]) (rest := []) ⟨hx, hb, hml, hown, hts⟩ (k4_laneAt l D base g q2 (gI g a0 2) v12 g11 h9) (cwV 1 hts gX0_nextLane_X4_laneAt rfl rfl rfl (by decide +kernel) ⟨Nat.le_of_ble_eq_true rfl, Nat.le_of_ble_eq_true rfl⟩) (gC.preV hE hP hS 4 rfl (by decide) h10 [.int (gI g a0 2)]) rfl rfl hl.1 rfl (lv_room (Nat.le_of_ble_eq_true rfl)) dX0_nextLane_24 ⟨(Nat.le_of_ble_eq_true rfl), (Nat.le_of_ble_eq_true rfl)⟩) hS (fun H locs hP hS => ?_)
    exact g_retI hx hb hr hlocks hF hP hS (Nat.le_of_ble_eq_true rfl) (Nat.le_of_ble_eq_true rfl) dX0_nextLane_27
set_option maxHeartbeats 4000000 in
set_option maxRecDepth 100000 in
theorem k0_flyOrStay (l : Launch) (D : va_G) (base : Nat) (g : g_H) (a0 : Nat) (x1 : Int32) (x2 : Int32) (gz : g_H) (hF : f0_flyOrStay g a0 x1 x2 = some gz) : Met l yX0_flyOrStay wsX0_flyOrStay ({ frames := 2, cells := 0, slots := 0, locals := 45 } : Room) (va_Pc [.ref a0, .int x1, .int x2] (gC base D g)) (gQv base D gz) 0 0 (gA base) := by
  refine g_met (cc := cX0_flyOrStay) (maxL := 3) (ret := none) (lst := [(0, .ref a0), (1, .int x1), (2, .int x2)]) (by decide) rfl (Nat.le_of_ble_eq_true rfl) rfl ?_
  intro p e s m args below meth c ls hx hb hr hml hown hlocks hname hts hE hP hl
  have hown : s.vm.findClass RX0 = some m.cls := hown
  have hK := hE.1
  have hov := hE.2.2.2.2.2.2.2.1
  have hbz := hE.2.2.2.2.2.2.2.2.2.2.2.2
  have hS : va_S (gA base) s.heap s.heap [] := va_S.rf
  have hiX0 : ∀ w ∈ wsX00, w ∈ wsX0_flyOrStay := by decide +kernel
  have HB51 : ∀ (g : g_H) (a0 : Nat) (H : Heap) (locs : List Loc) (ls : Array Slot), f0_flyOrStay_51 g a0 = some gz → gP base D s g H → va_S (gA base) s.heap H locs → lv_has ls 3 [(0, .ref a0)] → W p l e ({ frames := 2, cells := 0, slots := 0, locals := 45 } : Room) s m args below meth c H locs 0 0 (MQ below (gQv base D gz) args s 0 0 (gA base)) (F0 m 51 ls []) := by
    intro g a0 H locs ls hF hP hS hl
    unfold f0_flyOrStay_51 at hF
    refine lv_aload_n hx hb dX0_flyOrStay_51 rfl (lv_at hl 0 rfl) ?_
    refine lv_iconst (v := 1) hx hb dX0_flyOrStay_52 (by decide) ?_
    obtain ⟨h3, hF⟩ := g_if hF
    obtain ⟨g4, h2, hF⟩ := g_bind hF
    refine g_callv (va_runV (As := [.int ((1 : Int32))]) (rest := []) ⟨hx, hb, hml, hown, hts⟩ (k0_addStrength l D base g a0 ((1 : Int32)) g4 h2) (cwV 1 hts gX0_flyOrStay_X0_addStrength rfl rfl rfl (by decide +kernel) ⟨Nat.le_of_ble_eq_true rfl, Nat.le_of_ble_eq_true rfl⟩) (gC.preV hE hP hS 0 rfl (by decide) h3 [.int ((1 : Int32))]) rfl rfl hl.1 rfl (lv_room (Nat.le_of_ble_eq_true rfl)) dX0_flyOrStay_53 ⟨(Nat.le_of_ble_eq_true rfl), (Nat.le_of_ble_eq_true rfl)⟩) hS (fun H locs hP hS => ?_)
    exact g_retV hx hb hr hlocks hF hP hS (Nat.le_of_ble_eq_true rfl) (Nat.le_of_ble_eq_true rfl) dX0_flyOrStay_56
  unfold f0_flyOrStay at hF
  refine lv_iload_n hx hb dX0_flyOrStay_0 rfl (lv_at hl 1 rfl) ?_
  refine lv_if_eq (tgt := 51) hx hb dX0_flyOrStay_1 (by decide) (fun c1 => ?_) (fun c1 => ?_)
  · have hF := g_t c1 hF
    exact HB51 _ _ _ _ _ hF hP hS (lv_sub hl [0] rfl)
  · have hF := g_f c1 hF
    refine lv_aload_n hx hb dX0_flyOrStay_4 rfl (lv_at hl 0 rfl) ?_
    obtain ⟨h6, hF⟩ := g_if hF
    refine g_get hx hb hts hiX0 hown hK hP 0 rfl (by decide) h6 4 (by decide) (hts (.fieldLink RX0 25 "CourierBees$Bee" "strength" "I") (by decide +kernel)) (fun _ h9 => h9) (gFv_i (Or.inl rfl)) dX0_flyOrStay_5 ?_
    refine lv_iload_n hx hb dX0_flyOrStay_8 rfl (lv_at hl 2 rfl) ?_
    refine lv_icmp_lt (tgt := 51) hx hb dX0_flyOrStay_9 (by decide) (fun c7 => ?_) (fun c7 => ?_)
    · have hF := g_t c7 hF
      exact HB51 _ _ _ _ _ hF hP hS (lv_sub hl [0] rfl)
    · have hF := g_f c7 hF
      refine lv_aload_n hx hb dX0_flyOrStay_12 rfl (lv_at hl 0 rfl) ?_
      refine lv_dup hx hb dX0_flyOrStay_13 rfl ?_
      refine g_get hx hb hts hiX0 hown hK hP 0 rfl (by decide) h6 4 (by decide) (hts (.fieldLink RX0 25 "CourierBees$Bee" "strength" "I") (by decide +kernel)) (fun _ h9 => h9) (gFv_i (Or.inl rfl)) dX0_flyOrStay_14 ?_
      refine lv_iload_n hx hb dX0_flyOrStay_17 rfl (lv_at hl 2 rfl) ?_
      refine lv_isub hx hb dX0_flyOrStay_18 ?_
      refine g_puti hx hb hts hiX0 tyX0 tyX0_ok nmX0 hown hK hP hS 0 rfl (by decide) h6 4 (by decide) (hts (.fieldLink RX0 25 "CourierBees$Bee" "strength" "I") (by decide +kernel)) (fun _ h9 => h9) (Or.inl rfl) (Or.inl rfl) rfl rfl dX0_flyOrStay_19 (fun H locs hP hS => ?_)
      refine lv_aload_n hx hb dX0_flyOrStay_22 rfl (lv_at hl 0 rfl) ?_
      refine lv_iload_n hx hb dX0_flyOrStay_23 rfl (lv_at hl 2 rfl) ?_
      refine g_puti hx hb hts hiX0 tyX0 tyX0_ok nmX0 hown hK hP hS 0 rfl (by decide) h6 3 (by decide) (hts (.fieldLink RX0 22 "CourierBees$Bee" "left" "I") (by decide +kernel)) (fun _ h9 => h9) (Or.inl rfl) (Or.inl rfl) rfl rfl dX0_flyOrStay_24 (fun H locs hP hS => ?_)
      refine lv_aload_n hx hb dX0_flyOrStay_27 rfl (lv_at hl 0 rfl) ?_
      refine lv_dup hx hb dX0_flyOrStay_28 rfl ?_
      refine g_get hx hb hts hiX0 hown hK hP 0 rfl (by decide) h6 2 (by decide) (hts (.fieldLink RX0 49 "CourierBees$Bee" "place" "I") (by decide +kernel)) (fun _ h9 => h9) (gFv_i (Or.inl rfl)) dX0_flyOrStay_29 ?_
      refine lv_aload_n hx hb dX0_flyOrStay_32 rfl (lv_at hl 0 rfl) ?_
      refine g_get hx hb hts hiX0 hown hK hP 0 rfl (by decide) h6 9 (by decide) (hts (.fieldLink RX0 52 "CourierBees$Bee" "onward" "Z") (by decide +kernel)) (fun _ h9 => h9) (gFv_i (Or.inr rfl)) dX0_flyOrStay_33 ?_
      refine lv_if_eq (tgt := 43) hx hb dX0_flyOrStay_36 (by decide) (fun c8 => ?_) (fun c8 => ?_)
      · have hF := g_t c8 hF
        refine lv_iconst (v := (-1)) hx hb dX0_flyOrStay_43 (by decide) ?_
        refine lv_iadd hx hb dX0_flyOrStay_44 ?_
        obtain ⟨y9, e10, hF⟩ := g_let hF
        rw [e10]
        refine g_puti hx hb hts hiX0 tyX0 tyX0_ok nmX0 hown hK hP hS 0 rfl (by decide) h6 2 (by decide) (hts (.fieldLink RX0 49 "CourierBees$Bee" "place" "I") (by decide +kernel)) (fun _ h9 => h9) (Or.inl rfl) (Or.inl rfl) rfl rfl dX0_flyOrStay_45 (fun H locs hP hS => ?_)
        refine lv_goto (tgt := 56) hx hb dX0_flyOrStay_48 (by decide) ?_
        exact g_retV hx hb hr hlocks hF hP hS (Nat.le_of_ble_eq_true rfl) (Nat.le_of_ble_eq_true rfl) dX0_flyOrStay_56
      · have hF := g_f c8 hF
        refine lv_iconst (v := 1) hx hb dX0_flyOrStay_39 (by decide) ?_
        refine lv_goto (tgt := 44) hx hb dX0_flyOrStay_40 (by decide) ?_
        refine lv_iadd hx hb dX0_flyOrStay_44 ?_
        obtain ⟨y11, e12, hF⟩ := g_let hF
        rw [e12]
        refine g_puti hx hb hts hiX0 tyX0 tyX0_ok nmX0 hown hK hP hS 0 rfl (by decide) h6 2 (by decide) (hts (.fieldLink RX0 49 "CourierBees$Bee" "place" "I") (by decide +kernel)) (fun _ h9 => h9) (Or.inl rfl) (Or.inl rfl) rfl rfl dX0_flyOrStay_45 (fun H locs hP hS => ?_)
        refine lv_goto (tgt := 56) hx hb dX0_flyOrStay_48 (by decide) ?_
        exact g_retV hx hb hr hlocks hF hP hS (Nat.le_of_ble_eq_true rfl) (Nat.le_of_ble_eq_true rfl) dX0_flyOrStay_56
set_option maxHeartbeats 4000000 in
set_option maxRecDepth 100000 in
theorem k0_tell (l : Launch) (D : va_G) (base : Nat) (g : g_H) (a0 : Nat) (x1 : Int32) (rr : Int32) (gz : g_H) (hF : f0_tell g a0 x1 = some (rr, gz)) : Met l yX0_tell wsX0_tell ({ frames := 2, cells := 0, slots := 0, locals := 41 } : Room) (va_Pc [.ref a0, .int x1] (gC base D g)) (gQi base D rr gz) 0 0 (gA base) := by
  refine g_met (cc := cX0_tell) (maxL := 2) (ret := (some .int)) (lst := [(0, .ref a0), (1, .int x1)]) (by decide) rfl (Nat.le_of_ble_eq_true rfl) rfl ?_
  intro p e s m args below meth c ls hx hb hr hml hown hlocks hname hts hE hP hl
  have hown : s.vm.findClass RX0 = some m.cls := hown
  have hK := hE.1
  have hov := hE.2.2.2.2.2.2.2.1
  have hbz := hE.2.2.2.2.2.2.2.2.2.2.2.2
  have hS : va_S (gA base) s.heap s.heap [] := va_S.rf
  have hiX0 : ∀ w ∈ wsX00, w ∈ wsX0_tell := by decide +kernel
  unfold f0_tell at hF
  refine lv_iload_n hx hb dX0_tell_0 rfl (lv_at hl 1 rfl) ?_
  by_cases c1 : x1 = (0 : Int32)
  · have hF := g_t c1 hF
    refine lv_tableIn (off := 47) (tgt := 48) hx hb dX0_tell_1 (by rw [c1]; decide) (by rw [c1]; decide) (by rw [c1]; rfl) (by decide) ?_
    refine lv_aload_n hx hb dX0_tell_48 rfl (lv_at hl 0 rfl) ?_
    obtain ⟨h10, hF⟩ := g_if hF
    obtain ⟨v12, g11, h9, hF⟩ := g_bind2 hF
    refine g_calli (va_runV (As := []) (rest := []) ⟨hx, hb, hml, hown, hts⟩ (k0_house l D base g a0 v12 g11 h9) (cwV 0 hts gX0_tell_X0_house rfl rfl rfl (by decide +kernel) ⟨Nat.le_of_ble_eq_true rfl, Nat.le_of_ble_eq_true rfl⟩) (gC.preV hE hP hS 0 rfl (by decide) h10 []) rfl rfl hl.1 rfl (lv_room (Nat.le_of_ble_eq_true rfl)) dX0_tell_49 ⟨(Nat.le_of_ble_eq_true rfl), (Nat.le_of_ble_eq_true rfl)⟩) hS (fun H locs hP hS => ?_)
    exact g_retI hx hb hr hlocks hF hP hS (Nat.le_of_ble_eq_true rfl) (Nat.le_of_ble_eq_true rfl) dX0_tell_52
  · have hF := g_f c1 hF
    by_cases c2 : x1 = (1 : Int32)
    · have hF := g_t c2 hF
      refine lv_tableIn (off := 52) (tgt := 53) hx hb dX0_tell_1 (by rw [c2]; decide) (by rw [c2]; decide) (by rw [c2]; rfl) (by decide) ?_
      refine lv_aload_n hx hb dX0_tell_53 rfl (lv_at hl 0 rfl) ?_
      obtain ⟨h13, hF⟩ := g_if hF
      refine g_get hx hb hts hiX0 hown hK hP 0 rfl (by decide) h13 3 (by decide) (hts (.fieldLink RX0 22 "CourierBees$Bee" "left" "I") (by decide +kernel)) (fun _ h9 => h9) (gFv_i (Or.inl rfl)) dX0_tell_54 ?_
      exact g_retI hx hb hr hlocks hF hP hS (Nat.le_of_ble_eq_true rfl) (Nat.le_of_ble_eq_true rfl) dX0_tell_57
    · have hF := g_f c2 hF
      by_cases c3 : x1 = (2 : Int32)
      · have hF := g_t c3 hF
        refine lv_tableIn (off := 57) (tgt := 58) hx hb dX0_tell_1 (by rw [c3]; decide) (by rw [c3]; decide) (by rw [c3]; rfl) (by decide) ?_
        refine lv_aload_n hx hb dX0_tell_58 rfl (lv_at hl 0 rfl) ?_
        obtain ⟨h14, hF⟩ := g_if hF
        refine g_get hx hb hts hiX0 hown hK hP 0 rfl (by decide) h14 4 (by decide) (hts (.fieldLink RX0 25 "CourierBees$Bee" "strength" "I") (by decide +kernel)) (fun _ h9 => h9) (gFv_i (Or.inl rfl)) dX0_tell_59 ?_
        exact g_retI hx hb hr hlocks hF hP hS (Nat.le_of_ble_eq_true rfl) (Nat.le_of_ble_eq_true rfl) dX0_tell_62
      · have hF := g_f c3 hF
        by_cases c4 : x1 = (3 : Int32)
        · have hF := g_t c4 hF
          refine lv_tableIn (off := 62) (tgt := 63) hx hb dX0_tell_1 (by rw [c4]; decide) (by rw [c4]; decide) (by rw [c4]; rfl) (by decide) ?_
          refine lv_aload_n hx hb dX0_tell_63 rfl (lv_at hl 0 rfl) ?_
          obtain ⟨h15, hF⟩ := g_if hF
          refine g_get hx hb hts hiX0 hown hK hP 0 rfl (by decide) h15 5 (by decide) (hts (.fieldLink RX0 28 "CourierBees$Bee" "honour" "I") (by decide +kernel)) (fun _ h9 => h9) (gFv_i (Or.inl rfl)) dX0_tell_64 ?_
          exact g_retI hx hb hr hlocks hF hP hS (Nat.le_of_ble_eq_true rfl) (Nat.le_of_ble_eq_true rfl) dX0_tell_67
        · have hF := g_f c4 hF
          by_cases c5 : x1 = (4 : Int32)
          · have hF := g_t c5 hF
            refine lv_tableIn (off := 67) (tgt := 68) hx hb dX0_tell_1 (by rw [c5]; decide) (by rw [c5]; decide) (by rw [c5]; rfl) (by decide) ?_
            refine lv_aload_n hx hb dX0_tell_68 rfl (lv_at hl 0 rfl) ?_
            obtain ⟨h16, hF⟩ := g_if hF
            refine g_get hx hb hts hiX0 hown hK hP 0 rfl (by decide) h16 6 (by decide) (hts (.fieldLink RX0 31 "CourierBees$Bee" "carries" "I") (by decide +kernel)) (fun _ h9 => h9) (gFv_i (Or.inl rfl)) dX0_tell_69 ?_
            exact g_retI hx hb hr hlocks hF hP hS (Nat.le_of_ble_eq_true rfl) (Nat.le_of_ble_eq_true rfl) dX0_tell_72
          · have hF := g_f c5 hF
            by_cases c6 : x1 = (5 : Int32)
            · have hF := g_t c6 hF
              refine lv_tableIn (off := 72) (tgt := 73) hx hb dX0_tell_1 (by rw [c6]; decide) (by rw [c6]; decide) (by rw [c6]; rfl) (by decide) ?_
              refine lv_aload_n hx hb dX0_tell_73 rfl (lv_at hl 0 rfl) ?_
              obtain ⟨h17, hF⟩ := g_if hF
              refine g_get hx hb hts hiX0 hown hK hP 0 rfl (by decide) h17 7 (by decide) (hts (.fieldLink RX0 34 "CourierBees$Bee" "rests" "Z") (by decide +kernel)) (fun _ h9 => h9) (gFv_i (Or.inr rfl)) dX0_tell_74 ?_
              refine lv_if_eq (tgt := 84) hx hb dX0_tell_77 (by decide) (fun c18 => ?_) (fun c18 => ?_)
              · have hF := g_t c18 hF
                refine lv_iconst (v := 0) hx hb dX0_tell_84 (by decide) ?_
                exact g_retI hx hb hr hlocks hF hP hS (Nat.le_of_ble_eq_true rfl) (Nat.le_of_ble_eq_true rfl) dX0_tell_85
              · have hF := g_f c18 hF
                refine lv_iconst (v := 1) hx hb dX0_tell_80 (by decide) ?_
                refine lv_goto (tgt := 85) hx hb dX0_tell_81 (by decide) ?_
                exact g_retI hx hb hr hlocks hF hP hS (Nat.le_of_ble_eq_true rfl) (Nat.le_of_ble_eq_true rfl) dX0_tell_85
            · have hF := g_f c6 hF
              by_cases c7 : x1 = (6 : Int32)
              · have hF := g_t c7 hF
                refine lv_tableIn (off := 85) (tgt := 86) hx hb dX0_tell_1 (by rw [c7]; decide) (by rw [c7]; decide) (by rw [c7]; rfl) (by decide) ?_
                refine lv_aload_n hx hb dX0_tell_86 rfl (lv_at hl 0 rfl) ?_
                obtain ⟨h19, hF⟩ := g_if hF
                obtain ⟨q20, hq21, hF⟩ := g_bind hF
                refine g_get hx hb hts hiX0 hown hK hP 0 rfl (by decide) h19 1 (by decide) (hts (.fieldLink RX0 18 "CourierBees$Bee" "route" "LCourierBees$Route;") (by decide +kernel)) (fun _ h9 => h9) ((gFv_r (by decide)).trans (congrArg va_rf hq21)) dX0_tell_87 ?_
                obtain ⟨h23, hF⟩ := g_if hF
                obtain ⟨v25, g24, h22, hF⟩ := g_bind2 hF
                refine g_calli (va_runV (As := []) (rest := []) ⟨hx, hb, hml, hown, hts⟩ (k4_length l D base g q20 v25 g24 h22) (cwV 0 hts gX0_tell_X4_length rfl rfl rfl (by decide +kernel) ⟨Nat.le_of_ble_eq_true rfl, Nat.le_of_ble_eq_true rfl⟩) (gC.preV hE hP hS 4 rfl (by decide) h23 []) rfl rfl hl.1 rfl (lv_room (Nat.le_of_ble_eq_true rfl)) dX0_tell_90 ⟨(Nat.le_of_ble_eq_true rfl), (Nat.le_of_ble_eq_true rfl)⟩) hS (fun H locs hP hS => ?_)
                exact g_retI hx hb hr hlocks hF hP hS (Nat.le_of_ble_eq_true rfl) (Nat.le_of_ble_eq_true rfl) dX0_tell_93
              · have hF := g_f c7 hF
                by_cases c8 : x1 = (7 : Int32)
                · have hF := g_t c8 hF
                  refine lv_tableIn (off := 93) (tgt := 94) hx hb dX0_tell_1 (by rw [c8]; decide) (by rw [c8]; decide) (by rw [c8]; rfl) (by decide) ?_
                  refine lv_aload_n hx hb dX0_tell_94 rfl (lv_at hl 0 rfl) ?_
                  obtain ⟨h26, hF⟩ := g_if hF
                  refine g_get hx hb hts hiX0 hown hK hP 0 rfl (by decide) h26 8 (by decide) (hts (.fieldLink RX0 38 "CourierBees$Bee" "delivered" "I") (by decide +kernel)) (fun _ h9 => h9) (gFv_i (Or.inl rfl)) dX0_tell_95 ?_
                  exact g_retI hx hb hr hlocks hF hP hS (Nat.le_of_ble_eq_true rfl) (Nat.le_of_ble_eq_true rfl) dX0_tell_98
                · have hF := g_f c8 hF
                  refine lv_tableOut (tgt := 99) hx hb dX0_tell_1 (by have h9 := g_out x1 7 (by decide) (fun k hk => by rcases (show k = 0 ∨ k = 1 ∨ k = 2 ∨ k = 3 ∨ k = 4 ∨ k = 5 ∨ k = 6 ∨ k = 7 by omega) with rfl | rfl | rfl | rfl | rfl | rfl | rfl | rfl <;> assumption); omega) (by decide) ?_
                  refine lv_aload_n hx hb dX0_tell_99 rfl (lv_at hl 0 rfl) ?_
                  obtain ⟨h27, hF⟩ := g_if hF
                  refine g_get hx hb hts hiX0 hown hK hP 0 rfl (by decide) h27 9 (by decide) (hts (.fieldLink RX0 52 "CourierBees$Bee" "onward" "Z") (by decide +kernel)) (fun _ h9 => h9) (gFv_i (Or.inr rfl)) dX0_tell_100 ?_
                  refine lv_if_eq (tgt := 110) hx hb dX0_tell_103 (by decide) (fun c28 => ?_) (fun c28 => ?_)
                  · have hF := g_t c28 hF
                    refine lv_iconst (v := 0) hx hb dX0_tell_110 (by decide) ?_
                    exact g_retI hx hb hr hlocks hF hP hS (Nat.le_of_ble_eq_true rfl) (Nat.le_of_ble_eq_true rfl) dX0_tell_111
                  · have hF := g_f c28 hF
                    refine lv_iconst (v := 1) hx hb dX0_tell_106 (by decide) ?_
                    refine lv_goto (tgt := 111) hx hb dX0_tell_107 (by decide) ?_
                    exact g_retI hx hb hr hlocks hF hP hS (Nat.le_of_ble_eq_true rfl) (Nat.le_of_ble_eq_true rfl) dX0_tell_111
set_option maxHeartbeats 4000000 in
set_option maxRecDepth 100000 in
theorem k0_digestFrom (l : Launch) (D : va_G) (base : Nat) (g : g_H) (a0 : Nat) (j1 : Int64) (rr : Int64) (gz : g_H) (hF : f0_digestFrom g a0 j1 = some (rr, gz)) : Met l yX0_digestFrom wsX0_digestFrom ({ frames := 3, cells := 0, slots := 0, locals := 62 } : Room) (va_Pc [.ref a0, .long j1] (gC base D g)) (gQl base D rr gz) 0 0 (gA base) := by
  refine g_met (cc := cX0_digestFrom) (maxL := 6) (ret := (some .long)) (lst := [(0, .ref a0), (1, .long j1)]) (by decide) rfl (Nat.le_of_ble_eq_true rfl) rfl ?_
  intro p e s m args below meth c ls hx hb hr hml hown hlocks hname hts hE hP hl
  have hown : s.vm.findClass RX0 = some m.cls := hown
  have hK := hE.1
  have hov := hE.2.2.2.2.2.2.2.1
  have hbz := hE.2.2.2.2.2.2.2.2.2.2.2.2
  have hS : va_S (gA base) s.heap s.heap [] := va_S.rf
  have hiX0 : ∀ w ∈ wsX00, w ∈ wsX0_digestFrom := by decide +kernel
  have HL35 : ∀ (n35 : Nat), ∀ (g : g_H) (a0 : Nat) (j3 : Int64) (x5 : Int32) (H : Heap) (locs : List Loc) (ls : Array Slot), f0_digestFrom_35 n35 g a0 j3 x5 = some (rr, gz) → gP base D s g H → va_S (gA base) s.heap H locs → lv_has ls 6 [(0, .ref a0), (3, .long j3), (5, .int x5)] → W p l e ({ frames := 3, cells := 0, slots := 0, locals := 62 } : Room) s m args below meth c H locs 0 0 (MQ below (gQl base D rr gz) args s 0 0 (gA base)) (F0 m 35 ls []) := by
    intro n35
    induction n35 with
    | zero => intro g a0 j3 x5 H locs ls hF hP hS hl; exact g_no hF
    | succ n35 ih35 =>
      intro g a0 j3 x5 H locs ls hF hP hS hl
      have hF : f0_digestFrom_35b (f0_digestFrom_35 n35) g a0 j3 x5 = some (rr, gz) := hF
      unfold f0_digestFrom_35b at hF
      refine lv_iload hx hb dX0_digestFrom_35 (lv_at hl 2 rfl) ?_
      refine lv_aload_n hx hb dX0_digestFrom_37 rfl (lv_at hl 0 rfl) ?_
      obtain ⟨h2, hF⟩ := g_if hF
      obtain ⟨q3, hq4, hF⟩ := g_bind hF
      refine g_get hx hb hts hiX0 hown hK hP 0 rfl (by decide) h2 1 (by decide) (hts (.fieldLink RX0 18 "CourierBees$Bee" "route" "LCourierBees$Route;") (by decide +kernel)) (fun _ h9 => h9) ((gFv_r (by decide)).trans (congrArg va_rf hq4)) dX0_digestFrom_38 ?_
      obtain ⟨h6, hF⟩ := g_if hF
      obtain ⟨v8, g7, h5, hF⟩ := g_bind2 hF
      refine g_calli (va_runV (As := []) (rest := [.int x5]) ⟨hx, hb, hml, hown, hts⟩ (k4_length l D base g q3 v8 g7 h5) (cwV 0 hts gX0_digestFrom_X4_length rfl rfl rfl (by decide +kernel) ⟨Nat.le_of_ble_eq_true rfl, Nat.le_of_ble_eq_true rfl⟩) (gC.preV hE hP hS 4 rfl (by decide) h6 []) rfl rfl hl.1 rfl (lv_room (Nat.le_of_ble_eq_true rfl)) dX0_digestFrom_41 ⟨(Nat.le_of_ble_eq_true rfl), (Nat.le_of_ble_eq_true rfl)⟩) hS (fun H locs hP hS => ?_)
      refine lv_icmp_ge (tgt := 70) hx hb dX0_digestFrom_44 (by decide) (fun c9 => ?_) (fun c9 => ?_)
      · have hF := g_t c9 hF
        refine lv_lload_n hx hb dX0_digestFrom_70 rfl (lv_at hl 1 rfl) ?_
        exact g_retJ hx hb hr hlocks hF hP hS (Nat.le_of_ble_eq_true rfl) (Nat.le_of_ble_eq_true rfl) dX0_digestFrom_71
      · have hF := g_f c9 hF
        refine lv_lload_n hx hb dX0_digestFrom_47 rfl (lv_at hl 1 rfl) ?_
        refine lv_ldc2 (v := 31) hx hb hown (hts (.constantLong RX0 99 (31)) (by decide +kernel)) dX0_digestFrom_48 ?_
        refine lv_lmul hx hb dX0_digestFrom_51 ?_
        refine lv_aload_n hx hb dX0_digestFrom_52 rfl (lv_at hl 0 rfl) ?_
        obtain ⟨h10, hF⟩ := g_if hF
        obtain ⟨q11, hq12, hF⟩ := g_bind hF
        refine g_get hx hb hts hiX0 hown hK hP 0 rfl (by decide) h10 1 (by decide) (hts (.fieldLink RX0 18 "CourierBees$Bee" "route" "LCourierBees$Route;") (by decide +kernel)) (fun _ h9 => h9) ((gFv_r (by decide)).trans (congrArg va_rf hq12)) dX0_digestFrom_53 ?_
        refine lv_iload hx hb dX0_digestFrom_56 (lv_at hl 2 rfl) ?_
        obtain ⟨h14, hF⟩ := g_if hF
        obtain ⟨v16, g15, h13, hF⟩ := g_bind2 hF
        refine g_calli (va_runV (As := [.int x5]) (rest := [.long (j3 * ((31 : Int64)))]) ⟨hx, hb, hml, hown, hts⟩ (k4_houseAt l D base g7 q11 x5 v16 g15 h13) (cwV 1 hts gX0_digestFrom_X4_houseAt rfl rfl rfl (by decide +kernel) ⟨Nat.le_of_ble_eq_true rfl, Nat.le_of_ble_eq_true rfl⟩) (gC.preV hE hP hS 4 rfl (by decide) h14 [.int x5]) rfl rfl hl.1 rfl (lv_room (Nat.le_of_ble_eq_true rfl)) dX0_digestFrom_58 ⟨(Nat.le_of_ble_eq_true rfl), (Nat.le_of_ble_eq_true rfl)⟩) hS (fun H locs hP hS => ?_)
        refine lv_i2l hx hb dX0_digestFrom_61 rfl ?_
        refine lv_ladd hx hb dX0_digestFrom_62 ?_
        refine lv_lstore_n (lv' := [(3, .long ((j3 * ((31 : Int64))) + (Int32.toInt64 v16))), (0, .ref a0), (5, .int x5)]) hx hb dX0_digestFrom_63 rfl hl (by decide) rfl (fun ls hl => ?_)
        refine lv_iinc (v := x5 + (1 : Int32)) (lv' := [(5, .int (x5 + (1 : Int32))), (3, .long ((j3 * ((31 : Int64))) + (Int32.toInt64 v16))), (0, .ref a0)]) hx hb dX0_digestFrom_64 hl (k := 2) rfl rfl (by decide) rfl (fun ls hl => ?_)
        refine lv_goto (tgt := 35) hx hb dX0_digestFrom_67 (by decide) ?_
        exact ih35 _ _ _ _ _ _ _ hF hP hS (lv_sub hl [2, 1, 0] rfl)
  have HL5 : ∀ (n5 : Nat), ∀ (g : g_H) (a0 : Nat) (j3 : Int64) (x5 : Int32) (H : Heap) (locs : List Loc) (ls : Array Slot), f0_digestFrom_5 n5 g a0 j3 x5 = some (rr, gz) → gP base D s g H → va_S (gA base) s.heap H locs → lv_has ls 6 [(0, .ref a0), (3, .long j3), (5, .int x5)] → W p l e ({ frames := 3, cells := 0, slots := 0, locals := 62 } : Room) s m args below meth c H locs 0 0 (MQ below (gQl base D rr gz) args s 0 0 (gA base)) (F0 m 5 ls []) := by
    intro n5
    induction n5 with
    | zero => intro g a0 j3 x5 H locs ls hF hP hS hl; exact g_no hF
    | succ n5 ih5 =>
      intro g a0 j3 x5 H locs ls hF hP hS hl
      have hF : f0_digestFrom_5b (f0_digestFrom_5 n5) g a0 j3 x5 = some (rr, gz) := hF
      unfold f0_digestFrom_5b at hF
      refine lv_iload hx hb dX0_digestFrom_5 (lv_at hl 2 rfl) ?_
      refine lv_bipush (v := 9) hx hb dX0_digestFrom_7 (by decide) ?_
      refine lv_icmp_ge (tgt := 32) hx hb dX0_digestFrom_9 (by decide) (fun c1 => ?_) (fun c1 => ?_)
      · have hF := g_t c1 hF
        refine lv_iconst (v := 0) hx hb dX0_digestFrom_32 (by decide) ?_
        refine lv_istore (lv' := [(5, .int ((0 : Int32))), (0, .ref a0), (3, .long j3)]) hx hb dX0_digestFrom_33 hl (by decide) rfl (fun ls hl => ?_)
        exact HL35 300 _ _ _ _ _ _ _ hF hP hS (lv_sub hl [1, 2, 0] rfl)
      · have hF := g_f c1 hF
        refine lv_lload_n hx hb dX0_digestFrom_12 rfl (lv_at hl 1 rfl) ?_
        refine lv_ldc2 (v := 31) hx hb hown (hts (.constantLong RX0 99 (31)) (by decide +kernel)) dX0_digestFrom_13 ?_
        refine lv_lmul hx hb dX0_digestFrom_16 ?_
        refine lv_aload_n hx hb dX0_digestFrom_17 rfl (lv_at hl 0 rfl) ?_
        refine lv_iload hx hb dX0_digestFrom_18 (lv_at hl 2 rfl) ?_
        obtain ⟨h18, hF⟩ := g_if hF
        obtain ⟨v20, g19, h17, hF⟩ := g_bind2 hF
        refine g_calli (va_runV (As := [.int x5]) (rest := [.long (j3 * ((31 : Int64)))]) ⟨hx, hb, hml, hown, hts⟩ (k0_tell l D base g a0 x5 v20 g19 h17) (cwV 1 hts gX0_digestFrom_X0_tell rfl rfl rfl (by decide +kernel) ⟨Nat.le_of_ble_eq_true rfl, Nat.le_of_ble_eq_true rfl⟩) (gC.preV hE hP hS 0 rfl (by decide) h18 [.int x5]) rfl rfl hl.1 rfl (lv_room (Nat.le_of_ble_eq_true rfl)) dX0_digestFrom_20 ⟨(Nat.le_of_ble_eq_true rfl), (Nat.le_of_ble_eq_true rfl)⟩) hS (fun H locs hP hS => ?_)
        refine lv_i2l hx hb dX0_digestFrom_23 rfl ?_
        refine lv_ladd hx hb dX0_digestFrom_24 ?_
        refine lv_lstore_n (lv' := [(3, .long ((j3 * ((31 : Int64))) + (Int32.toInt64 v20))), (0, .ref a0), (5, .int x5)]) hx hb dX0_digestFrom_25 rfl hl (by decide) rfl (fun ls hl => ?_)
        refine lv_iinc (v := x5 + (1 : Int32)) (lv' := [(5, .int (x5 + (1 : Int32))), (3, .long ((j3 * ((31 : Int64))) + (Int32.toInt64 v20))), (0, .ref a0)]) hx hb dX0_digestFrom_26 hl (k := 2) rfl rfl (by decide) rfl (fun ls hl => ?_)
        refine lv_goto (tgt := 5) hx hb dX0_digestFrom_29 (by decide) ?_
        exact ih5 _ _ _ _ _ _ _ hF hP hS (lv_sub hl [2, 1, 0] rfl)
  unfold f0_digestFrom at hF
  refine lv_lload_n hx hb dX0_digestFrom_0 rfl (lv_at hl 1 rfl) ?_
  refine lv_lstore_n (lv' := [(3, .long j1), (0, .ref a0), (1, .long j1)]) hx hb dX0_digestFrom_1 rfl hl (by decide) rfl (fun ls hl => ?_)
  refine lv_iconst (v := 0) hx hb dX0_digestFrom_2 (by decide) ?_
  refine lv_istore (lv' := [(5, .int ((0 : Int32))), (3, .long j1), (0, .ref a0), (1, .long j1)]) hx hb dX0_digestFrom_3 hl (by decide) rfl (fun ls hl => ?_)
  exact HL5 300 _ _ _ _ _ _ _ hF hP hS (lv_sub hl [2, 1, 0] rfl)
set_option maxHeartbeats 4000000 in
set_option maxRecDepth 100000 in
theorem k0_copyFrom (l : Launch) (D : va_G) (base : Nat) (g : g_H) (a0 : Nat) (a1 : Nat) (gz : g_H) (hF : f0_copyFrom g a0 a1 = some gz) : Met l yX0_copyFrom wsX0_copyFrom ({ frames := 0, cells := 0, slots := 0, locals := 0 } : Room) (va_Pc [.ref a0, .ref a1] (gC base D g)) (gQv base D gz) 0 0 (gA base) := by
  refine g_met (cc := cX0_copyFrom) (maxL := 2) (ret := none) (lst := [(0, .ref a0), (1, .ref a1)]) (by decide) rfl (Nat.le_of_ble_eq_true rfl) rfl ?_
  intro p e s m args below meth c ls hx hb hr hml hown hlocks hname hts hE hP hl
  have hown : s.vm.findClass RX0 = some m.cls := hown
  have hK := hE.1
  have hov := hE.2.2.2.2.2.2.2.1
  have hbz := hE.2.2.2.2.2.2.2.2.2.2.2.2
  have hS : va_S (gA base) s.heap s.heap [] := va_S.rf
  have hiX0 : ∀ w ∈ wsX00, w ∈ wsX0_copyFrom := by decide +kernel
  unfold f0_copyFrom at hF
  refine lv_aload_n hx hb dX0_copyFrom_0 rfl (lv_at hl 0 rfl) ?_
  refine lv_aload_n hx hb dX0_copyFrom_1 rfl (lv_at hl 1 rfl) ?_
  obtain ⟨h1, hF⟩ := g_if hF
  obtain ⟨q2, hq3, hF⟩ := g_bind hF
  refine g_get hx hb hts hiX0 hown hK hP 0 rfl (by decide) h1 1 (by decide) (hts (.fieldLink RX0 18 "CourierBees$Bee" "route" "LCourierBees$Route;") (by decide +kernel)) (fun _ h9 => h9) ((gFv_r (by decide)).trans (congrArg va_rf hq3)) dX0_copyFrom_2 ?_
  obtain ⟨h4, hF⟩ := g_if hF
  refine g_putr hx hb hts hiX0 tyX0 tyX0_ok nmX0 hown hK hP hS 0 rfl (by decide) h4 1 (by decide) (hts (.fieldLink RX0 18 "CourierBees$Bee" "route" "LCourierBees$Route;") (by decide +kernel)) (fun _ h9 => h9) (Or.inl rfl) (by decide) rfl rfl dX0_copyFrom_5 (fun H locs hP hS => ?_)
  refine lv_aload_n hx hb dX0_copyFrom_8 rfl (lv_at hl 0 rfl) ?_
  refine lv_aload_n hx hb dX0_copyFrom_9 rfl (lv_at hl 1 rfl) ?_
  refine g_get hx hb hts hiX0 hown hK hP 0 rfl (by decide) h1 2 (by decide) (hts (.fieldLink RX0 49 "CourierBees$Bee" "place" "I") (by decide +kernel)) (fun _ h9 => h9) (gFv_i (Or.inl rfl)) dX0_copyFrom_10 ?_
  obtain ⟨y5, e6, hF⟩ := g_let hF
  rw [e6]
  refine g_puti hx hb hts hiX0 tyX0 tyX0_ok nmX0 hown hK hP hS 0 rfl (by decide) h4 2 (by decide) (hts (.fieldLink RX0 49 "CourierBees$Bee" "place" "I") (by decide +kernel)) (fun _ h9 => h9) (Or.inl rfl) (Or.inl rfl) rfl rfl dX0_copyFrom_13 (fun H locs hP hS => ?_)
  refine lv_aload_n hx hb dX0_copyFrom_16 rfl (lv_at hl 0 rfl) ?_
  refine lv_aload_n hx hb dX0_copyFrom_17 rfl (lv_at hl 1 rfl) ?_
  refine g_get hx hb hts hiX0 hown hK hP 0 rfl (by decide) h1 3 (by decide) (hts (.fieldLink RX0 22 "CourierBees$Bee" "left" "I") (by decide +kernel)) (fun _ h9 => h9) (gFv_i (Or.inl rfl)) dX0_copyFrom_18 ?_
  obtain ⟨y7, e8, hF⟩ := g_let hF
  rw [e8]
  refine g_puti hx hb hts hiX0 tyX0 tyX0_ok nmX0 hown hK hP hS 0 rfl (by decide) h4 3 (by decide) (hts (.fieldLink RX0 22 "CourierBees$Bee" "left" "I") (by decide +kernel)) (fun _ h9 => h9) (Or.inl rfl) (Or.inl rfl) rfl rfl dX0_copyFrom_21 (fun H locs hP hS => ?_)
  refine lv_aload_n hx hb dX0_copyFrom_24 rfl (lv_at hl 0 rfl) ?_
  refine lv_aload_n hx hb dX0_copyFrom_25 rfl (lv_at hl 1 rfl) ?_
  refine g_get hx hb hts hiX0 hown hK hP 0 rfl (by decide) h1 4 (by decide) (hts (.fieldLink RX0 25 "CourierBees$Bee" "strength" "I") (by decide +kernel)) (fun _ h9 => h9) (gFv_i (Or.inl rfl)) dX0_copyFrom_26 ?_
  obtain ⟨y9, e10, hF⟩ := g_let hF
  rw [e10]
  refine g_puti hx hb hts hiX0 tyX0 tyX0_ok nmX0 hown hK hP hS 0 rfl (by decide) h4 4 (by decide) (hts (.fieldLink RX0 25 "CourierBees$Bee" "strength" "I") (by decide +kernel)) (fun _ h9 => h9) (Or.inl rfl) (Or.inl rfl) rfl rfl dX0_copyFrom_29 (fun H locs hP hS => ?_)
  refine lv_aload_n hx hb dX0_copyFrom_32 rfl (lv_at hl 0 rfl) ?_
  refine lv_aload_n hx hb dX0_copyFrom_33 rfl (lv_at hl 1 rfl) ?_
  refine g_get hx hb hts hiX0 hown hK hP 0 rfl (by decide) h1 5 (by decide) (hts (.fieldLink RX0 28 "CourierBees$Bee" "honour" "I") (by decide +kernel)) (fun _ h9 => h9) (gFv_i (Or.inl rfl)) dX0_copyFrom_34 ?_
  obtain ⟨y11, e12, hF⟩ := g_let hF
  rw [e12]
  refine g_puti hx hb hts hiX0 tyX0 tyX0_ok nmX0 hown hK hP hS 0 rfl (by decide) h4 5 (by decide) (hts (.fieldLink RX0 28 "CourierBees$Bee" "honour" "I") (by decide +kernel)) (fun _ h9 => h9) (Or.inl rfl) (Or.inl rfl) rfl rfl dX0_copyFrom_37 (fun H locs hP hS => ?_)
  refine lv_aload_n hx hb dX0_copyFrom_40 rfl (lv_at hl 0 rfl) ?_
  refine lv_aload_n hx hb dX0_copyFrom_41 rfl (lv_at hl 1 rfl) ?_
  refine g_get hx hb hts hiX0 hown hK hP 0 rfl (by decide) h1 6 (by decide) (hts (.fieldLink RX0 31 "CourierBees$Bee" "carries" "I") (by decide +kernel)) (fun _ h9 => h9) (gFv_i (Or.inl rfl)) dX0_copyFrom_42 ?_
  obtain ⟨y13, e14, hF⟩ := g_let hF
  rw [e14]
  refine g_puti hx hb hts hiX0 tyX0 tyX0_ok nmX0 hown hK hP hS 0 rfl (by decide) h4 6 (by decide) (hts (.fieldLink RX0 31 "CourierBees$Bee" "carries" "I") (by decide +kernel)) (fun _ h9 => h9) (Or.inl rfl) (Or.inl rfl) rfl rfl dX0_copyFrom_45 (fun H locs hP hS => ?_)
  refine lv_aload_n hx hb dX0_copyFrom_48 rfl (lv_at hl 0 rfl) ?_
  refine lv_aload_n hx hb dX0_copyFrom_49 rfl (lv_at hl 1 rfl) ?_
  refine g_get hx hb hts hiX0 hown hK hP 0 rfl (by decide) h1 7 (by decide) (hts (.fieldLink RX0 34 "CourierBees$Bee" "rests" "Z") (by decide +kernel)) (fun _ h9 => h9) (gFv_i (Or.inr rfl)) dX0_copyFrom_50 ?_
  obtain ⟨y15, e16, hF⟩ := g_let hF
  rw [e16]
  obtain ⟨h17, hF⟩ := g_if hF
  refine g_puti hx hb hts hiX0 tyX0 tyX0_ok nmX0 hown hK hP hS 0 rfl (by decide) h4 7 (by decide) (hts (.fieldLink RX0 34 "CourierBees$Bee" "rests" "Z") (by decide +kernel)) (fun _ h9 => h9) (Or.inl rfl) (Or.inr rfl) (g_bz h17).1 (g_bz h17).2 dX0_copyFrom_53 (fun H locs hP hS => ?_)
  refine lv_aload_n hx hb dX0_copyFrom_56 rfl (lv_at hl 0 rfl) ?_
  refine lv_aload_n hx hb dX0_copyFrom_57 rfl (lv_at hl 1 rfl) ?_
  refine g_get hx hb hts hiX0 hown hK hP 0 rfl (by decide) h1 8 (by decide) (hts (.fieldLink RX0 38 "CourierBees$Bee" "delivered" "I") (by decide +kernel)) (fun _ h9 => h9) (gFv_i (Or.inl rfl)) dX0_copyFrom_58 ?_
  obtain ⟨y18, e19, hF⟩ := g_let hF
  rw [e19]
  refine g_puti hx hb hts hiX0 tyX0 tyX0_ok nmX0 hown hK hP hS 0 rfl (by decide) h4 8 (by decide) (hts (.fieldLink RX0 38 "CourierBees$Bee" "delivered" "I") (by decide +kernel)) (fun _ h9 => h9) (Or.inl rfl) (Or.inl rfl) rfl rfl dX0_copyFrom_61 (fun H locs hP hS => ?_)
  refine lv_aload_n hx hb dX0_copyFrom_64 rfl (lv_at hl 0 rfl) ?_
  refine lv_aload_n hx hb dX0_copyFrom_65 rfl (lv_at hl 1 rfl) ?_
  refine g_get hx hb hts hiX0 hown hK hP 0 rfl (by decide) h1 9 (by decide) (hts (.fieldLink RX0 52 "CourierBees$Bee" "onward" "Z") (by decide +kernel)) (fun _ h9 => h9) (gFv_i (Or.inr rfl)) dX0_copyFrom_66 ?_
  obtain ⟨y20, e21, hF⟩ := g_let hF
  rw [e21]
  obtain ⟨h22, hF⟩ := g_if hF
  refine g_puti hx hb hts hiX0 tyX0 tyX0_ok nmX0 hown hK hP hS 0 rfl (by decide) h4 9 (by decide) (hts (.fieldLink RX0 52 "CourierBees$Bee" "onward" "Z") (by decide +kernel)) (fun _ h9 => h9) (Or.inl rfl) (Or.inr rfl) (g_bz h22).1 (g_bz h22).2 dX0_copyFrom_69 (fun H locs hP hS => ?_)
  exact g_retV hx hb hr hlocks hF hP hS (Nat.le_of_ble_eq_true rfl) (Nat.le_of_ble_eq_true rfl) dX0_copyFrom_72
