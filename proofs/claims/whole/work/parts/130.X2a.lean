set_option maxHeartbeats 4000000 in
set_option maxRecDepth 100000 in
theorem k2_isOpen (l : Launch) (D : va_G) (base : Nat) (g : g_H) (a0 : Nat) (x1 : Int32) (rr : Int32) (gz : g_H) (hF : f2_isOpen g a0 x1 = some (rr, gz)) : Met l yX2_isOpen wsX2_isOpen ({ frames := 0, cells := 0, slots := 0, locals := 0 } : Room) (va_Pc [.ref a0, .int x1] (gC base D g)) (gQi base D rr gz) 0 0 (gA base) := by
  refine g_met (cc := cX2_isOpen) (maxL := 3) (ret := (some .boolean)) (lst := [(0, .ref a0), (1, .int x1)]) (by decide) rfl (Nat.le_of_ble_eq_true rfl) rfl ?_
  intro p e s m args below meth c ls hx hb hr hml hown hlocks hname hts hE hP hl
  have hown : s.vm.findClass RX2 = some m.cls := hown
  have hK := hE.1
  have hov := hE.2.2.2.2.2.2.2.1
  have hbz := hE.2.2.2.2.2.2.2.2.2.2.2.2
  have hS : va_S (gA base) s.heap s.heap [] := va_S.rf
  have hiX2 : ∀ w ∈ wsX20, w ∈ wsX2_isOpen := by decide +kernel
  unfold f2_isOpen at hF
  refine lv_iload_n hx hb dX2_isOpen_0 rfl (lv_at hl 1 rfl) ?_
  refine lv_bipush (v := 24) hx hb dX2_isOpen_1 (by decide) ?_
  refine lv_irem hx hb dX2_isOpen_3 (by decide) ?_
  refine lv_istore_n (lv' := [(2, .int (x1 - x1 / (24 : Int32) * (24 : Int32))), (0, .ref a0), (1, .int x1)]) hx hb dX2_isOpen_4 rfl hl (by decide) rfl (fun ls hl => ?_)
  refine lv_aload_n hx hb dX2_isOpen_5 rfl (lv_at hl 1 rfl) ?_
  obtain ⟨h1, hF⟩ := g_if hF
  refine g_get hx hb hts hiX2 hown hK hP 2 rfl (by decide) h1 3 (by decide) (hts (.fieldLink RX2 21 "CourierBees$Lane" "from" "I") (by decide +kernel)) (fun _ h9 => h9) (gFv_i (Or.inl rfl)) dX2_isOpen_6 ?_
  refine lv_iload_n hx hb dX2_isOpen_9 rfl (lv_at hl 0 rfl) ?_
  refine lv_icmp_gt (tgt := 25) hx hb dX2_isOpen_10 (by decide) (fun c2 => ?_) (fun c2 => ?_)
  · have hF := g_t c2 hF
    refine lv_iconst (v := 0) hx hb dX2_isOpen_25 (by decide) ?_
    exact g_retZ hx hb hr (Or.inl rfl) hlocks hF hP hS (Nat.le_of_ble_eq_true rfl) (Nat.le_of_ble_eq_true rfl) dX2_isOpen_26
  · have hF := g_f c2 hF
    refine lv_iload_n hx hb dX2_isOpen_13 rfl (lv_at hl 0 rfl) ?_
    refine lv_aload_n hx hb dX2_isOpen_14 rfl (lv_at hl 1 rfl) ?_
    refine g_get hx hb hts hiX2 hown hK hP 2 rfl (by decide) h1 4 (by decide) (hts (.fieldLink RX2 24 "CourierBees$Lane" "till" "I") (by decide +kernel)) (fun _ h9 => h9) (gFv_i (Or.inl rfl)) dX2_isOpen_15 ?_
    refine lv_icmp_ge (tgt := 25) hx hb dX2_isOpen_18 (by decide) (fun c3 => ?_) (fun c3 => ?_)
    · have hF := g_t c3 hF
      refine lv_iconst (v := 0) hx hb dX2_isOpen_25 (by decide) ?_
      exact g_retZ hx hb hr (Or.inl rfl) hlocks hF hP hS (Nat.le_of_ble_eq_true rfl) (Nat.le_of_ble_eq_true rfl) dX2_isOpen_26
    · have hF := g_f c3 hF
      refine lv_iconst (v := 1) hx hb dX2_isOpen_21 (by decide) ?_
      refine lv_goto (tgt := 26) hx hb dX2_isOpen_22 (by decide) ?_
      exact g_retZ hx hb hr (Or.inr rfl) hlocks hF hP hS (Nat.le_of_ble_eq_true rfl) (Nat.le_of_ble_eq_true rfl) dX2_isOpen_26
set_option maxHeartbeats 4000000 in
set_option maxRecDepth 100000 in
theorem k2_init (l : Launch) (D : va_G) (base : Nat) (g : g_H) (a0 : Nat) (gz : g_H) (hF : f2_init g a0 = some gz) : Met l yX2_init wsX2_init ({ frames := 1, cells := 0, slots := 0, locals := 22 } : Room) (va_Pc [.ref a0] (gC base D g)) (gQv base D gz) 0 0 (gA base) := by
  refine g_met (cc := cX2_init) (maxL := 1) (ret := none) (lst := [(0, .ref a0)]) (by decide) rfl (Nat.le_of_ble_eq_true rfl) rfl ?_
  intro p e s m args below meth c ls hx hb hr hml hown hlocks hname hts hE hP hl
  have hown : s.vm.findClass RX2 = some m.cls := hown
  have hK := hE.1
  have hov := hE.2.2.2.2.2.2.2.1
  have hbz := hE.2.2.2.2.2.2.2.2.2.2.2.2
  have hS : va_S (gA base) s.heap s.heap [] := va_S.rf
  unfold f2_init at hF
  refine lv_aload_n hx hb dX2_init_0 rfl (lv_at hl 0 rfl) ?_
  refine W.objInit hx hb hown (hts (.methodLink RX2 3 objectInit) (by decide +kernel)) (hts (.instanceMethod objectInit) (by decide +kernel)) (hts (.code objectInit ⟨#[0xb1]⟩ 1 none) (by decide +kernel)) rfl (by rw [hml]; exact hl.1) rfl dX2_init_1 (Nat.le_of_ble_eq_true rfl) (Nat.le_of_ble_eq_true rfl) ?_
  refine W.eq (g2 := F0 m 4 ls []) rfl ?_
  exact g_retV hx hb hr hlocks hF hP hS (Nat.le_of_ble_eq_true rfl) (Nat.le_of_ble_eq_true rfl) dX2_init_4
set_option maxHeartbeats 4000000 in
set_option maxRecDepth 100000 in
theorem k2_build (l : Launch) (D : va_G) (base : Nat) (g : g_H) (a0 : Nat) (x1 : Int32) (x2 : Int32) (x3 : Int32) (gz : g_H) (hF : f2_build g a0 x1 x2 x3 = some gz) : Met l yX2_build wsX2_build ({ frames := 0, cells := 0, slots := 0, locals := 0 } : Room) (va_Pc [.ref a0, .int x1, .int x2, .int x3] (gC base D g)) (gQv base D gz) 0 0 (gA base) := by
  refine g_met (cc := cX2_build) (maxL := 4) (ret := none) (lst := [(0, .ref a0), (1, .int x1), (2, .int x2), (3, .int x3)]) (by decide) rfl (Nat.le_of_ble_eq_true rfl) rfl ?_
  intro p e s m args below meth c ls hx hb hr hml hown hlocks hname hts hE hP hl
  have hown : s.vm.findClass RX2 = some m.cls := hown
  have hK := hE.1
  have hov := hE.2.2.2.2.2.2.2.1
  have hbz := hE.2.2.2.2.2.2.2.2.2.2.2.2
  have hS : va_S (gA base) s.heap s.heap [] := va_S.rf
  have hiX2 : ∀ w ∈ wsX20, w ∈ wsX2_build := by decide +kernel
  unfold f2_build at hF
  refine lv_aload_n hx hb dX2_build_0 rfl (lv_at hl 0 rfl) ?_
  refine lv_iload_n hx hb dX2_build_1 rfl (lv_at hl 1 rfl) ?_
  obtain ⟨h1, hF⟩ := g_if hF
  refine g_puti hx hb hts hiX2 tyX2 tyX2_ok nmX2 hown hK hP hS 2 rfl (by decide) h1 0 (by decide) (hts (.fieldLink RX2 9 "CourierBees$Lane" "a" "I") (by decide +kernel)) (fun _ h9 => h9) (Or.inl rfl) (Or.inl rfl) rfl rfl dX2_build_2 (fun H locs hP hS => ?_)
  refine lv_aload_n hx hb dX2_build_5 rfl (lv_at hl 0 rfl) ?_
  refine lv_iload_n hx hb dX2_build_6 rfl (lv_at hl 2 rfl) ?_
  refine g_puti hx hb hts hiX2 tyX2 tyX2_ok nmX2 hown hK hP hS 2 rfl (by decide) h1 1 (by decide) (hts (.fieldLink RX2 15 "CourierBees$Lane" "b" "I") (by decide +kernel)) (fun _ h9 => h9) (Or.inl rfl) (Or.inl rfl) rfl rfl dX2_build_7 (fun H locs hP hS => ?_)
  refine lv_aload_n hx hb dX2_build_10 rfl (lv_at hl 0 rfl) ?_
  refine lv_iload_n hx hb dX2_build_11 rfl (lv_at hl 3 rfl) ?_
  refine g_puti hx hb hts hiX2 tyX2 tyX2_ok nmX2 hown hK hP hS 2 rfl (by decide) h1 2 (by decide) (hts (.fieldLink RX2 18 "CourierBees$Lane" "length" "I") (by decide +kernel)) (fun _ h9 => h9) (Or.inl rfl) (Or.inl rfl) rfl rfl dX2_build_12 (fun H locs hP hS => ?_)
  refine lv_aload_n hx hb dX2_build_15 rfl (lv_at hl 0 rfl) ?_
  refine lv_iconst (v := 0) hx hb dX2_build_16 (by decide) ?_
  refine g_puti hx hb hts hiX2 tyX2 tyX2_ok nmX2 hown hK hP hS 2 rfl (by decide) h1 3 (by decide) (hts (.fieldLink RX2 21 "CourierBees$Lane" "from" "I") (by decide +kernel)) (fun _ h9 => h9) (Or.inl rfl) (Or.inl rfl) rfl rfl dX2_build_17 (fun H locs hP hS => ?_)
  refine lv_aload_n hx hb dX2_build_20 rfl (lv_at hl 0 rfl) ?_
  refine lv_bipush (v := 24) hx hb dX2_build_21 (by decide) ?_
  refine g_puti hx hb hts hiX2 tyX2 tyX2_ok nmX2 hown hK hP hS 2 rfl (by decide) h1 4 (by decide) (hts (.fieldLink RX2 24 "CourierBees$Lane" "till" "I") (by decide +kernel)) (fun _ h9 => h9) (Or.inl rfl) (Or.inl rfl) rfl rfl dX2_build_23 (fun H locs hP hS => ?_)
  exact g_retV hx hb hr hlocks hF hP hS (Nat.le_of_ble_eq_true rfl) (Nat.le_of_ble_eq_true rfl) dX2_build_26
set_option maxHeartbeats 4000000 in
set_option maxRecDepth 100000 in
theorem k2_joins (l : Launch) (D : va_G) (base : Nat) (g : g_H) (a0 : Nat) (x1 : Int32) (x2 : Int32) (rr : Int32) (gz : g_H) (hF : f2_joins g a0 x1 x2 = some (rr, gz)) : Met l yX2_joins wsX2_joins ({ frames := 0, cells := 0, slots := 0, locals := 0 } : Room) (va_Pc [.ref a0, .int x1, .int x2] (gC base D g)) (gQi base D rr gz) 0 0 (gA base) := by
  refine g_met (cc := cX2_joins) (maxL := 3) (ret := (some .boolean)) (lst := [(0, .ref a0), (1, .int x1), (2, .int x2)]) (by decide) rfl (Nat.le_of_ble_eq_true rfl) rfl ?_
  intro p e s m args below meth c ls hx hb hr hml hown hlocks hname hts hE hP hl
  have hown : s.vm.findClass RX2 = some m.cls := hown
  have hK := hE.1
  have hov := hE.2.2.2.2.2.2.2.1
  have hbz := hE.2.2.2.2.2.2.2.2.2.2.2.2
  have hS : va_S (gA base) s.heap s.heap [] := va_S.rf
  have hiX2 : ∀ w ∈ wsX20, w ∈ wsX2_joins := by decide +kernel
  have HB16 : ∀ (g : g_H) (a0 : Nat) (x1 : Int32) (x2 : Int32) (H : Heap) (locs : List Loc) (ls : Array Slot), f2_joins_16 g a0 x1 x2 = some (rr, gz) → gP base D s g H → va_S (gA base) s.heap H locs → lv_has ls 3 [(0, .ref a0), (1, .int x1), (2, .int x2)] → W p l e ({ frames := 0, cells := 0, slots := 0, locals := 0 } : Room) s m args below meth c H locs 0 0 (MQ below (gQi base D rr gz) args s 0 0 (gA base)) (F0 m 16 ls []) := by
    intro g a0 x1 x2 H locs ls hF hP hS hl
    unfold f2_joins_16 at hF
    refine lv_aload_n hx hb dX2_joins_16 rfl (lv_at hl 0 rfl) ?_
    obtain ⟨h3, hF⟩ := g_if hF
    refine g_get hx hb hts hiX2 hown hK hP 2 rfl (by decide) h3 0 (by decide) (hts (.fieldLink RX2 9 "CourierBees$Lane" "a" "I") (by decide +kernel)) (fun _ h9 => h9) (gFv_i (Or.inl rfl)) dX2_joins_17 ?_
    refine lv_iload_n hx hb dX2_joins_20 rfl (lv_at hl 2 rfl) ?_
    refine lv_icmp_ne (tgt := 36) hx hb dX2_joins_21 (by decide) (fun c4 => ?_) (fun c4 => ?_)
    · have hF := g_f c4 hF
      refine lv_iconst (v := 0) hx hb dX2_joins_36 (by decide) ?_
      exact g_retZ hx hb hr (Or.inl rfl) hlocks hF hP hS (Nat.le_of_ble_eq_true rfl) (Nat.le_of_ble_eq_true rfl) dX2_joins_37
    · have hF := g_t c4 hF
      refine lv_aload_n hx hb dX2_joins_24 rfl (lv_at hl 0 rfl) ?_
      refine g_get hx hb hts hiX2 hown hK hP 2 rfl (by decide) h3 1 (by decide) (hts (.fieldLink RX2 15 "CourierBees$Lane" "b" "I") (by decide +kernel)) (fun _ h9 => h9) (gFv_i (Or.inl rfl)) dX2_joins_25 ?_
      refine lv_iload_n hx hb dX2_joins_28 rfl (lv_at hl 1 rfl) ?_
      refine lv_icmp_ne (tgt := 36) hx hb dX2_joins_29 (by decide) (fun c5 => ?_) (fun c5 => ?_)
      · have hF := g_f c5 hF
        refine lv_iconst (v := 0) hx hb dX2_joins_36 (by decide) ?_
        exact g_retZ hx hb hr (Or.inl rfl) hlocks hF hP hS (Nat.le_of_ble_eq_true rfl) (Nat.le_of_ble_eq_true rfl) dX2_joins_37
      · have hF := g_t c5 hF
        refine lv_iconst (v := 1) hx hb dX2_joins_32 (by decide) ?_
        refine lv_goto (tgt := 37) hx hb dX2_joins_33 (by decide) ?_
        exact g_retZ hx hb hr (Or.inr rfl) hlocks hF hP hS (Nat.le_of_ble_eq_true rfl) (Nat.le_of_ble_eq_true rfl) dX2_joins_37
  unfold f2_joins at hF
  refine lv_aload_n hx hb dX2_joins_0 rfl (lv_at hl 0 rfl) ?_
  obtain ⟨h1, hF⟩ := g_if hF
  refine g_get hx hb hts hiX2 hown hK hP 2 rfl (by decide) h1 0 (by decide) (hts (.fieldLink RX2 9 "CourierBees$Lane" "a" "I") (by decide +kernel)) (fun _ h9 => h9) (gFv_i (Or.inl rfl)) dX2_joins_1 ?_
  refine lv_iload_n hx hb dX2_joins_4 rfl (lv_at hl 1 rfl) ?_
  refine lv_icmp_ne (tgt := 16) hx hb dX2_joins_5 (by decide) (fun c2 => ?_) (fun c2 => ?_)
  · have hF := g_f c2 hF
    exact HB16 _ _ _ _ _ _ _ hF hP hS (lv_sub hl [0, 1, 2] rfl)
  · have hF := g_t c2 hF
    refine lv_aload_n hx hb dX2_joins_8 rfl (lv_at hl 0 rfl) ?_
    refine g_get hx hb hts hiX2 hown hK hP 2 rfl (by decide) h1 1 (by decide) (hts (.fieldLink RX2 15 "CourierBees$Lane" "b" "I") (by decide +kernel)) (fun _ h9 => h9) (gFv_i (Or.inl rfl)) dX2_joins_9 ?_
    refine lv_iload_n hx hb dX2_joins_12 rfl (lv_at hl 2 rfl) ?_
    refine lv_icmp_eq (tgt := 32) hx hb dX2_joins_13 (by decide) (fun c6 => ?_) (fun c6 => ?_)
    · have hF := g_t c6 hF
      refine lv_iconst (v := 1) hx hb dX2_joins_32 (by decide) ?_
      refine lv_goto (tgt := 37) hx hb dX2_joins_33 (by decide) ?_
      exact g_retZ hx hb hr (Or.inr rfl) hlocks hF hP hS (Nat.le_of_ble_eq_true rfl) (Nat.le_of_ble_eq_true rfl) dX2_joins_37
    · have hF := g_f c6 hF
      exact HB16 _ _ _ _ _ _ _ hF hP hS (lv_sub hl [0, 1, 2] rfl)
set_option maxHeartbeats 4000000 in
set_option maxRecDepth 100000 in
theorem k2_isOpenAlways (l : Launch) (D : va_G) (base : Nat) (g : g_H) (a0 : Nat) (rr : Int32) (gz : g_H) (hF : f2_isOpenAlways g a0 = some (rr, gz)) : Met l yX2_isOpenAlways wsX2_isOpenAlways ({ frames := 0, cells := 0, slots := 0, locals := 0 } : Room) (va_Pc [.ref a0] (gC base D g)) (gQi base D rr gz) 0 0 (gA base) := by
  refine g_met (cc := cX2_isOpenAlways) (maxL := 1) (ret := (some .boolean)) (lst := [(0, .ref a0)]) (by decide) rfl (Nat.le_of_ble_eq_true rfl) rfl ?_
  intro p e s m args below meth c ls hx hb hr hml hown hlocks hname hts hE hP hl
  have hown : s.vm.findClass RX2 = some m.cls := hown
  have hK := hE.1
  have hov := hE.2.2.2.2.2.2.2.1
  have hbz := hE.2.2.2.2.2.2.2.2.2.2.2.2
  have hS : va_S (gA base) s.heap s.heap [] := va_S.rf
  have hiX2 : ∀ w ∈ wsX20, w ∈ wsX2_isOpenAlways := by decide +kernel
  unfold f2_isOpenAlways at hF
  refine lv_aload_n hx hb dX2_isOpenAlways_0 rfl (lv_at hl 0 rfl) ?_
  obtain ⟨h1, hF⟩ := g_if hF
  refine g_get hx hb hts hiX2 hown hK hP 2 rfl (by decide) h1 3 (by decide) (hts (.fieldLink RX2 21 "CourierBees$Lane" "from" "I") (by decide +kernel)) (fun _ h9 => h9) (gFv_i (Or.inl rfl)) dX2_isOpenAlways_1 ?_
  refine lv_if_ne (tgt := 20) hx hb dX2_isOpenAlways_4 (by decide) (fun c2 => ?_) (fun c2 => ?_)
  · have hF := g_f c2 hF
    refine lv_iconst (v := 0) hx hb dX2_isOpenAlways_20 (by decide) ?_
    exact g_retZ hx hb hr (Or.inl rfl) hlocks hF hP hS (Nat.le_of_ble_eq_true rfl) (Nat.le_of_ble_eq_true rfl) dX2_isOpenAlways_21
  · have hF := g_t c2 hF
    refine lv_aload_n hx hb dX2_isOpenAlways_7 rfl (lv_at hl 0 rfl) ?_
    refine g_get hx hb hts hiX2 hown hK hP 2 rfl (by decide) h1 4 (by decide) (hts (.fieldLink RX2 24 "CourierBees$Lane" "till" "I") (by decide +kernel)) (fun _ h9 => h9) (gFv_i (Or.inl rfl)) dX2_isOpenAlways_8 ?_
    refine lv_bipush (v := 24) hx hb dX2_isOpenAlways_11 (by decide) ?_
    refine lv_icmp_ne (tgt := 20) hx hb dX2_isOpenAlways_13 (by decide) (fun c3 => ?_) (fun c3 => ?_)
    · have hF := g_f c3 hF
      refine lv_iconst (v := 0) hx hb dX2_isOpenAlways_20 (by decide) ?_
      exact g_retZ hx hb hr (Or.inl rfl) hlocks hF hP hS (Nat.le_of_ble_eq_true rfl) (Nat.le_of_ble_eq_true rfl) dX2_isOpenAlways_21
    · have hF := g_t c3 hF
      refine lv_iconst (v := 1) hx hb dX2_isOpenAlways_16 (by decide) ?_
      refine lv_goto (tgt := 21) hx hb dX2_isOpenAlways_17 (by decide) ?_
      exact g_retZ hx hb hr (Or.inr rfl) hlocks hF hP hS (Nat.le_of_ble_eq_true rfl) (Nat.le_of_ble_eq_true rfl) dX2_isOpenAlways_21
