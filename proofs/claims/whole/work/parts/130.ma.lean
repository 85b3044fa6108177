section
set_option maxHeartbeats 4000000 in
set_option maxRecDepth 100000 in
theorem k2_isOpen (l : Launch) (D : va_G) (base : Nat) (g : g_H) (a0 : Nat) (x1 : Int32) (rr : Int32) (gz : g_H) (hF : f2_isOpen g a0 x1 = some (rr, gz)) : Met l yX2_isOpen wsX2_isOpen ({ frames := 0, cells := 0, slots := 0, locals := 0 } : Room) (va_Pc [.ref a0, .int x1] (gC base D g)) (gQi base D rr gz) 0 0 (gA base) := by
  refine g_met (cc := cX2_isOpen) (maxL := 3) (ret := (some .boolean)) (lst := [(0, .ref a0), (1, .int x1)]) (by decide) rfl (Nat.le_of_ble_eq_true rfl) rfl ?_
  intro p e s m args below meth c ls hx hb hr hml hown hlocks hname hts hE hP hl
  have hown : s.vm.findClass RX2 = some m.cls := hown
  have hK := hE.1
  have hov := hE.2.2.2.2.2.2.2.1
  have hbz := hE.2.2.2.2.2.2.2.2.2.2.2.2
  have hS : va_S (gA base) s.heap s.heap [] := va_S.rf
  have hiX2 : ∀ w ∈ wsX20, w ∈ wsX2_isOpen := by decide +kernel
  unfold f2_isOpen at hF
  refine lv_iload_n hx hb dX2_isOpen_0 rfl (lv_at hl 1 rfl) ?_
  refine lv_bipush (v := 24) hx hb dX2_isOpen_1 (by decide) ?_
  refine lv_irem hx hb dX2_isOpen_3 (by decide) ?_
  refine lv_istore_n (lv' := [(2, .int (x1 - x1 / (24 : Int32) * (24 : Int32))), (0, .ref a0), (1, .int x1)]) hx hb dX2_isOpen_4 rfl hl (by decide) rfl (fun ls hl => ?_)
  refine lv_aload_n hx hb dX2_isOpen_5 rfl (lv_at hl 1 rfl) ?_
  obtain ⟨h1, hF⟩ := g_if hF
  refine g_get hx hb hts hiX2 hown hK hP 2 rfl (by decide) h1 3 (by decide) (hts (.fieldLink RX2 21 "CourierBees$Lane" "from" "I") (by decide +kernel)) (fun _ h9 => h9) (gFv_i (Or.inl rfl)) dX2_isOpen_6 ?_
  refine lv_iload_n hx hb dX2_isOpen_9 rfl (lv_at hl 0 rfl) ?_
  refine lv_icmp_gt (tgt := 25) hx hb dX2_isOpen_10 (by decide) (fun c2 => ?_) (fun c2 => ?_)
  · have hF := g_t c2 hF
    refine lv_iconst (v := 0) hx hb dX2_isOpen_25 (by decide) ?_
    exact g_retZ hx hb hr (Or.inl rfl) hlocks hF hP hS (Nat.le_of_ble_eq_true rfl) (Nat.le_of_ble_eq_true rfl) dX2_isOpen_26
  · have hF := g_f c2 hF
    refine lv_iload_n hx hb dX2_isOpen_13 rfl (lv_at hl 0 rfl) ?_
    refine lv_aload_n hx hb dX2_isOpen_14 rfl (lv_at hl 1 rfl) ?_
    refine g_get hx hb hts hiX2 hown hK hP 2 rfl (by decide) h1 4 (by decide) (hts (.fieldLink RX2 24 "CourierBees$Lane" "till" "I") (by decide +kernel)) (fun _ h9 => h9) (gFv_i (Or.inl rfl)) dX2_isOpen_15 ?_
    refine lv_icmp_ge (tgt := 25) hx hb dX2_isOpen_18 (by decide) (fun c3 => ?_) (fun c3 => ?_)
    · have hF := g_t c3 hF
      refine lv_iconst (v := 0) hx hb dX2_isOpen_25 (by decide) ?_
      exact g_retZ hx hb hr (Or.inl rfl) hlocks hF hP hS (Nat.le_of_ble_eq_true rfl) (Nat.le_of_ble_eq_true rfl) dX2_isOpen_26
    · have hF := g_f c3 hF
      refine lv_iconst (v := 1) hx hb dX2_isOpen_21 (by decide) ?_
      refine lv_goto (tgt := 26) hx hb dX2_isOpen_22 (by decide) ?_
      exact g_retZ hx hb hr (Or.inr rfl) hlocks hF hP hS (Nat.le_of_ble_eq_true rfl) (Nat.le_of_ble_eq_true rfl) dX2_isOpen_26
set_option maxHeartbeats 4000000 in
set_option maxRecDepth 100000 in
theorem k2_init (l : Launch) (D : va_G) (base : Nat) (g : g_H) (a0 : Nat) (gz : g_H) (hF : f2_init g a0 = some gz) : Met l yX2_init wsX2_init ({ frames := 1, cells := 0, slots := 0, locals := 22 } : Room) (va_Pc [.ref a0] (gC base D g)) (gQv base D gz) 0 0 (gA base) := by
  refine g_met (cc := cX2_init) (maxL := 1) (ret := none) (lst := [(0, .ref a0)]) (by decide) rfl (Nat.le_of_ble_eq_true rfl) rfl ?_
  intro p e s m args below meth c ls hx hb hr hml hown hlocks hname hts hE hP hl
  have hown : s.vm.findClass RX2 = some m.cls := hown
  have hK := hE.1
  have hov := hE.2.2.2.2.2.2.2.1
  have hbz := hE.2.2.2.2.2.2.2.2.2.2.2.2
  have hS : va_S (gA base) s.heap s.heap [] := va_S.rf
  unfold f2_init at hF
  refine lv_aload_n hx hb dX2_init_0 rfl (lv_at hl 0 rfl) ?_
  refine W.objInit hx hb hown (hts (.methodLink RX2 3 objectInit) (by decide +kernel)) (hts (.instanceMethod objectInit) (by decide +kernel)) (hts (.code objectInit ⟨#[0xb1]⟩ 1 none) (by decide +kernel)) rfl (by rw [hml]; exact hl.1) rfl dX2_init_1 (Nat.le_of_ble_eq_true rfl) (Nat.le_of_ble_eq_true rfl) ?_
  refine W.eq (g2 := F0 m 4 ls []) rfl ?_
  exact g_retV hx hb hr hlocks hF hP hS (Nat.le_of_ble_eq_true rfl) (Nat.le_of_ble_eq_true rfl) dX2_init_4
set_option maxHeartbeats 4000000 in
set_option maxRecDepth 100000 in
theorem k2_build (l : Launch) (D : va_G) (base : Nat) (g : g_H) (a0 : Nat) (x1 : Int32) (x2 : Int32) (x3 : Int32) (gz : g_H) (hF : f2_build g a0 x1 x2 x3 = some gz) : Met l yX2_build wsX2_build ({ frames := 0, cells := 0, slots := 0, locals := 0 } : Room) (va_Pc [.ref a0, .int x1, .int x2, .int x3] (gC base D g)) (gQv base D gz) 0 0 (gA base) := by
  refine g_met (cc := cX2_build) (maxL := 4) (ret := none) (lst := [(0, .ref a0), (1, .int x1), (2, .int x2), (3, .int x3)]) (by decide) rfl (Nat.le_of_ble_eq_true rfl) rfl ?_
  intro p e s m args below meth c ls hx hb hr hml hown hlocks hname hts hE hP hl
  have hown : s.vm.findClass RX2 = some m.cls := hown
  have hK := hE.1
  have hov := hE.2.2.2.2.2.2.2.1
  have hbz := hE.2.2.2.2.2.2.2.2.2.2.2.2
  have hS : va_S (gA base) s.heap s.heap [] := va_S.rf
  have hiX2 : ∀ w ∈ wsX20, w ∈ wsX2_build := by decide +kernel
  unfold f2_build at hF
  refine lv_aload_n hx hb dX2_build_0 rfl (lv_at hl 0 rfl) ?_
  refine lv_iload_n hx hb dX2_build_1 rfl (lv_at hl 1 rfl) ?_
  obtain ⟨h1, hF⟩ := g_if hF
  refine g_puti hx hb hts hiX2 tyX2 tyX2_ok nmX2 hown hK hP hS 2 rfl (by decide) h1 0 (by decide) (hts (.fieldLink RX2 9 "CourierBees$Lane" "a" "I") (by decide +kernel)) (fun _ h9 => h9) (Or.inl rfl) (Or.inl rfl) rfl rfl dX2_build_2 (fun H locs hP hS => ?_)
  refine lv_aload_n hx hb dX2_build_5 rfl (lv_at hl 0 rfl) ?_
  refine lv_iload_n hx hb dX2_build_6 rfl (lv_at hl 2 rfl) ?_
  refine g_puti hx hb hts hiX2 tyX2 tyX2_ok nmX2 hown hK hP hS 2 rfl (by decide) h1 1 (by decide) (hts (.fieldLink RX2 15 "CourierBees$Lane" "b" "I") (by decide +kernel)) (fun _ h9 => h9) (Or.inl rfl) (Or.inl rfl) rfl rfl dX2_build_7 (fun H locs hP hS => ?_)
  refine lv_aload_n hx hb dX2_build_10 rfl (lv_at hl 0 rfl) ?_
  refine lv_iload_n hx hb dX2_build_11 rfl (lv_at hl 3 rfl) ?_
  refine g_puti hx hb hts hiX2 tyX2 tyX2_ok nmX2 hown hK hP hS 2 rfl (by decide) h1 2 (by decide) (hts (.fieldLink RX2 18 "CourierBees$Lane" "length" "I") (by decide +kernel)) (fun _ h9 => h9) (Or.inl rfl) (Or.inl rfl) rfl rfl dX2_build_12 (fun H locs hP hS => ?_)
  refine lv_aload_n hx hb dX2_build_15 rfl (lv_at hl 0 rfl) ?_
  refine lv_iconst (v := 0) hx hb dX2_build_16 (by decide) ?_
  refine g_puti hx hb hts hiX2 tyX2 tyX2_ok nmX2 hown hK hP hS 2 rfl (by decide) h1 3 (by decide) (hts (.fieldLink RX2 21 "CourierBees$Lane" "from" "I") (by decide +kernel)) (fun _ h9 => h9) (Or.inl rfl) (Or.inl rfl) rfl rfl dX2_build_17 (fun H locs hP hS => ?_)
  refine lv_aload_n hx hb dX2_build_20 rfl (lv_at hl 0 rfl) ?_
  refine lv_bipush (v := 24) hx hb dX2_build_21 (by decide) ?_
  refine g_puti hx hb hts hiX2 tyX2 tyX2_ok nmX2 hown hK hP hS 2 rfl (by decide) h1 4 (by decide) (hts (.fieldLink RX2 24 "CourierBees$Lane" "till" "I") (by decide +kernel)) (fun _ h9 => h9) (Or.inl rfl) (Or.inl rfl) rfl rfl dX2_build_23 (fun H locs hP hS => ?_)
  exact g_retV hx hb hr hlocks hF hP hS (Nat.le_of_ble_eq_true rfl) (Nat.le_of_ble_eq_true rfl) dX2_build_26
set_option maxHeartbeats 4000000 in
set_option maxRecDepth 100000 in
theorem k2_joins (l : Launch) (D : va_G) (base : Nat) (g : g_H) (a0 : Nat) (x1 : Int32) (x2 : Int32) (rr : Int32) (gz : g_H) (hF : f2_joins g a0 x1 x2 = some (rr, gz)) : Met l yX2_joins wsX2_joins ({ frames := 0, cells := 0, slots := 0, locals := 0 } : Room) (va_Pc [.ref a0, .int x1, .int x2] (gC base D g)) (gQi base D rr gz) 0 0 (gA base) := by
  refine g_met (cc := cX2_joins) (maxL := 3) (ret := (some .boolean)) (lst := [(0, .ref a0), (1, .int x1), (2, .int x2)]) (by decide) rfl (Nat.le_of_ble_eq_true rfl) rfl ?_
  intro p e s m args below meth c ls hx hb hr hml hown hlocks hname hts hE hP hl
  have hown : s.vm.findClass RX2 = some m.cls := hown
  have hK := hE.1
  have hov := hE.2.2.2.2.2.2.2.1
  have hbz := hE.2.2.2.2.2.2.2.2.2.2.2.2
  have hS : va_S (gA base) s.heap s.heap [] := va_S.rf
  have hiX2 : ∀ w ∈ wsX20, w ∈ wsX2_joins := by decide +kernel
  have HB16 : ∀ (g : g_H) (a0 : Nat) (x1 : Int32) (x2 : Int32) (H : Heap) (locs : List Loc) (ls : Array Slot), f2_joins_16 g a0 x1 x2 = some (rr, gz) → gP base D s g H → va_S (gA base) s.heap H locs → lv_has ls 3 [(0, .ref a0), (1, .int x1), (2, .int x2)] → W p l e ({ frames := 0, cells := 0, slots := 0, locals := 0 } : Room) s m args below meth c H locs 0 0 (MQ below (gQi base D rr gz) args s 0 0 (gA base)) (F0 m 16 ls []) := by
    intro g a0 x1 x2 H locs ls hF hP hS hl
    unfold f2_joins_16 at hF
    refine lv_aload_n hx hb dX2_joins_16 rfl (lv_at hl 0 rfl) ?_
    obtain ⟨h3, hF⟩ := g_if hF
    refine g_get hx hb hts hiX2 hown hK hP 2 rfl (by decide) h3 0 (by decide) (hts (.fieldLink RX2 9 "CourierBees$Lane" "a" "I") (by decide +kernel)) (fun _ h9 => h9) (gFv_i (Or.inl rfl)) dX2_joins_17 ?_
    refine lv_iload_n hx hb dX2_joins_20 rfl (lv_at hl 2 rfl) ?_
    refine lv_icmp_ne (tgt := 36) hx hb dX2_joins_21 (by decide) (fun c4 => ?_) (fun c4 => ?_)
    · have hF := g_f c4 hF
      refine lv_iconst (v := 0) hx hb dX2_joins_36 (by decide) ?_
      exact g_retZ hx hb hr (Or.inl rfl) hlocks hF hP hS (Nat.le_of_ble_eq_true rfl) (Nat.le_of_ble_eq_true rfl) dX2_joins_37
    · have hF := g_t c4 hF
      refine lv_aload_n hx hb dX2_joins_24 rfl (lv_at hl 0 rfl) ?_
      refine g_get hx hb hts hiX2 hown hK hP 2 rfl (by decide) h3 1 (by decide) (hts (.fieldLink RX2 15 "CourierBees$Lane" "b" "I") (by decide +kernel)) (fun _ h9 => h9) (gFv_i (Or.inl rfl)) dX2_joins_25 ?_
      refine lv_iload_n hx hb dX2_joins_28 rfl (lv_at hl 1 rfl) ?_
      refine lv_icmp_ne (tgt := 36) hx hb dX2_joins_29 (by decide) (fun c5 => ?_) (fun c5 => ?_)
      · have hF := g_f c5 hF
        refine lv_iconst (v := 0) hx hb dX2_joins_36 (by decide) ?_
        exact g_retZ hx hb hr (Or.inl rfl) hlocks hF hP hS (Nat.le_of_ble_eq_true rfl) (Nat.le_of_ble_eq_true rfl) dX2_joins_37
      · have hF := g_t c5 hF
        refine lv_iconst (v := 1) hx hb dX2_joins_32 (by decide) ?_
        refine lv_goto (tgt := 37) hx hb dX2_joins_33 (by decide) ?_
        exact g_retZ hx hb hr (Or.inr rfl) hlocks hF hP hS (Nat.le_of_ble_eq_true rfl) (Nat.le_of_ble_eq_true rfl) dX2_joins_37
  unfold f2_joins at hF
  refine lv_aload_n hx hb dX2_joins_0 rfl (lv_at hl 0 rfl) ?_
  obtain ⟨h1, hF⟩ := g_if hF
  refine g_get hx hb hts hiX2 hown hK hP 2 rfl (by decide) h1 0 (by decide) (hts (.fieldLink RX2 9 "CourierBees$Lane" "a" "I") (by decide +kernel)) (fun _ h9 => h9) (gFv_i (Or.inl rfl)) dX2_joins_1 ?_
  refine lv_iload_n hx hb dX2_joins_4 rfl (lv_at hl 1 rfl) ?_
  refine lv_icmp_ne (tgt := 16) hx hb dX2_joins_5 (by decide) (fun c2 => ?_) (fun c2 => ?_)
  · have hF := g_f c2 hF
    exact HB16 _ _ _ _ _ _ _ hF hP hS (lv_sub hl [0, 1, 2] rfl)
  · have hF := g_t c2 hF
    refine lv_aload_n hx hb dX2_joins_8 rfl (lv_at hl 0 rfl) ?_
    refine g_get hx hb hts hiX2 hown hK hP 2 rfl (by decide) h1 1 (by decide) (hts (.fieldLink RX2 15 "CourierBees$Lane" "b" "I") (by decide +kernel)) (fun _ h9 => h9) (gFv_i (Or.inl rfl)) dX2_joins_9 ?_
    refine lv_iload_n hx hb dX2_joins_12 rfl (lv_at hl 2 rfl) ?_
    refine lv_icmp_eq (tgt := 32) hx hb dX2_joins_13 (by decide) (fun c6 => ?_) (fun c6 => ?_)
    · have hF := g_t c6 hF
      refine lv_iconst (v := 1) hx hb dX2_joins_32 (by decide) ?_
      refine lv_goto (tgt := 37) hx hb dX2_joins_33 (by decide) ?_
      exact g_retZ hx hb hr (Or.inr rfl) hlocks hF hP hS (Nat.le_of_ble_eq_true rfl) (Nat.le_of_ble_eq_true rfl) dX2_joins_37
    · have hF := g_f c6 hF
      exact HB16 _ _ _ _ _ _ _ hF hP hS (lv_sub hl [0, 1, 2] rfl)
set_option maxHeartbeats 4000000 in
set_option maxRecDepth 100000 in
theorem k2_isOpenAlways (l : Launch) (D : va_G) (base : Nat) (g : g_H) (a0 : Nat) (rr : Int32) (gz : g_H) (hF : f2_isOpenAlways g a0 = some (rr, gz)) : Met l yX2_isOpenAlways wsX2_isOpenAlways ({ frames := 0, cells := 0, slots := 0, locals := 0 } : Room) (va_Pc [.ref a0] (gC base D g)) (gQi base D rr gz) 0 0 (gA base) := by
  refine g_met (cc := cX2_isOpenAlways) (maxL := 1) (ret := (some .boolean)) (lst := [(0, .ref a0)]) (by decide) rfl (Nat.le_of_ble_eq_true rfl) rfl ?_
  intro p e s m args below meth c ls hx hb hr hml hown hlocks hname hts hE hP hl
  have hown : s.vm.findClass RX2 = some m.cls := hown
  have hK := hE.1
  have hov := hE.2.2.2.2.2.2.2.1
  have hbz := hE.2.2.2.2.2.2.2.2.2.2.2.2
  have hS : va_S (gA base) s.heap s.heap [] := va_S.rf
  have hiX2 : ∀ w ∈ wsX20, w ∈ wsX2_isOpenAlways := by decide +kernel
  unfold f2_isOpenAlways at hF
  refine lv_aload_n hx hb dX2_isOpenAlways_0 rfl (lv_at hl 0 rfl) ?_
  obtain ⟨h1, hF⟩ := g_if hF
  refine g_get hx hb hts hiX2 hown hK hP 2 rfl (by decide) h1 3 (by decide) (hts (.fieldLink RX2 21 "CourierBees$Lane" "from" "I") (by decide +kernel)) (fun _ h9 => h9) (gFv_i (Or.inl rfl)) dX2_isOpenAlways_1 ?_
  refine lv_if_ne (tgt := 20) hx hb dX2_isOpenAlways_4 (by decide) (fun c2 => ?_) (fun c2 => ?_)
  · have hF := g_f c2 hF
    refine lv_iconst (v := 0) hx hb dX2_isOpenAlways_20 (by decide) ?_
    exact g_retZ hx hb hr (Or.inl rfl) hlocks hF hP hS (Nat.le_of_ble_eq_true rfl) (Nat.le_of_ble_eq_true rfl) dX2_isOpenAlways_21
  · have hF := g_t c2 hF
    refine lv_aload_n hx hb dX2_isOpenAlways_7 rfl (lv_at hl 0 rfl) ?_
    refine g_get hx hb hts hiX2 hown hK hP 2 rfl (by decide) h1 4 (by decide) (hts (.fieldLink RX2 24 "CourierBees$Lane" "till" "I") (by decide +kernel)) (fun _ h9 => h9) (gFv_i (Or.inl rfl)) dX2_isOpenAlways_8 ?_
    refine lv_bipush (v := 24) hx hb dX2_isOpenAlways_11 (by decide) ?_
    refine lv_icmp_ne (tgt := 20) hx hb dX2_isOpenAlways_13 (by decide) (fun c3 => ?_) (fun c3 => ?_)
    · have hF := g_f c3 hF
      refine lv_iconst (v := 0) hx hb dX2_isOpenAlways_20 (by decide) ?_
      exact g_retZ hx hb hr (Or.inl rfl) hlocks hF hP hS (Nat.le_of_ble_eq_true rfl) (Nat.le_of_ble_eq_true rfl) dX2_isOpenAlways_21
    · have hF := g_t c3 hF
      refine lv_iconst (v := 1) hx hb dX2_isOpenAlways_16 (by decide) ?_
      refine lv_goto (tgt := 21) hx hb dX2_isOpenAlways_17 (by decide) ?_
      exact g_retZ hx hb hr (Or.inr rfl) hlocks hF hP hS (Nat.le_of_ble_eq_true rfl) (Nat.le_of_ble_eq_true rfl) dX2_isOpenAlways_21
end
section
set_option maxHeartbeats 4000000 in
set_option maxRecDepth 100000 in
theorem k3_init (l : Launch) (D : va_G) (base : Nat) (g : g_H) (a0 : Nat) (gz : g_H) (hF : f3_init g a0 = some gz) : Met l yX3_init wsX3_init ({ frames := 1, cells := 0, slots := 0, locals := 22 } : Room) (va_Pc [.ref a0] (gC base D g)) (gQv base D gz) 0 0 (gA base) := by
  refine g_met (cc := cX3_init) (maxL := 1) (ret := none) (lst := [(0, .ref a0)]) (by decide) rfl (Nat.le_of_ble_eq_true rfl) rfl ?_
  intro p e s m args below meth c ls hx hb hr hml hown hlocks hname hts hE hP hl
  have hown : s.vm.findClass RX3 = some m.cls := hown
  have hK := hE.1
  have hov := hE.2.2.2.2.2.2.2.1
  have hbz := hE.2.2.2.2.2.2.2.2.2.2.2.2
  have hS : va_S (gA base) s.heap s.heap [] := va_S.rf
  unfold f3_init at hF
  refine lv_aload_n hx hb dX3_init_0 rfl (lv_at hl 0 rfl) ?_
  refine W.objInit hx hb hown (hts (.methodLink RX3 3 objectInit) (by decide +kernel)) (hts (.instanceMethod objectInit) (by decide +kernel)) (hts (.code objectInit ⟨#[0xb1]⟩ 1 none) (by decide +kernel)) rfl (by rw [hml]; exact hl.1) rfl dX3_init_1 (Nat.le_of_ble_eq_true rfl) (Nat.le_of_ble_eq_true rfl) ?_
  refine W.eq (g2 := F0 m 4 ls []) rfl ?_
  exact g_retV hx hb hr hlocks hF hP hS (Nat.le_of_ble_eq_true rfl) (Nat.le_of_ble_eq_true rfl) dX3_init_4
set_option maxHeartbeats 4000000 in
set_option maxRecDepth 100000 in
theorem k3_copyFrom (l : Launch) (D : va_G) (base : Nat) (g : g_H) (a0 : Nat) (a1 : Nat) (gz : g_H) (hF : f3_copyFrom g a0 a1 = some gz) : Met l yX3_copyFrom wsX3_copyFrom ({ frames := 0, cells := 0, slots := 0, locals := 0 } : Room) (va_Pc [.ref a0, .ref a1] (gC base D g)) (gQv base D gz) 0 0 (gA base) := by
  refine g_met (cc := cX3_copyFrom) (maxL := 2) (ret := none) (lst := [(0, .ref a0), (1, .ref a1)]) (by decide) rfl (Nat.le_of_ble_eq_true rfl) rfl ?_
  intro p e s m args below meth c ls hx hb hr hml hown hlocks hname hts hE hP hl
  have hown : s.vm.findClass RX3 = some m.cls := hown
  have hK := hE.1
  have hov := hE.2.2.2.2.2.2.2.1
  have hbz := hE.2.2.2.2.2.2.2.2.2.2.2.2
  have hS : va_S (gA base) s.heap s.heap [] := va_S.rf
  have hiX3 : ∀ w ∈ wsX30, w ∈ wsX3_copyFrom := by decide +kernel
  unfold f3_copyFrom at hF
  refine lv_aload_n hx hb dX3_copyFrom_0 rfl (lv_at hl 0 rfl) ?_
  refine lv_aload_n hx hb dX3_copyFrom_1 rfl (lv_at hl 1 rfl) ?_
  obtain ⟨h1, hF⟩ := g_if hF
  refine g_get hx hb hts hiX3 hown hK hP 3 rfl (by decide) h1 0 (by decide) (hts (.fieldLink RX3 9 "CourierBees$Letter" "to" "I") (by decide +kernel)) (fun _ h9 => h9) (gFv_i (Or.inl rfl)) dX3_copyFrom_2 ?_
  obtain ⟨h2, hF⟩ := g_if hF
  refine g_puti hx hb hts hiX3 tyX3 tyX3_ok nmX3 hown hK hP hS 3 rfl (by decide) h2 0 (by decide) (hts (.fieldLink RX3 9 "CourierBees$Letter" "to" "I") (by decide +kernel)) (fun _ h9 => h9) (Or.inl rfl) (Or.inl rfl) rfl rfl dX3_copyFrom_5 (fun H locs hP hS => ?_)
  refine lv_aload_n hx hb dX3_copyFrom_8 rfl (lv_at hl 0 rfl) ?_
  refine lv_aload_n hx hb dX3_copyFrom_9 rfl (lv_at hl 1 rfl) ?_
  refine g_get hx hb hts hiX3 hown hK hP 3 rfl (by decide) h1 1 (by decide) (hts (.fieldLink RX3 15 "CourierBees$Letter" "lies" "I") (by decide +kernel)) (fun _ h9 => h9) (gFv_i (Or.inl rfl)) dX3_copyFrom_10 ?_
  obtain ⟨y3, e4, hF⟩ := g_let hF
  rw [e4]
  refine g_puti hx hb hts hiX3 tyX3 tyX3_ok nmX3 hown hK hP hS 3 rfl (by decide) h2 1 (by decide) (hts (.fieldLink RX3 15 "CourierBees$Letter" "lies" "I") (by decide +kernel)) (fun _ h9 => h9) (Or.inl rfl) (Or.inl rfl) rfl rfl dX3_copyFrom_13 (fun H locs hP hS => ?_)
  refine lv_aload_n hx hb dX3_copyFrom_16 rfl (lv_at hl 0 rfl) ?_
  refine lv_aload_n hx hb dX3_copyFrom_17 rfl (lv_at hl 1 rfl) ?_
  refine g_get hx hb hts hiX3 hown hK hP 3 rfl (by decide) h1 2 (by decide) (hts (.fieldLink RX3 18 "CourierBees$Letter" "carrier" "I") (by decide +kernel)) (fun _ h9 => h9) (gFv_i (Or.inl rfl)) dX3_copyFrom_18 ?_
  obtain ⟨y5, e6, hF⟩ := g_let hF
  rw [e6]
  refine g_puti hx hb hts hiX3 tyX3 tyX3_ok nmX3 hown hK hP hS 3 rfl (by decide) h2 2 (by decide) (hts (.fieldLink RX3 18 "CourierBees$Letter" "carrier" "I") (by decide +kernel)) (fun _ h9 => h9) (Or.inl rfl) (Or.inl rfl) rfl rfl dX3_copyFrom_21 (fun H locs hP hS => ?_)
  refine lv_aload_n hx hb dX3_copyFrom_24 rfl (lv_at hl 0 rfl) ?_
  refine lv_aload_n hx hb dX3_copyFrom_25 rfl (lv_at hl 1 rfl) ?_
  refine g_get hx hb hts hiX3 hown hK hP 3 rfl (by decide) h1 3 (by decide) (hts (.fieldLink RX3 21 "CourierBees$Letter" "arrivedIn" "I") (by decide +kernel)) (fun _ h9 => h9) (gFv_i (Or.inl rfl)) dX3_copyFrom_26 ?_
  obtain ⟨y7, e8, hF⟩ := g_let hF
  rw [e8]
  refine g_puti hx hb hts hiX3 tyX3 tyX3_ok nmX3 hown hK hP hS 3 rfl (by decide) h2 3 (by decide) (hts (.fieldLink RX3 21 "CourierBees$Letter" "arrivedIn" "I") (by decide +kernel)) (fun _ h9 => h9) (Or.inl rfl) (Or.inl rfl) rfl rfl dX3_copyFrom_29 (fun H locs hP hS => ?_)
  refine lv_aload_n hx hb dX3_copyFrom_32 rfl (lv_at hl 0 rfl) ?_
  refine lv_aload_n hx hb dX3_copyFrom_33 rfl (lv_at hl 1 rfl) ?_
  refine g_get hx hb hts hiX3 hown hK hP 3 rfl (by decide) h1 4 (by decide) (hts (.fieldLink RX3 24 "CourierBees$Letter" "taken" "I") (by decide +kernel)) (fun _ h9 => h9) (gFv_i (Or.inl rfl)) dX3_copyFrom_34 ?_
  obtain ⟨y9, e10, hF⟩ := g_let hF
  rw [e10]
  refine g_puti hx hb hts hiX3 tyX3 tyX3_ok nmX3 hown hK hP hS 3 rfl (by decide) h2 4 (by decide) (hts (.fieldLink RX3 24 "CourierBees$Letter" "taken" "I") (by decide +kernel)) (fun _ h9 => h9) (Or.inl rfl) (Or.inl rfl) rfl rfl dX3_copyFrom_37 (fun H locs hP hS => ?_)
  exact g_retV hx hb hr hlocks hF hP hS (Nat.le_of_ble_eq_true rfl) (Nat.le_of_ble_eq_true rfl) dX3_copyFrom_40
set_option maxHeartbeats 4000000 in
set_option maxRecDepth 100000 in
theorem k3_begin (l : Launch) (D : va_G) (base : Nat) (g : g_H) (a0 : Nat) (x1 : Int32) (x2 : Int32) (gz : g_H) (hF : f3_begin g a0 x1 x2 = some gz) : Met l yX3_begin wsX3_begin ({ frames := 0, cells := 0, slots := 0, locals := 0 } : Room) (va_Pc [.ref a0, .int x1, .int x2] (gC base D g)) (gQv base D gz) 0 0 (gA base) := by
  refine g_met (cc := cX3_begin) (maxL := 3) (ret := none) (lst := [(0, .ref a0), (1, .int x1), (2, .int x2)]) (by decide) rfl (Nat.le_of_ble_eq_true rfl) rfl ?_
  intro p e s m args below meth c ls hx hb hr hml hown hlocks hname hts hE hP hl
  have hown : s.vm.findClass RX3 = some m.cls := hown
  have hK := hE.1
  have hov := hE.2.2.2.2.2.2.2.1
  have hbz := hE.2.2.2.2.2.2.2.2.2.2.2.2
  have hS : va_S (gA base) s.heap s.heap [] := va_S.rf
  have hiX3 : ∀ w ∈ wsX30, w ∈ wsX3_begin := by decide +kernel
  unfold f3_begin at hF
  refine lv_aload_n hx hb dX3_begin_0 rfl (lv_at hl 0 rfl) ?_
  refine lv_iload_n hx hb dX3_begin_1 rfl (lv_at hl 2 rfl) ?_
  obtain ⟨h1, hF⟩ := g_if hF
  refine g_puti hx hb hts hiX3 tyX3 tyX3_ok nmX3 hown hK hP hS 3 rfl (by decide) h1 0 (by decide) (hts (.fieldLink RX3 9 "CourierBees$Letter" "to" "I") (by decide +kernel)) (fun _ h9 => h9) (Or.inl rfl) (Or.inl rfl) rfl rfl dX3_begin_2 (fun H locs hP hS => ?_)
  refine lv_aload_n hx hb dX3_begin_5 rfl (lv_at hl 0 rfl) ?_
  refine lv_iload_n hx hb dX3_begin_6 rfl (lv_at hl 1 rfl) ?_
  refine g_puti hx hb hts hiX3 tyX3 tyX3_ok nmX3 hown hK hP hS 3 rfl (by decide) h1 1 (by decide) (hts (.fieldLink RX3 15 "CourierBees$Letter" "lies" "I") (by decide +kernel)) (fun _ h9 => h9) (Or.inl rfl) (Or.inl rfl) rfl rfl dX3_begin_7 (fun H locs hP hS => ?_)
  refine lv_aload_n hx hb dX3_begin_10 rfl (lv_at hl 0 rfl) ?_
  refine lv_iconst (v := (-1)) hx hb dX3_begin_11 (by decide) ?_
  refine g_puti hx hb hts hiX3 tyX3 tyX3_ok nmX3 hown hK hP hS 3 rfl (by decide) h1 2 (by decide) (hts (.fieldLink RX3 18 "CourierBees$Letter" "carrier" "I") (by decide +kernel)) (fun _ h9 => h9) (Or.inl rfl) (Or.inl rfl) rfl rfl dX3_begin_12 (fun H locs hP hS => ?_)
  refine lv_aload_n hx hb dX3_begin_15 rfl (lv_at hl 0 rfl) ?_
  refine lv_iconst (v := (-1)) hx hb dX3_begin_16 (by decide) ?_
  refine g_puti hx hb hts hiX3 tyX3 tyX3_ok nmX3 hown hK hP hS 3 rfl (by decide) h1 3 (by decide) (hts (.fieldLink RX3 21 "CourierBees$Letter" "arrivedIn" "I") (by decide +kernel)) (fun _ h9 => h9) (Or.inl rfl) (Or.inl rfl) rfl rfl dX3_begin_17 (fun H locs hP hS => ?_)
  refine lv_aload_n hx hb dX3_begin_20 rfl (lv_at hl 0 rfl) ?_
  refine lv_iconst (v := 0) hx hb dX3_begin_21 (by decide) ?_
  refine g_puti hx hb hts hiX3 tyX3 tyX3_ok nmX3 hown hK hP hS 3 rfl (by decide) h1 4 (by decide) (hts (.fieldLink RX3 24 "CourierBees$Letter" "taken" "I") (by decide +kernel)) (fun _ h9 => h9) (Or.inl rfl) (Or.inl rfl) rfl rfl dX3_begin_22 (fun H locs hP hS => ?_)
  exact g_retV hx hb hr hlocks hF hP hS (Nat.le_of_ble_eq_true rfl) (Nat.le_of_ble_eq_true rfl) dX3_begin_25
set_option maxHeartbeats 4000000 in
set_option maxRecDepth 100000 in
theorem k3_hasArrived (l : Launch) (D : va_G) (base : Nat) (g : g_H) (a0 : Nat) (rr : Int32) (gz : g_H) (hF : f3_hasArrived g a0 = some (rr, gz)) : Met l yX3_hasArrived wsX3_hasArrived ({ frames := 0, cells := 0, slots := 0, locals := 0 } : Room) (va_Pc [.ref a0] (gC base D g)) (gQi base D rr gz) 0 0 (gA base) := by
  refine g_met (cc := cX3_hasArrived) (maxL := 1) (ret := (some .boolean)) (lst := [(0, .ref a0)]) (by decide) rfl (Nat.le_of_ble_eq_true rfl) rfl ?_
  intro p e s m args below meth c ls hx hb hr hml hown hlocks hname hts hE hP hl
  have hown : s.vm.findClass RX3 = some m.cls := hown
  have hK := hE.1
  have hov := hE.2.2.2.2.2.2.2.1
  have hbz := hE.2.2.2.2.2.2.2.2.2.2.2.2
  have hS : va_S (gA base) s.heap s.heap [] := va_S.rf
  have hiX3 : ∀ w ∈ wsX30, w ∈ wsX3_hasArrived := by decide +kernel
  unfold f3_hasArrived at hF
  refine lv_aload_n hx hb dX3_hasArrived_0 rfl (lv_at hl 0 rfl) ?_
  obtain ⟨h1, hF⟩ := g_if hF
  refine g_get hx hb hts hiX3 hown hK hP 3 rfl (by decide) h1 3 (by decide) (hts (.fieldLink RX3 21 "CourierBees$Letter" "arrivedIn" "I") (by decide +kernel)) (fun _ h9 => h9) (gFv_i (Or.inl rfl)) dX3_hasArrived_1 ?_
  refine lv_iconst (v := (-1)) hx hb dX3_hasArrived_4 (by decide) ?_
  refine lv_icmp_eq (tgt := 12) hx hb dX3_hasArrived_5 (by decide) (fun c2 => ?_) (fun c2 => ?_)
  · have hF := g_t c2 hF
    refine lv_iconst (v := 0) hx hb dX3_hasArrived_12 (by decide) ?_
    exact g_retZ hx hb hr (Or.inl rfl) hlocks hF hP hS (Nat.le_of_ble_eq_true rfl) (Nat.le_of_ble_eq_true rfl) dX3_hasArrived_13
  · have hF := g_f c2 hF
    refine lv_iconst (v := 1) hx hb dX3_hasArrived_8 (by decide) ?_
    refine lv_goto (tgt := 13) hx hb dX3_hasArrived_9 (by decide) ?_
    exact g_retZ hx hb hr (Or.inr rfl) hlocks hF hP hS (Nat.le_of_ble_eq_true rfl) (Nat.le_of_ble_eq_true rfl) dX3_hasArrived_13
set_option maxHeartbeats 4000000 in
set_option maxRecDepth 100000 in
theorem k3_tell (l : Launch) (D : va_G) (base : Nat) (g : g_H) (a0 : Nat) (x1 : Int32) (rr : Int32) (gz : g_H) (hF : f3_tell g a0 x1 = some (rr, gz)) : Met l yX3_tell wsX3_tell ({ frames := 0, cells := 0, slots := 0, locals := 0 } : Room) (va_Pc [.ref a0, .int x1] (gC base D g)) (gQi base D rr gz) 0 0 (gA base) := by
  refine g_met (cc := cX3_tell) (maxL := 2) (ret := (some .int)) (lst := [(0, .ref a0), (1, .int x1)]) (by decide) rfl (Nat.le_of_ble_eq_true rfl) rfl ?_
  intro p e s m args below meth c ls hx hb hr hml hown hlocks hname hts hE hP hl
  have hown : s.vm.findClass RX3 = some m.cls := hown
  have hK := hE.1
  have hov := hE.2.2.2.2.2.2.2.1
  have hbz := hE.2.2.2.2.2.2.2.2.2.2.2.2
  have hS : va_S (gA base) s.heap s.heap [] := va_S.rf
  have hiX3 : ∀ w ∈ wsX30, w ∈ wsX3_tell := by decide +kernel
  unfold f3_tell at hF
  refine lv_iload_n hx hb dX3_tell_0 rfl (lv_at hl 1 rfl) ?_
  by_cases c1 : x1 = (0 : Int32)
  · have hF := g_t c1 hF
    refine lv_tableIn (off := 31) (tgt := 32) hx hb dX3_tell_1 (by rw [c1]; decide) (by rw [c1]; decide) (by rw [c1]; rfl) (by decide) ?_
    refine lv_aload_n hx hb dX3_tell_32 rfl (lv_at hl 0 rfl) ?_
    obtain ⟨h5, hF⟩ := g_if hF
    refine g_get hx hb hts hiX3 hown hK hP 3 rfl (by decide) h5 0 (by decide) (hts (.fieldLink RX3 9 "CourierBees$Letter" "to" "I") (by decide +kernel)) (fun _ h9 => h9) (gFv_i (Or.inl rfl)) dX3_tell_33 ?_
    exact g_retI hx hb hr hlocks hF hP hS (Nat.le_of_ble_eq_true rfl) (Nat.le_of_ble_eq_true rfl) dX3_tell_36
  · have hF := g_f c1 hF
    by_cases c2 : x1 = (1 : Int32)
    · have hF := g_t c2 hF
      refine lv_tableIn (off := 36) (tgt := 37) hx hb dX3_tell_1 (by rw [c2]; decide) (by rw [c2]; decide) (by rw [c2]; rfl) (by decide) ?_
      refine lv_aload_n hx hb dX3_tell_37 rfl (lv_at hl 0 rfl) ?_
      obtain ⟨h6, hF⟩ := g_if hF
      refine g_get hx hb hts hiX3 hown hK hP 3 rfl (by decide) h6 1 (by decide) (hts (.fieldLink RX3 15 "CourierBees$Letter" "lies" "I") (by decide +kernel)) (fun _ h9 => h9) (gFv_i (Or.inl rfl)) dX3_tell_38 ?_
      exact g_retI hx hb hr hlocks hF hP hS (Nat.le_of_ble_eq_true rfl) (Nat.le_of_ble_eq_true rfl) dX3_tell_41
    · have hF := g_f c2 hF
      by_cases c3 : x1 = (2 : Int32)
      · have hF := g_t c3 hF
        refine lv_tableIn (off := 41) (tgt := 42) hx hb dX3_tell_1 (by rw [c3]; decide) (by rw [c3]; decide) (by rw [c3]; rfl) (by decide) ?_
        refine lv_aload_n hx hb dX3_tell_42 rfl (lv_at hl 0 rfl) ?_
        obtain ⟨h7, hF⟩ := g_if hF
        refine g_get hx hb hts hiX3 hown hK hP 3 rfl (by decide) h7 2 (by decide) (hts (.fieldLink RX3 18 "CourierBees$Letter" "carrier" "I") (by decide +kernel)) (fun _ h9 => h9) (gFv_i (Or.inl rfl)) dX3_tell_43 ?_
        exact g_retI hx hb hr hlocks hF hP hS (Nat.le_of_ble_eq_true rfl) (Nat.le_of_ble_eq_true rfl) dX3_tell_46
      · have hF := g_f c3 hF
        by_cases c4 : x1 = (3 : Int32)
        · have hF := g_t c4 hF
          refine lv_tableIn (off := 46) (tgt := 47) hx hb dX3_tell_1 (by rw [c4]; decide) (by rw [c4]; decide) (by rw [c4]; rfl) (by decide) ?_
          refine lv_aload_n hx hb dX3_tell_47 rfl (lv_at hl 0 rfl) ?_
          obtain ⟨h8, hF⟩ := g_if hF
          refine g_get hx hb hts hiX3 hown hK hP 3 rfl (by decide) h8 3 (by decide) (hts (.fieldLink RX3 21 "CourierBees$Letter" "arrivedIn" "I") (by decide +kernel)) (fun _ h9 => h9) (gFv_i (Or.inl rfl)) dX3_tell_48 ?_
          exact g_retI hx hb hr hlocks hF hP hS (Nat.le_of_ble_eq_true rfl) (Nat.le_of_ble_eq_true rfl) dX3_tell_51
        · have hF := g_f c4 hF
          refine lv_tableOut (tgt := 52) hx hb dX3_tell_1 (by have h9 := g_out x1 3 (by decide) (fun k hk => by rcases (show k = 0 ∨ k = 1 ∨ k = 2 ∨ k = 3 by omega) with rfl | rfl | rfl | rfl <;> assumption); omega) (by decide) ?_
          refine lv_aload_n hx hb dX3_tell_52 rfl (lv_at hl 0 rfl) ?_
          obtain ⟨h9, hF⟩ := g_if hF
          refine g_get hx hb hts hiX3 hown hK hP 3 rfl (by decide) h9 4 (by decide) (hts (.fieldLink RX3 24 "CourierBees$Letter" "taken" "I") (by decide +kernel)) (fun _ h9 => h9) (gFv_i (Or.inl rfl)) dX3_tell_53 ?_
          exact g_retI hx hb hr hlocks hF hP hS (Nat.le_of_ble_eq_true rfl) (Nat.le_of_ble_eq_true rfl) dX3_tell_56
set_option maxHeartbeats 4000000 in
set_option maxRecDepth 100000 in
theorem k3_digestFrom (l : Launch) (D : va_G) (base : Nat) (g : g_H) (a0 : Nat) (j1 : Int64) (rr : Int64) (gz : g_H) (hF : f3_digestFrom g a0 j1 = some (rr, gz)) : Met l yX3_digestFrom wsX3_digestFrom ({ frames := 1, cells := 0, slots := 0, locals := 21 } : Room) (va_Pc [.ref a0, .long j1] (gC base D g)) (gQl base D rr gz) 0 0 (gA base) := by
  refine g_met (cc := cX3_digestFrom) (maxL := 6) (ret := (some .long)) (lst := [(0, .ref a0), (1, .long j1)]) (by decide) rfl (Nat.le_of_ble_eq_true rfl) rfl ?_
  intro p e s m args below meth c ls hx hb hr hml hown hlocks hname hts hE hP hl
  have hown : s.vm.findClass RX3 = some m.cls := hown
  have hK := hE.1
  have hov := hE.2.2.2.2.2.2.2.1
  have hbz := hE.2.2.2.2.2.2.2.2.2.2.2.2
  have hS : va_S (gA base) s.heap s.heap [] := va_S.rf
  have HL5 : ∀ (n5 : Nat), ∀ (g : g_H) (a0 : Nat) (j3 : Int64) (x5 : Int32) (H : Heap) (locs : List Loc) (ls : Array Slot), f3_digestFrom_5 n5 g a0 j3 x5 = some (rr, gz) → gP base D s g H → va_S (gA base) s.heap H locs → lv_has ls 6 [(0, .ref a0), (3, .long j3), (5, .int x5)] → W p l e ({ frames := 1, cells := 0, slots := 0, locals := 21 } : Room) s m args below meth c H locs 0 0 (MQ below (gQl base D rr gz) args s 0 0 (gA base)) (F0 m 5 ls []) := by
    intro n5
    induction n5 with
    | zero => intro g a0 j3 x5 H locs ls hF hP hS hl; exact g_no hF
    | succ n5 ih5 =>
      intro g a0 j3 x5 H locs ls hF hP hS hl
      have hF : f3_digestFrom_5b (f3_digestFrom_5 n5) g a0 j3 x5 = some (rr, gz) := hF
      unfold f3_digestFrom_5b at hF
      refine lv_iload hx hb dX3_digestFrom_5 (lv_at hl 2 rfl) ?_
      refine lv_iconst (v := 5) hx hb dX3_digestFrom_7 (by decide) ?_
      refine lv_icmp_ge (tgt := 31) hx hb dX3_digestFrom_8 (by decide) (fun c1 => ?_) (fun c1 => ?_)
      · have hF := g_t c1 hF
        refine lv_lload_n hx hb dX3_digestFrom_31 rfl (lv_at hl 1 rfl) ?_
        exact g_retJ hx hb hr hlocks hF hP hS (Nat.le_of_ble_eq_true rfl) (Nat.le_of_ble_eq_true rfl) dX3_digestFrom_32
      · have hF := g_f c1 hF
        refine lv_lload_n hx hb dX3_digestFrom_11 rfl (lv_at hl 1 rfl) ?_
        refine lv_ldc2 (v := 31) hx hb hown (hts (.constantLong RX3 27 (31)) (by decide +kernel)) dX3_digestFrom_12 ?_
        refine lv_lmul hx hb dX3_digestFrom_15 ?_
        refine lv_aload_n hx hb dX3_digestFrom_16 rfl (lv_at hl 0 rfl) ?_
        refine lv_iload hx hb dX3_digestFrom_17 (lv_at hl 2 rfl) ?_
        obtain ⟨h3, hF⟩ := g_if hF
        obtain ⟨v5, g4, h2, hF⟩ := g_bind2 hF
        refine g_calli (va_runV (As := [.int x5]) (rest := [.long (j3 * ((31 : Int64)))]) ⟨hx, hb, hml, hown, hts⟩ (k3_tell l D base g a0 x5 v5 g4 h2) (cwV 1 hts gX3_digestFrom_X3_tell rfl rfl rfl (by decide +kernel) ⟨Nat.le_of_ble_eq_true rfl, Nat.le_of_ble_eq_true rfl⟩) (gC.preV hE hP hS 3 rfl (by decide) h3 [.int x5]) rfl rfl hl.1 rfl (lv_room (Nat.le_of_ble_eq_true rfl)) dX3_digestFrom_19 ⟨(Nat.le_of_ble_eq_true rfl), (Nat.le_of_ble_eq_true rfl)⟩) hS (fun H locs hP hS => ?_)
        refine lv_i2l hx hb dX3_digestFrom_22 rfl ?_
        refine lv_ladd hx hb dX3_digestFrom_23 ?_
        refine lv_lstore_n (lv' := [(3, .long ((j3 * ((31 : Int64))) + (Int32.toInt64 v5))), (0, .ref a0), (5, .int x5)]) hx hb dX3_digestFrom_24 rfl hl (by decide) rfl (fun ls hl => ?_)
        refine lv_iinc (v := x5 + (1 : Int32)) (lv' := [(5, .int (x5 + (1 : Int32))), (3, .long ((j3 * ((31 : Int64))) + (Int32.toInt64 v5))), (0, .ref a0)]) hx hb dX3_digestFrom_25 hl (k := 2) rfl rfl (by decide) rfl (fun ls hl => ?_)
        refine lv_goto (tgt := 5) hx hb dX3_digestFrom_28 (by decide) ?_
        exact ih5 _ _ _ _ _ _ _ hF hP hS (lv_sub hl [2, 1, 0] rfl)
  unfold f3_digestFrom at hF
  refine lv_lload_n hx hb dX3_digestFrom_0 rfl (lv_at hl 1 rfl) ?_
  refine lv_lstore_n (lv' := [(3, .long j1), (0, .ref a0), (1, .long j1)]) hx hb dX3_digestFrom_1 rfl hl (by decide) rfl (fun ls hl => ?_)
  refine lv_iconst (v := 0) hx hb dX3_digestFrom_2 (by decide) ?_
  refine lv_istore (lv' := [(5, .int ((0 : Int32))), (3, .long j1), (0, .ref a0), (1, .long j1)]) hx hb dX3_digestFrom_3 hl (by decide) rfl (fun ls hl => ?_)
  exact HL5 300 _ _ _ _ _ _ _ hF hP hS (lv_sub hl [2, 1, 0] rfl)
end
section
set_option maxHeartbeats 4000000 in
set_option maxRecDepth 100000 in
theorem k5_hasHouse (l : Launch) (D : va_G) (base : Nat) (g : g_H) (a0 : Nat) (x1 : Int32) (rr : Int32) (gz : g_H) (hF : f5_hasHouse g a0 x1 = some (rr, gz)) : Met l yX5_hasHouse wsX5_hasHouse ({ frames := 0, cells := 0, slots := 0, locals := 0 } : Room) (va_Pc [.ref a0, .int x1] (gC base D g)) (gQi base D rr gz) 0 0 (gA base) := by
  refine g_met (cc := cX5_hasHouse) (maxL := 2) (ret := (some .boolean)) (lst := [(0, .ref a0), (1, .int x1)]) (by decide) rfl (Nat.le_of_ble_eq_true rfl) rfl ?_
  intro p e s m args below meth c ls hx hb hr hml hown hlocks hname hts hE hP hl
  have hown : s.vm.findClass RX5 = some m.cls := hown
  have hK := hE.1
  have hov := hE.2.2.2.2.2.2.2.1
  have hbz := hE.2.2.2.2.2.2.2.2.2.2.2.2
  have hS : va_S (gA base) s.heap s.heap [] := va_S.rf
  have hiX5 : ∀ w ∈ wsX50, w ∈ wsX5_hasHouse := by decide +kernel
  unfold f5_hasHouse at hF
  refine lv_iload_n hx hb dX5_hasHouse_0 rfl (lv_at hl 1 rfl) ?_
  refine lv_if_lt (tgt := 16) hx hb dX5_hasHouse_1 (by decide) (fun c1 => ?_) (fun c1 => ?_)
  · have hF := g_t c1 hF
    refine lv_iconst (v := 0) hx hb dX5_hasHouse_16 (by decide) ?_
    exact g_retZ hx hb hr (Or.inl rfl) hlocks hF hP hS (Nat.le_of_ble_eq_true rfl) (Nat.le_of_ble_eq_true rfl) dX5_hasHouse_17
  · have hF := g_f c1 hF
    refine lv_iload_n hx hb dX5_hasHouse_4 rfl (lv_at hl 1 rfl) ?_
    refine lv_aload_n hx hb dX5_hasHouse_5 rfl (lv_at hl 0 rfl) ?_
    obtain ⟨h2, hF⟩ := g_if hF
    refine g_get hx hb hts hiX5 hown hK hP 5 rfl (by decide) h2 0 (by decide) (hts (.fieldLink RX5 27 "CourierBees$Town" "houseCount" "I") (by decide +kernel)) (fun _ h9 => h9) (gFv_i (Or.inl rfl)) dX5_hasHouse_6 ?_
    refine lv_icmp_ge (tgt := 16) hx hb dX5_hasHouse_9 (by decide) (fun c3 => ?_) (fun c3 => ?_)
    · have hF := g_t c3 hF
      refine lv_iconst (v := 0) hx hb dX5_hasHouse_16 (by decide) ?_
      exact g_retZ hx hb hr (Or.inl rfl) hlocks hF hP hS (Nat.le_of_ble_eq_true rfl) (Nat.le_of_ble_eq_true rfl) dX5_hasHouse_17
    · have hF := g_f c3 hF
      refine lv_iconst (v := 1) hx hb dX5_hasHouse_12 (by decide) ?_
      refine lv_goto (tgt := 17) hx hb dX5_hasHouse_13 (by decide) ?_
      exact g_retZ hx hb hr (Or.inr rfl) hlocks hF hP hS (Nat.le_of_ble_eq_true rfl) (Nat.le_of_ble_eq_true rfl) dX5_hasHouse_17
set_option maxHeartbeats 4000000 in
set_option maxRecDepth 100000 in
theorem k5_wayBetween (l : Launch) (D : va_G) (base : Nat) (g : g_H) (a0 : Nat) (x1 : Int32) (x2 : Int32) (rr : Int32) (gz : g_H) (hF : f5_wayBetween g a0 x1 x2 = some (rr, gz)) : Met l yX5_wayBetween wsX5_wayBetween ({ frames := 1, cells := 0, slots := 0, locals := 21 } : Room) (va_Pc [.ref a0, .int x1, .int x2] (gC base D g)) (gQi base D rr gz) 0 0 (gA base) := by
  refine g_met (cc := cX5_wayBetween) (maxL := 3) (ret := (some .int)) (lst := [(0, .ref a0), (1, .int x1), (2, .int x2)]) (by decide) rfl (Nat.le_of_ble_eq_true rfl) rfl ?_
  intro p e s m args below meth c ls hx hb hr hml hown hlocks hname hts hE hP hl
  have hown : s.vm.findClass RX5 = some m.cls := hown
  have hK := hE.1
  have hov := hE.2.2.2.2.2.2.2.1
  have hbz := hE.2.2.2.2.2.2.2.2.2.2.2.2
  have hS : va_S (gA base) s.heap s.heap [] := va_S.rf
  have hiX5 : ∀ w ∈ wsX50, w ∈ wsX5_wayBetween := by decide +kernel
  unfold f5_wayBetween at hF
  refine lv_aload_n hx hb dX5_wayBetween_0 rfl (lv_at hl 0 rfl) ?_
  refine lv_iload_n hx hb dX5_wayBetween_1 rfl (lv_at hl 1 rfl) ?_
  obtain ⟨h2, hF⟩ := g_if hF
  obtain ⟨v4, g3, h1, hF⟩ := g_bind2 hF
  refine g_calli (va_runV (As := [.int x1]) (rest := []) ⟨hx, hb, hml, hown, hts⟩ (k5_hasHouse l D base g a0 x1 v4 g3 h1) (cwV 1 hts gX5_wayBetween_X5_hasHouse rfl rfl rfl (by decide +kernel) ⟨Nat.le_of_ble_eq_true rfl, Nat.le_of_ble_eq_true rfl⟩) (gC.preV hE hP hS 5 rfl (by decide) h2 [.int x1]) rfl rfl hl.1 rfl (lv_room (Nat.le_of_ble_eq_true rfl)) dX5_wayBetween_2 ⟨(Nat.le_of_ble_eq_true rfl), (Nat.le_of_ble_eq_true rfl)⟩) hS (fun H locs hP hS => ?_)
  refine lv_if_eq (tgt := 27) hx hb dX5_wayBetween_5 (by decide) (fun c5 => ?_) (fun c5 => ?_)
  · have hF := g_t c5 hF
    refine lv_sipush (v := 1000) hx hb dX5_wayBetween_27 (by decide) ?_
    exact g_retI hx hb hr hlocks hF hP hS (Nat.le_of_ble_eq_true rfl) (Nat.le_of_ble_eq_true rfl) dX5_wayBetween_30
  · have hF := g_f c5 hF
    refine lv_aload_n hx hb dX5_wayBetween_8 rfl (lv_at hl 0 rfl) ?_
    refine lv_iload_n hx hb dX5_wayBetween_9 rfl (lv_at hl 2 rfl) ?_
    obtain ⟨h7, hF⟩ := g_if hF
    obtain ⟨v9, g8, h6, hF⟩ := g_bind2 hF
    refine g_calli (va_runV (As := [.int x2]) (rest := []) ⟨hx, hb, hml, hown, hts⟩ (k5_hasHouse l D base g3 a0 x2 v9 g8 h6) (cwV 1 hts gX5_wayBetween_X5_hasHouse rfl rfl rfl (by decide +kernel) ⟨Nat.le_of_ble_eq_true rfl, Nat.le_of_ble_eq_true rfl⟩) (gC.preV hE hP hS 5 rfl (by decide) h7 [.int x2]) rfl rfl hl.1 rfl (lv_room (Nat.le_of_ble_eq_true rfl)) dX5_wayBetween_10 ⟨(Nat.le_of_ble_eq_true rfl), (Nat.le_of_ble_eq_true rfl)⟩) hS (fun H locs hP hS => ?_)
    refine lv_if_eq (tgt := 27) hx hb dX5_wayBetween_13 (by decide) (fun c10 => ?_) (fun c10 => ?_)
    · have hF := g_t c10 hF
      refine lv_sipush (v := 1000) hx hb dX5_wayBetween_27 (by decide) ?_
      exact g_retI hx hb hr hlocks hF hP hS (Nat.le_of_ble_eq_true rfl) (Nat.le_of_ble_eq_true rfl) dX5_wayBetween_30
    · have hF := g_f c10 hF
      refine lv_aload_n hx hb dX5_wayBetween_16 rfl (lv_at hl 0 rfl) ?_
      obtain ⟨h11, hF⟩ := g_if hF
      obtain ⟨q12, hq13, hF⟩ := g_bind hF
      refine g_get hx hb hts hiX5 hown hK hP 5 rfl (by decide) h11 4 (by decide) (hts (.fieldLink RX5 24 "CourierBees$Town" "ways" "[[I") (by decide +kernel)) (fun _ h9 => h9) ((gFv_r (by decide)).trans (congrArg va_rf hq13)) dX5_wayBetween_17 ?_
      refine lv_iload_n hx hb dX5_wayBetween_20 rfl (lv_at hl 1 rfl) ?_
      obtain ⟨h14, hF⟩ := g_if hF
      obtain ⟨h15, hF⟩ := g_if hF
      obtain ⟨q16, hq17, hF⟩ := g_bind hF
      refine g_aald hx hb hP (g_pr h14) (by decide) h15 hq17 dX5_wayBetween_21 ?_
      refine lv_iload_n hx hb dX5_wayBetween_22 rfl (lv_at hl 2 rfl) ?_
      obtain ⟨h18, hF⟩ := g_if hF
      obtain ⟨h19, hF⟩ := g_if hF
      refine g_iald hx hb hP (g_pr h18) h19 dX5_wayBetween_23 ?_
      refine lv_goto (tgt := 30) hx hb dX5_wayBetween_24 (by decide) ?_
      exact g_retI hx hb hr hlocks hF hP hS (Nat.le_of_ble_eq_true rfl) (Nat.le_of_ble_eq_true rfl) dX5_wayBetween_30
set_option maxHeartbeats 4000000 in
set_option maxRecDepth 100000 in
theorem k5_hasHive (l : Launch) (D : va_G) (base : Nat) (g : g_H) (a0 : Nat) (x1 : Int32) (rr : Int32) (gz : g_H) (hF : f5_hasHive g a0 x1 = some (rr, gz)) : Met l yX5_hasHive wsX5_hasHive ({ frames := 1, cells := 0, slots := 0, locals := 21 } : Room) (va_Pc [.ref a0, .int x1] (gC base D g)) (gQi base D rr gz) 0 0 (gA base) := by
  refine g_met (cc := cX5_hasHive) (maxL := 2) (ret := (some .boolean)) (lst := [(0, .ref a0), (1, .int x1)]) (by decide) rfl (Nat.le_of_ble_eq_true rfl) rfl ?_
  intro p e s m args below meth c ls hx hb hr hml hown hlocks hname hts hE hP hl
  have hown : s.vm.findClass RX5 = some m.cls := hown
  have hK := hE.1
  have hov := hE.2.2.2.2.2.2.2.1
  have hbz := hE.2.2.2.2.2.2.2.2.2.2.2.2
  have hS : va_S (gA base) s.heap s.heap [] := va_S.rf
  have hiX5 : ∀ w ∈ wsX50, w ∈ wsX5_hasHive := by decide +kernel
  unfold f5_hasHive at hF
  refine lv_aload_n hx hb dX5_hasHive_0 rfl (lv_at hl 0 rfl) ?_
  refine lv_iload_n hx hb dX5_hasHive_1 rfl (lv_at hl 1 rfl) ?_
  obtain ⟨h2, hF⟩ := g_if hF
  obtain ⟨v4, g3, h1, hF⟩ := g_bind2 hF
  refine g_calli (va_runV (As := [.int x1]) (rest := []) ⟨hx, hb, hml, hown, hts⟩ (k5_hasHouse l D base g a0 x1 v4 g3 h1) (cwV 1 hts gX5_hasHive_X5_hasHouse rfl rfl rfl (by decide +kernel) ⟨Nat.le_of_ble_eq_true rfl, Nat.le_of_ble_eq_true rfl⟩) (gC.preV hE hP hS 5 rfl (by decide) h2 [.int x1]) rfl rfl hl.1 rfl (lv_room (Nat.le_of_ble_eq_true rfl)) dX5_hasHive_2 ⟨(Nat.le_of_ble_eq_true rfl), (Nat.le_of_ble_eq_true rfl)⟩) hS (fun H locs hP hS => ?_)
  refine lv_if_eq (tgt := 21) hx hb dX5_hasHive_5 (by decide) (fun c5 => ?_) (fun c5 => ?_)
  · have hF := g_t c5 hF
    refine lv_iconst (v := 0) hx hb dX5_hasHive_21 (by decide) ?_
    exact g_retZ hx hb hr (Or.inl rfl) hlocks hF hP hS (Nat.le_of_ble_eq_true rfl) (Nat.le_of_ble_eq_true rfl) dX5_hasHive_22
  · have hF := g_f c5 hF
    refine lv_aload_n hx hb dX5_hasHive_8 rfl (lv_at hl 0 rfl) ?_
    obtain ⟨h6, hF⟩ := g_if hF
    obtain ⟨q7, hq8, hF⟩ := g_bind hF
    refine g_get hx hb hts hiX5 hown hK hP 5 rfl (by decide) h6 2 (by decide) (hts (.fieldLink RX5 9 "CourierBees$Town" "hives" "[Z") (by decide +kernel)) (fun _ h9 => h9) ((gFv_r (by decide)).trans (congrArg va_rf hq8)) dX5_hasHive_9 ?_
    refine lv_iload_n hx hb dX5_hasHive_12 rfl (lv_at hl 1 rfl) ?_
    obtain ⟨h9, hF⟩ := g_if hF
    obtain ⟨h10, hF⟩ := g_if hF
    refine g_zald hx hb hP (g_pr h9) h10 dX5_hasHive_13 ?_
    refine lv_if_eq (tgt := 21) hx hb dX5_hasHive_14 (by decide) (fun c11 => ?_) (fun c11 => ?_)
    · have hF := g_t c11 hF
      refine lv_iconst (v := 0) hx hb dX5_hasHive_21 (by decide) ?_
      exact g_retZ hx hb hr (Or.inl rfl) hlocks hF hP hS (Nat.le_of_ble_eq_true rfl) (Nat.le_of_ble_eq_true rfl) dX5_hasHive_22
    · have hF := g_f c11 hF
      refine lv_iconst (v := 1) hx hb dX5_hasHive_17 (by decide) ?_
      refine lv_goto (tgt := 22) hx hb dX5_hasHive_18 (by decide) ?_
      exact g_retZ hx hb hr (Or.inr rfl) hlocks hF hP hS (Nat.le_of_ble_eq_true rfl) (Nat.le_of_ble_eq_true rfl) dX5_hasHive_22
set_option maxHeartbeats 4000000 in
set_option maxRecDepth 100000 in
theorem k5_hasLane (l : Launch) (D : va_G) (base : Nat) (g : g_H) (a0 : Nat) (x1 : Int32) (rr : Int32) (gz : g_H) (hF : f5_hasLane g a0 x1 = some (rr, gz)) : Met l yX5_hasLane wsX5_hasLane ({ frames := 0, cells := 0, slots := 0, locals := 0 } : Room) (va_Pc [.ref a0, .int x1] (gC base D g)) (gQi base D rr gz) 0 0 (gA base) := by
  refine g_met (cc := cX5_hasLane) (maxL := 2) (ret := (some .boolean)) (lst := [(0, .ref a0), (1, .int x1)]) (by decide) rfl (Nat.le_of_ble_eq_true rfl) rfl ?_
  intro p e s m args below meth c ls hx hb hr hml hown hlocks hname hts hE hP hl
  have hown : s.vm.findClass RX5 = some m.cls := hown
  have hK := hE.1
  have hov := hE.2.2.2.2.2.2.2.1
  have hbz := hE.2.2.2.2.2.2.2.2.2.2.2.2
  have hS : va_S (gA base) s.heap s.heap [] := va_S.rf
  have hiX5 : ∀ w ∈ wsX50, w ∈ wsX5_hasLane := by decide +kernel
  unfold f5_hasLane at hF
  refine lv_iload_n hx hb dX5_hasLane_0 rfl (lv_at hl 1 rfl) ?_
  refine lv_if_lt (tgt := 16) hx hb dX5_hasLane_1 (by decide) (fun c1 => ?_) (fun c1 => ?_)
  · have hF := g_t c1 hF
    refine lv_iconst (v := 0) hx hb dX5_hasLane_16 (by decide) ?_
    exact g_retZ hx hb hr (Or.inl rfl) hlocks hF hP hS (Nat.le_of_ble_eq_true rfl) (Nat.le_of_ble_eq_true rfl) dX5_hasLane_17
  · have hF := g_f c1 hF
    refine lv_iload_n hx hb dX5_hasLane_4 rfl (lv_at hl 1 rfl) ?_
    refine lv_aload_n hx hb dX5_hasLane_5 rfl (lv_at hl 0 rfl) ?_
    obtain ⟨h2, hF⟩ := g_if hF
    refine g_get hx hb hts hiX5 hown hK hP 5 rfl (by decide) h2 1 (by decide) (hts (.fieldLink RX5 31 "CourierBees$Town" "laneCount" "I") (by decide +kernel)) (fun _ h9 => h9) (gFv_i (Or.inl rfl)) dX5_hasLane_6 ?_
    refine lv_icmp_ge (tgt := 16) hx hb dX5_hasLane_9 (by decide) (fun c3 => ?_) (fun c3 => ?_)
    · have hF := g_t c3 hF
      refine lv_iconst (v := 0) hx hb dX5_hasLane_16 (by decide) ?_
      exact g_retZ hx hb hr (Or.inl rfl) hlocks hF hP hS (Nat.le_of_ble_eq_true rfl) (Nat.le_of_ble_eq_true rfl) dX5_hasLane_17
    · have hF := g_f c3 hF
      refine lv_iconst (v := 1) hx hb dX5_hasLane_12 (by decide) ?_
      refine lv_goto (tgt := 17) hx hb dX5_hasLane_13 (by decide) ?_
      exact g_retZ hx hb hr (Or.inr rfl) hlocks hF hP hS (Nat.le_of_ble_eq_true rfl) (Nat.le_of_ble_eq_true rfl) dX5_hasLane_17
set_option maxHeartbeats 4000000 in
set_option maxRecDepth 100000 in
theorem k5_isOpen (l : Launch) (D : va_G) (base : Nat) (g : g_H) (a0 : Nat) (x1 : Int32) (x2 : Int32) (rr : Int32) (gz : g_H) (hF : f5_isOpen g a0 x1 x2 = some (rr, gz)) : Met l yX5_isOpen wsX5_isOpen ({ frames := 1, cells := 0, slots := 0, locals := 22 } : Room) (va_Pc [.ref a0, .int x1, .int x2] (gC base D g)) (gQi base D rr gz) 0 0 (gA base) := by
  refine g_met (cc := cX5_isOpen) (maxL := 3) (ret := (some .boolean)) (lst := [(0, .ref a0), (1, .int x1), (2, .int x2)]) (by decide) rfl (Nat.le_of_ble_eq_true rfl) rfl ?_
  intro p e s m args below meth c ls hx hb hr hml hown hlocks hname hts hE hP hl
  have hown : s.vm.findClass RX5 = some m.cls := hown
  have hK := hE.1
  have hov := hE.2.2.2.2.2.2.2.1
  have hbz := hE.2.2.2.2.2.2.2.2.2.2.2.2
  have hS : va_S (gA base) s.heap s.heap [] := va_S.rf
  have hiX5 : ∀ w ∈ wsX50, w ∈ wsX5_isOpen := by decide +kernel
  unfold f5_isOpen at hF
  refine lv_aload_n hx hb dX5_isOpen_0 rfl (lv_at hl 0 rfl) ?_
  refine lv_iload_n hx hb dX5_isOpen_1 rfl (lv_at hl 1 rfl) ?_
  obtain ⟨h2, hF⟩ := g_if hF
  obtain ⟨v4, g3, h1, hF⟩ := g_bind2 hF
  refine g_calli (va_runV (As := [.int x1]) (rest := []) ⟨hx, hb, hml, hown, hts⟩ (k5_hasLane l D base g a0 x1 v4 g3 h1) (cwV 1 hts gX5_isOpen_X5_hasLane rfl rfl rfl (by decide +kernel) ⟨Nat.le_of_ble_eq_true rfl, Nat.le_of_ble_eq_true rfl⟩) (gC.preV hE hP hS 5 rfl (by decide) h2 [.int x1]) rfl rfl hl.1 rfl (lv_room (Nat.le_of_ble_eq_true rfl)) dX5_isOpen_2 ⟨(Nat.le_of_ble_eq_true rfl), (Nat.le_of_ble_eq_true rfl)⟩) hS (fun H locs hP hS => ?_)
  refine lv_if_eq (tgt := 25) hx hb dX5_isOpen_5 (by decide) (fun c5 => ?_) (fun c5 => ?_)
  · have hF := g_t c5 hF
    refine lv_iconst (v := 0) hx hb dX5_isOpen_25 (by decide) ?_
    exact g_retZ hx hb hr (Or.inl rfl) hlocks hF hP hS (Nat.le_of_ble_eq_true rfl) (Nat.le_of_ble_eq_true rfl) dX5_isOpen_26
  · have hF := g_f c5 hF
    refine lv_aload_n hx hb dX5_isOpen_8 rfl (lv_at hl 0 rfl) ?_
    obtain ⟨h6, hF⟩ := g_if hF
    obtain ⟨q7, hq8, hF⟩ := g_bind hF
    refine g_get hx hb hts hiX5 hown hK hP 5 rfl (by decide) h6 3 (by decide) (hts (.fieldLink RX5 17 "CourierBees$Town" "lanes" "[LCourierBees$Lane;") (by decide +kernel)) (fun _ h9 => h9) ((gFv_r (by decide)).trans (congrArg va_rf hq8)) dX5_isOpen_9 ?_
    refine lv_iload_n hx hb dX5_isOpen_12 rfl (lv_at hl 1 rfl) ?_
    obtain ⟨h9, hF⟩ := g_if hF
    obtain ⟨h10, hF⟩ := g_if hF
    obtain ⟨q11, hq12, hF⟩ := g_bind hF
    refine g_aald hx hb hP (g_pr h9) (by decide) h10 hq12 dX5_isOpen_13 ?_
    refine lv_iload_n hx hb dX5_isOpen_14 rfl (lv_at hl 2 rfl) ?_
    obtain ⟨h14, hF⟩ := g_if hF
    obtain ⟨v16, g15, h13, hF⟩ := g_bind2 hF
    refine g_calli (va_runV (As := [.int x2]) (rest := []) ⟨hx, hb, hml, hown, hts⟩ (k2_isOpen l D base g3 q11 x2 v16 g15 h13) (cwV 1 hts gX5_isOpen_X2_isOpen rfl rfl rfl (by decide +kernel) ⟨Nat.le_of_ble_eq_true rfl, Nat.le_of_ble_eq_true rfl⟩) (gC.preV hE hP hS 2 rfl (by decide) h14 [.int x2]) rfl rfl hl.1 rfl (lv_room (Nat.le_of_ble_eq_true rfl)) dX5_isOpen_15 ⟨(Nat.le_of_ble_eq_true rfl), (Nat.le_of_ble_eq_true rfl)⟩) hS (fun H locs hP hS => ?_)
    refine lv_if_eq (tgt := 25) hx hb dX5_isOpen_18 (by decide) (fun c17 => ?_) (fun c17 => ?_)
    · have hF := g_t c17 hF
      refine lv_iconst (v := 0) hx hb dX5_isOpen_25 (by decide) ?_
      exact g_retZ hx hb hr (Or.inl rfl) hlocks hF hP hS (Nat.le_of_ble_eq_true rfl) (Nat.le_of_ble_eq_true rfl) dX5_isOpen_26
    · have hF := g_f c17 hF
      refine lv_iconst (v := 1) hx hb dX5_isOpen_21 (by decide) ?_
      refine lv_goto (tgt := 26) hx hb dX5_isOpen_22 (by decide) ?_
      exact g_retZ hx hb hr (Or.inr rfl) hlocks hF hP hS (Nat.le_of_ble_eq_true rfl) (Nat.le_of_ble_eq_true rfl) dX5_isOpen_26
set_option maxHeartbeats 4000000 in
set_option maxRecDepth 100000 in
theorem k5_lengthOf (l : Launch) (D : va_G) (base : Nat) (g : g_H) (a0 : Nat) (x1 : Int32) (rr : Int32) (gz : g_H) (hF : f5_lengthOf g a0 x1 = some (rr, gz)) : Met l yX5_lengthOf wsX5_lengthOf ({ frames := 1, cells := 0, slots := 0, locals := 21 } : Room) (va_Pc [.ref a0, .int x1] (gC base D g)) (gQi base D rr gz) 0 0 (gA base) := by
  refine g_met (cc := cX5_lengthOf) (maxL := 2) (ret := (some .int)) (lst := [(0, .ref a0), (1, .int x1)]) (by decide) rfl (Nat.le_of_ble_eq_true rfl) rfl ?_
  intro p e s m args below meth c ls hx hb hr hml hown hlocks hname hts hE hP hl
  have hown : s.vm.findClass RX5 = some m.cls := hown
  have hK := hE.1
  have hov := hE.2.2.2.2.2.2.2.1
  have hbz := hE.2.2.2.2.2.2.2.2.2.2.2.2
  have hS : va_S (gA base) s.heap s.heap [] := va_S.rf
  have hiX2 : ∀ w ∈ wsX20, w ∈ wsX5_lengthOf := by decide +kernel
  have hiX5 : ∀ w ∈ wsX50, w ∈ wsX5_lengthOf := by decide +kernel
  unfold f5_lengthOf at hF
  refine lv_aload_n hx hb dX5_lengthOf_0 rfl (lv_at hl 0 rfl) ?_
  refine lv_iload_n hx hb dX5_lengthOf_1 rfl (lv_at hl 1 rfl) ?_
  obtain ⟨h2, hF⟩ := g_if hF
  obtain ⟨v4, g3, h1, hF⟩ := g_bind2 hF
  refine g_calli (va_runV (As := [.int x1]) (rest := []) ⟨hx, hb, hml, hown, hts⟩ (k5_hasLane l D base g a0 x1 v4 g3 h1) (cwV 1 hts gX5_lengthOf_X5_hasLane rfl rfl rfl (by decide +kernel) ⟨Nat.le_of_ble_eq_true rfl, Nat.le_of_ble_eq_true rfl⟩) (gC.preV hE hP hS 5 rfl (by decide) h2 [.int x1]) rfl rfl hl.1 rfl (lv_room (Nat.le_of_ble_eq_true rfl)) dX5_lengthOf_2 ⟨(Nat.le_of_ble_eq_true rfl), (Nat.le_of_ble_eq_true rfl)⟩) hS (fun H locs hP hS => ?_)
  refine lv_if_eq (tgt := 20) hx hb dX5_lengthOf_5 (by decide) (fun c5 => ?_) (fun c5 => ?_)
  · have hF := g_t c5 hF
    refine lv_sipush (v := 1000) hx hb dX5_lengthOf_20 (by decide) ?_
    exact g_retI hx hb hr hlocks hF hP hS (Nat.le_of_ble_eq_true rfl) (Nat.le_of_ble_eq_true rfl) dX5_lengthOf_23
  · have hF := g_f c5 hF
    refine lv_aload_n hx hb dX5_lengthOf_8 rfl (lv_at hl 0 rfl) ?_
    obtain ⟨h6, hF⟩ := g_if hF
    obtain ⟨q7, hq8, hF⟩ := g_bind hF
    refine g_get hx hb hts hiX5 hown hK hP 5 rfl (by decide) h6 3 (by decide) (hts (.fieldLink RX5 17 "CourierBees$Town" "lanes" "[LCourierBees$Lane;") (by decide +kernel)) (fun _ h9 => h9) ((gFv_r (by decide)).trans (congrArg va_rf hq8)) dX5_lengthOf_9 ?_
    refine lv_iload_n hx hb dX5_lengthOf_12 rfl (lv_at hl 1 rfl) ?_
    obtain ⟨h9, hF⟩ := g_if hF
    obtain ⟨h10, hF⟩ := g_if hF
    obtain ⟨q11, hq12, hF⟩ := g_bind hF
    refine g_aald hx hb hP (g_pr h9) (by decide) h10 hq12 dX5_lengthOf_13 ?_
    obtain ⟨h13, hF⟩ := g_if hF
    refine g_get hx hb hts hiX2 hown hK hP 2 rfl (by decide) h13 2 (by decide) (hts (.fieldLink RX5 44 "CourierBees$Lane" "length" "I") (by decide +kernel)) (fun _ h9 => h9) (gFv_i (Or.inl rfl)) dX5_lengthOf_14 ?_
    refine lv_goto (tgt := 23) hx hb dX5_lengthOf_17 (by decide) ?_
    exact g_retI hx hb hr hlocks hF hP hS (Nat.le_of_ble_eq_true rfl) (Nat.le_of_ble_eq_true rfl) dX5_lengthOf_23
set_option maxHeartbeats 4000000 in
set_option maxRecDepth 100000 in
theorem k5_shortestLane (l : Launch) (D : va_G) (base : Nat) (g : g_H) (a0 : Nat) (x1 : Int32) (x2 : Int32) (rr : Int32) (gz : g_H) (hF : f5_shortestLane g a0 x1 x2 = some (rr, gz)) : Met l yX5_shortestLane wsX5_shortestLane ({ frames := 2, cells := 0, slots := 0, locals := 42 } : Room) (va_Pc [.ref a0, .int x1, .int x2] (gC base D g)) (gQi base D rr gz) 0 0 (gA base) := by
  refine g_met (cc := cX5_shortestLane) (maxL := 5) (ret := (some .int)) (lst := [(0, .ref a0), (1, .int x1), (2, .int x2)]) (by decide) rfl (Nat.le_of_ble_eq_true rfl) rfl ?_
  intro p e s m args below meth c ls hx hb hr hml hown hlocks hname hts hE hP hl
  have hown : s.vm.findClass RX5 = some m.cls := hown
  have hK := hE.1
  have hov := hE.2.2.2.2.2.2.2.1
  have hbz := hE.2.2.2.2.2.2.2.2.2.2.2.2
  have hS : va_S (gA base) s.heap s.heap [] := va_S.rf
  have hiX2 : ∀ w ∈ wsX20, w ∈ wsX5_shortestLane := by decide +kernel
  have hiX5 : ∀ w ∈ wsX50, w ∈ wsX5_shortestLane := by decide +kernel
  have HL5 : ∀ (n5 : Nat), ∀ (g : g_H) (a0 : Nat) (x1 : Int32) (x2 : Int32) (x3 : Int32) (x4 : Int32) (H : Heap) (locs : List Loc) (ls : Array Slot), f5_shortestLane_5 n5 g a0 x1 x2 x3 x4 = some (rr, gz) → gP base D s g H → va_S (gA base) s.heap H locs → lv_has ls 5 [(0, .ref a0), (1, .int x1), (2, .int x2), (3, .int x3), (4, .int x4)] → W p l e ({ frames := 2, cells := 0, slots := 0, locals := 42 } : Room) s m args below meth c H locs 0 0 (MQ below (gQi base D rr gz) args s 0 0 (gA base)) (F0 m 5 ls []) := by
    intro n5
    induction n5 with
    | zero => intro g a0 x1 x2 x3 x4 H locs ls hF hP hS hl; exact g_no hF
    | succ n5 ih5 =>
      have HB55 : ∀ (g : g_H) (a0 : Nat) (x1 : Int32) (x2 : Int32) (x3 : Int32) (x4 : Int32) (H : Heap) (locs : List Loc) (ls : Array Slot), f5_shortestLane_55 (f5_shortestLane_5 n5) g a0 x1 x2 x3 x4 = some (rr, gz) → gP base D s g H → va_S (gA base) s.heap H locs → lv_has ls 5 [(0, .ref a0), (1, .int x1), (2, .int x2), (3, .int x3), (4, .int x4)] → W p l e ({ frames := 2, cells := 0, slots := 0, locals := 42 } : Room) s m args below meth c H locs 0 0 (MQ below (gQi base D rr gz) args s 0 0 (gA base)) (F0 m 55 ls []) := by
        intro g a0 x1 x2 x3 x4 H locs ls hF hP hS hl
        unfold f5_shortestLane_55 at hF
        refine lv_iinc (v := x4 + (1 : Int32)) (lv' := [(4, .int (x4 + (1 : Int32))), (0, .ref a0), (1, .int x1), (2, .int x2), (3, .int x3)]) hx hb dX5_shortestLane_55 hl (k := 4) rfl rfl (by decide) rfl (fun ls hl => ?_)
        refine lv_goto (tgt := 5) hx hb dX5_shortestLane_58 (by decide) ?_
        exact ih5 _ _ _ _ _ _ _ _ _ hF hP hS (lv_sub hl [1, 2, 3, 4, 0] rfl)
      have HB52 : ∀ (g : g_H) (a0 : Nat) (x1 : Int32) (x2 : Int32) (x4 : Int32) (H : Heap) (locs : List Loc) (ls : Array Slot), f5_shortestLane_52 (f5_shortestLane_5 n5) g a0 x1 x2 x4 = some (rr, gz) → gP base D s g H → va_S (gA base) s.heap H locs → lv_has ls 5 [(0, .ref a0), (1, .int x1), (2, .int x2), (4, .int x4)] → W p l e ({ frames := 2, cells := 0, slots := 0, locals := 42 } : Room) s m args below meth c H locs 0 0 (MQ below (gQi base D rr gz) args s 0 0 (gA base)) (F0 m 52 ls []) := by
        intro g a0 x1 x2 x4 H locs ls hF hP hS hl
        unfold f5_shortestLane_52 at hF
        refine lv_iload hx hb dX5_shortestLane_52 (lv_at hl 3 rfl) ?_
        refine lv_istore_n (lv' := [(3, .int x4), (0, .ref a0), (1, .int x1), (2, .int x2), (4, .int x4)]) hx hb dX5_shortestLane_54 rfl hl (by decide) rfl (fun ls hl => ?_)
        exact HB55 _ _ _ _ _ _ _ _ _ hF hP hS (lv_sub hl [1, 2, 3, 0, 4] rfl)
      intro g a0 x1 x2 x3 x4 H locs ls hF hP hS hl
      have hF : f5_shortestLane_5b (f5_shortestLane_5 n5) g a0 x1 x2 x3 x4 = some (rr, gz) := hF
      unfold f5_shortestLane_5b at hF
      refine lv_iload hx hb dX5_shortestLane_5 (lv_at hl 4 rfl) ?_
      refine lv_aload_n hx hb dX5_shortestLane_7 rfl (lv_at hl 0 rfl) ?_
      obtain ⟨h1, hF⟩ := g_if hF
      refine g_get hx hb hts hiX5 hown hK hP 5 rfl (by decide) h1 1 (by decide) (hts (.fieldLink RX5 31 "CourierBees$Town" "laneCount" "I") (by decide +kernel)) (fun _ h9 => h9) (gFv_i (Or.inl rfl)) dX5_shortestLane_8 ?_
      refine lv_icmp_ge (tgt := 61) hx hb dX5_shortestLane_11 (by decide) (fun c2 => ?_) (fun c2 => ?_)
      · have hF := g_t c2 hF
        refine lv_iload_n hx hb dX5_shortestLane_61 rfl (lv_at hl 3 rfl) ?_
        exact g_retI hx hb hr hlocks hF hP hS (Nat.le_of_ble_eq_true rfl) (Nat.le_of_ble_eq_true rfl) dX5_shortestLane_62
      · have hF := g_f c2 hF
        refine lv_aload_n hx hb dX5_shortestLane_14 rfl (lv_at hl 0 rfl) ?_
        obtain ⟨q3, hq4, hF⟩ := g_bind hF
        refine g_get hx hb hts hiX5 hown hK hP 5 rfl (by decide) h1 3 (by decide) (hts (.fieldLink RX5 17 "CourierBees$Town" "lanes" "[LCourierBees$Lane;") (by decide +kernel)) (fun _ h9 => h9) ((gFv_r (by decide)).trans (congrArg va_rf hq4)) dX5_shortestLane_15 ?_
        refine lv_iload hx hb dX5_shortestLane_18 (lv_at hl 4 rfl) ?_
        obtain ⟨h5, hF⟩ := g_if hF
        obtain ⟨h6, hF⟩ := g_if hF
        obtain ⟨q7, hq8, hF⟩ := g_bind hF
        refine g_aald hx hb hP (g_pr h5) (by decide) h6 hq8 dX5_shortestLane_20 ?_
        refine lv_iload_n hx hb dX5_shortestLane_21 rfl (lv_at hl 1 rfl) ?_
        refine lv_iload_n hx hb dX5_shortestLane_22 rfl (lv_at hl 2 rfl) ?_
        obtain ⟨h10, hF⟩ := g_if hF
        obtain ⟨v12, g11, h9, hF⟩ := g_bind2 hF
        refine g_calli (va_runV (As := [.int x1, .int x2]) (rest := []) ⟨hx, hb, hml, hown, hts⟩ (k2_joins l D base g q7 x1 x2 v12 g11 h9) (cwV 2 hts gX5_shortestLane_X2_joins rfl rfl rfl (by decide +kernel) ⟨Nat.le_of_ble_eq_true rfl, Nat.le_of_ble_eq_true rfl⟩) (gC.preV hE hP hS 2 rfl (by decide) h10 [.int x1, .int x2]) rfl rfl hl.1 rfl (lv_room (Nat.le_of_ble_eq_true rfl)) dX5_shortestLane_23 ⟨(Nat.le_of_ble_eq_true rfl), (Nat.le_of_ble_eq_true rfl)⟩) hS (fun H locs hP hS => ?_)
        refine lv_if_eq (tgt := 55) hx hb dX5_shortestLane_26 (by decide) (fun c13 => ?_) (fun c13 => ?_)
        · have hF := g_t c13 hF
          exact HB55 _ _ _ _ _ _ _ _ _ hF hP hS (lv_sub hl [0, 1, 2, 3, 4] rfl)
        · have hF := g_f c13 hF
          refine lv_iload_n hx hb dX5_shortestLane_29 rfl (lv_at hl 3 rfl) ?_
          refine lv_iconst (v := (-1)) hx hb dX5_shortestLane_30 (by decide) ?_
          refine lv_icmp_eq (tgt := 52) hx hb dX5_shortestLane_31 (by decide) (fun c14 => ?_) (fun c14 => ?_)
          · have hF := g_t c14 hF
            exact HB52 _ _ _ _ _ _ _ _ hF hP hS (lv_sub hl [0, 1, 2, 4] rfl)
          · have hF := g_f c14 hF
            refine lv_aload_n hx hb dX5_shortestLane_34 rfl (lv_at hl 0 rfl) ?_
            obtain ⟨h15, hF⟩ := g_if hF
            obtain ⟨q16, hq17, hF⟩ := g_bind hF
            refine g_get hx hb hts hiX5 hown hK hP 5 rfl (by decide) h15 3 (by decide) (hts (.fieldLink RX5 17 "CourierBees$Town" "lanes" "[LCourierBees$Lane;") (by decide +kernel)) (fun _ h9 => h9) ((gFv_r (by decide)).trans (congrArg va_rf hq17)) dX5_shortestLane_35 ?_
            refine lv_iload hx hb dX5_shortestLane_38 (lv_at hl 4 rfl) ?_
            obtain ⟨h18, hF⟩ := g_if hF
            obtain ⟨h19, hF⟩ := g_if hF
            obtain ⟨q20, hq21, hF⟩ := g_bind hF
            refine g_aald hx hb hP (g_pr h18) (by decide) h19 hq21 dX5_shortestLane_40 ?_
            obtain ⟨h22, hF⟩ := g_if hF
            refine g_get hx hb hts hiX2 hown hK hP 2 rfl (by decide) h22 2 (by decide) (hts (.fieldLink RX5 44 "CourierBees$Lane" "length" "I") (by decide +kernel)) (fun _ h9 => h9) (gFv_i (Or.inl rfl)) dX5_shortestLane_41 ?_
            refine lv_aload_n hx hb dX5_shortestLane_44 rfl (lv_at hl 0 rfl) ?_
            refine lv_iload_n hx hb dX5_shortestLane_45 rfl (lv_at hl 3 rfl) ?_
            obtain ⟨v25, g24, h23, hF⟩ := g_bind2 hF
            refine g_calli (va_runV (As := [.int x3]) (rest := [.int (gI g11 q20 2)]) ⟨hx, hb, hml, hown, hts⟩ (k5_lengthOf l D base g11 a0 x3 v25 g24 h23) (cwV 1 hts gX5_shortestLane_X5_lengthOf rfl rfl rfl (by decide +kernel) ⟨Nat.le_of_ble_eq_true rfl, Nat.le_of_ble_eq_true rfl⟩) (gC.preV hE hP hS 5 rfl (by decide) h15 [.int x3]) rfl rfl hl.1 rfl (lv_room (Nat.le_of_ble_eq_true rfl)) dX5_shortestLane_46 ⟨(Nat.le_of_ble_eq_true rfl), (Nat.le_of_ble_eq_true rfl)⟩) hS (fun H locs hP hS => ?_)
            refine lv_icmp_ge (tgt := 55) hx hb dX5_shortestLane_49 (by decide) (fun c26 => ?_) (fun c26 => ?_)
            · have hF := g_t c26 hF
              exact HB55 _ _ _ _ _ _ _ _ _ hF hP hS (lv_sub hl [0, 1, 2, 3, 4] rfl)
            · have hF := g_f c26 hF
              exact HB52 _ _ _ _ _ _ _ _ hF hP hS (lv_sub hl [0, 1, 2, 4] rfl)
  unfold f5_shortestLane at hF
  refine lv_iconst (v := (-1)) hx hb dX5_shortestLane_0 (by decide) ?_
  refine lv_istore_n (lv' := [(3, .int ((-1 : Int32))), (0, .ref a0), (1, .int x1), (2, .int x2)]) hx hb dX5_shortestLane_1 rfl hl (by decide) rfl (fun ls hl => ?_)
  refine lv_iconst (v := 0) hx hb dX5_shortestLane_2 (by decide) ?_
  refine lv_istore (lv' := [(4, .int ((0 : Int32))), (3, .int ((-1 : Int32))), (0, .ref a0), (1, .int x1), (2, .int x2)]) hx hb dX5_shortestLane_3 hl (by decide) rfl (fun ls hl => ?_)
  exact HL5 300 _ _ _ _ _ _ _ _ _ hF hP hS (lv_sub hl [2, 3, 4, 1, 0] rfl)
set_option maxHeartbeats 4000000 in
set_option maxRecDepth 100000 in
theorem k5_join (l : Launch) (D : va_G) (base : Nat) (g : g_H) (a0 : Nat) (x1 : Int32) (x2 : Int32) (x3 : Int32) (rr : Int32) (gz : g_H) (hF : f5_join g a0 x1 x2 x3 = some (rr, gz)) : Met l yX5_join wsX5_join ({ frames := 1, cells := 0, slots := 0, locals := 24 } : Room) (va_Pc [.ref a0, .int x1, .int x2, .int x3] (gC base D g)) (gQi base D rr gz) 0 0 (gA base) := by
  refine g_met (cc := cX5_join) (maxL := 8) (ret := (some .int)) (lst := [(0, .ref a0), (1, .int x1), (2, .int x2), (3, .int x3)]) (by decide) rfl (Nat.le_of_ble_eq_true rfl) rfl ?_
  intro p e s m args below meth c ls hx hb hr hml hown hlocks hname hts hE hP hl
  have hown : s.vm.findClass RX5 = some m.cls := hown
  have hK := hE.1
  have hov := hE.2.2.2.2.2.2.2.1
  have hbz := hE.2.2.2.2.2.2.2.2.2.2.2.2
  have hS : va_S (gA base) s.heap s.heap [] := va_S.rf
  have hiX5 : ∀ w ∈ wsX50, w ∈ wsX5_join := by decide +kernel
  have HL18 : ∀ (n18 : Nat), ∀ (g : g_H) (a0 : Nat) (x1 : Int32) (x2 : Int32) (x3 : Int32) (x4 : Int32) (H : Heap) (locs : List Loc) (ls : Array Slot), f5_join_18 n18 g a0 x1 x2 x3 x4 = some (rr, gz) → gP base D s g H → va_S (gA base) s.heap H locs → lv_has ls 8 [(0, .ref a0), (1, .int x1), (2, .int x2), (3, .int x3), (4, .int x4)] → W p l e ({ frames := 1, cells := 0, slots := 0, locals := 24 } : Room) s m args below meth c H locs 0 0 (MQ below (gQi base D rr gz) args s 0 0 (gA base)) (F0 m 18 ls []) := by
    intro n18
    induction n18 with
    | zero => intro g a0 x1 x2 x3 x4 H locs ls hF hP hS hl; exact g_no hF
    | succ n18 ih18 =>
      have HL30 : ∀ (n30 : Nat), ∀ (g : g_H) (a0 : Nat) (x1 : Int32) (x2 : Int32) (x3 : Int32) (x4 : Int32) (x5 : Int32) (H : Heap) (locs : List Loc) (ls : Array Slot), f5_join_30 (f5_join_18 n18) n30 g a0 x1 x2 x3 x4 x5 = some (rr, gz) → gP base D s g H → va_S (gA base) s.heap H locs → lv_has ls 8 [(0, .ref a0), (1, .int x1), (2, .int x2), (3, .int x3), (4, .int x4), (5, .int x5)] → W p l e ({ frames := 1, cells := 0, slots := 0, locals := 24 } : Room) s m args below meth c H locs 0 0 (MQ below (gQi base D rr gz) args s 0 0 (gA base)) (F0 m 30 ls []) := by
        intro n30
        induction n30 with
        | zero => intro g a0 x1 x2 x3 x4 x5 H locs ls hF hP hS hl; exact g_no hF
        | succ n30 ih30 =>
          intro g a0 x1 x2 x3 x4 x5 H locs ls hF hP hS hl
          have hF : f5_join_30b (f5_join_18 n18) (f5_join_30 (f5_join_18 n18) n30) g a0 x1 x2 x3 x4 x5 = some (rr, gz) := hF
          unfold f5_join_30b at hF
          refine lv_iload hx hb dX5_join_30 (lv_at hl 5 rfl) ?_
          refine lv_aload_n hx hb dX5_join_32 rfl (lv_at hl 0 rfl) ?_
          obtain ⟨h14, hF⟩ := g_if hF
          refine g_get hx hb hts hiX5 hown hK hP 5 rfl (by decide) h14 0 (by decide) (hts (.fieldLink RX5 27 "CourierBees$Town" "houseCount" "I") (by decide +kernel)) (fun _ h9 => h9) (gFv_i (Or.inl rfl)) dX5_join_33 ?_
          refine lv_icmp_ge (tgt := 121) hx hb dX5_join_36 (by decide) (fun c15 => ?_) (fun c15 => ?_)
          · have hF := g_t c15 hF
            refine lv_iinc (v := x4 + (1 : Int32)) (lv' := [(4, .int (x4 + (1 : Int32))), (0, .ref a0), (1, .int x1), (2, .int x2), (3, .int x3), (5, .int x5)]) hx hb dX5_join_121 hl (k := 4) rfl rfl (by decide) rfl (fun ls hl => ?_)
            refine lv_goto (tgt := 18) hx hb dX5_join_124 (by decide) ?_
            exact ih18 _ _ _ _ _ _ _ _ _ hF hP hS (lv_sub hl [1, 2, 3, 4, 0] rfl)
          · have hF := g_f c15 hF
            refine lv_aload_n hx hb dX5_join_39 rfl (lv_at hl 0 rfl) ?_
            obtain ⟨q16, hq17, hF⟩ := g_bind hF
            refine g_get hx hb hts hiX5 hown hK hP 5 rfl (by decide) h14 4 (by decide) (hts (.fieldLink RX5 24 "CourierBees$Town" "ways" "[[I") (by decide +kernel)) (fun _ h9 => h9) ((gFv_r (by decide)).trans (congrArg va_rf hq17)) dX5_join_40 ?_
            refine lv_iload hx hb dX5_join_43 (lv_at hl 4 rfl) ?_
            obtain ⟨h18, hF⟩ := g_if hF
            obtain ⟨h19, hF⟩ := g_if hF
            obtain ⟨q20, hq21, hF⟩ := g_bind hF
            refine g_aald hx hb hP (g_pr h18) (by decide) h19 hq21 dX5_join_45 ?_
            refine lv_iload_n hx hb dX5_join_46 rfl (lv_at hl 1 rfl) ?_
            obtain ⟨h22, hF⟩ := g_if hF
            obtain ⟨h23, hF⟩ := g_if hF
            refine g_iald hx hb hP (g_pr h22) h23 dX5_join_47 ?_
            refine lv_iload_n hx hb dX5_join_48 rfl (lv_at hl 3 rfl) ?_
            refine lv_iadd hx hb dX5_join_49 ?_
            refine lv_aload_n hx hb dX5_join_50 rfl (lv_at hl 0 rfl) ?_
            obtain ⟨q24, hq25, hF⟩ := g_bind hF
            refine g_get hx hb hts hiX5 hown hK hP 5 rfl (by decide) h14 4 (by decide) (hts (.fieldLink RX5 24 "CourierBees$Town" "ways" "[[I") (by decide +kernel)) (fun _ h9 => h9) ((gFv_r (by decide)).trans (congrArg va_rf hq25)) dX5_join_51 ?_
            refine lv_iload_n hx hb dX5_join_54 rfl (lv_at hl 2 rfl) ?_
            obtain ⟨h26, hF⟩ := g_if hF
            obtain ⟨h27, hF⟩ := g_if hF
            obtain ⟨q28, hq29, hF⟩ := g_bind hF
            refine g_aald hx hb hP (g_pr h26) (by decide) h27 hq29 dX5_join_55 ?_
            refine lv_iload hx hb dX5_join_56 (lv_at hl 5 rfl) ?_
            obtain ⟨h30, hF⟩ := g_if hF
            obtain ⟨h31, hF⟩ := g_if hF
            refine g_iald hx hb hP (g_pr h30) h31 dX5_join_58 ?_
            refine lv_iadd hx hb dX5_join_59 ?_
            refine lv_istore (lv' := [(6, .int (((gI g q20 (Int32.toNatClampNeg x1)) + x3) + (gI g q28 (Int32.toNatClampNeg x5)))), (0, .ref a0), (1, .int x1), (2, .int x2), (3, .int x3), (4, .int x4), (5, .int x5)]) hx hb dX5_join_60 hl (by decide) rfl (fun ls hl => ?_)
            refine lv_aload_n hx hb dX5_join_62 rfl (lv_at hl 1 rfl) ?_
            obtain ⟨q32, hq33, hF⟩ := g_bind hF
            refine g_get hx hb hts hiX5 hown hK hP 5 rfl (by decide) h14 4 (by decide) (hts (.fieldLink RX5 24 "CourierBees$Town" "ways" "[[I") (by decide +kernel)) (fun _ h9 => h9) ((gFv_r (by decide)).trans (congrArg va_rf hq33)) dX5_join_63 ?_
            refine lv_iload hx hb dX5_join_66 (lv_at hl 5 rfl) ?_
            obtain ⟨h34, hF⟩ := g_if hF
            obtain ⟨h35, hF⟩ := g_if hF
            obtain ⟨q36, hq37, hF⟩ := g_bind hF
            refine g_aald hx hb hP (g_pr h34) (by decide) h35 hq37 dX5_join_68 ?_
            refine lv_iload_n hx hb dX5_join_69 rfl (lv_at hl 3 rfl) ?_
            obtain ⟨h38, hF⟩ := g_if hF
            obtain ⟨h39, hF⟩ := g_if hF
            refine g_iald hx hb hP (g_pr h38) h39 dX5_join_70 ?_
            refine lv_iload_n hx hb dX5_join_71 rfl (lv_at hl 4 rfl) ?_
            refine lv_iadd hx hb dX5_join_72 ?_
            refine lv_aload_n hx hb dX5_join_73 rfl (lv_at hl 1 rfl) ?_
            obtain ⟨q40, hq41, hF⟩ := g_bind hF
            refine g_get hx hb hts hiX5 hown hK hP 5 rfl (by decide) h14 4 (by decide) (hts (.fieldLink RX5 24 "CourierBees$Town" "ways" "[[I") (by decide +kernel)) (fun _ h9 => h9) ((gFv_r (by decide)).trans (congrArg va_rf hq41)) dX5_join_74 ?_
            refine lv_iload_n hx hb dX5_join_77 rfl (lv_at hl 2 rfl) ?_
            obtain ⟨h42, hF⟩ := g_if hF
            obtain ⟨h43, hF⟩ := g_if hF
            obtain ⟨q44, hq45, hF⟩ := g_bind hF
            refine g_aald hx hb hP (g_pr h42) (by decide) h43 hq45 dX5_join_78 ?_
            refine lv_iload hx hb dX5_join_79 (lv_at hl 6 rfl) ?_
            obtain ⟨h46, hF⟩ := g_if hF
            obtain ⟨h47, hF⟩ := g_if hF
            refine g_iald hx hb hP (g_pr h46) h47 dX5_join_81 ?_
            refine lv_iadd hx hb dX5_join_82 ?_
            refine lv_istore (lv' := [(7, .int (((gI g q36 (Int32.toNatClampNeg x2)) + x3) + (gI g q44 (Int32.toNatClampNeg x5)))), (6, .int (((gI g q20 (Int32.toNatClampNeg x1)) + x3) + (gI g q28 (Int32.toNatClampNeg x5)))), (0, .ref a0), (1, .int x1), (2, .int x2), (3, .int x3), (4, .int x4), (5, .int x5)]) hx hb dX5_join_83 hl (by decide) rfl (fun ls hl => ?_)
            refine lv_aload_n hx hb dX5_join_85 rfl (lv_at hl 2 rfl) ?_
            obtain ⟨q48, hq49, hF⟩ := g_bind hF
            refine g_get hx hb hts hiX5 hown hK hP 5 rfl (by decide) h14 4 (by decide) (hts (.fieldLink RX5 24 "CourierBees$Town" "ways" "[[I") (by decide +kernel)) (fun _ h9 => h9) ((gFv_r (by decide)).trans (congrArg va_rf hq49)) dX5_join_86 ?_
            refine lv_iload hx hb dX5_join_89 (lv_at hl 6 rfl) ?_
            obtain ⟨h50, hF⟩ := g_if hF
            obtain ⟨h51, hF⟩ := g_if hF
            obtain ⟨q52, hq53, hF⟩ := g_bind hF
            refine g_aald hx hb hP (g_pr h50) (by decide) h51 hq53 dX5_join_91 ?_
            refine lv_iload hx hb dX5_join_92 (lv_at hl 7 rfl) ?_
            refine lv_aload_n hx hb dX5_join_94 rfl (lv_at hl 2 rfl) ?_
            obtain ⟨q54, hq55, hF⟩ := g_bind hF
            refine g_get hx hb hts hiX5 hown hK hP 5 rfl (by decide) h14 4 (by decide) (hts (.fieldLink RX5 24 "CourierBees$Town" "ways" "[[I") (by decide +kernel)) (fun _ h9 => h9) ((gFv_r (by decide)).trans (congrArg va_rf hq55)) dX5_join_95 ?_
            refine lv_iload hx hb dX5_join_98 (lv_at hl 6 rfl) ?_
            obtain ⟨h56, hF⟩ := g_if hF
            obtain ⟨h57, hF⟩ := g_if hF
            obtain ⟨q58, hq59, hF⟩ := g_bind hF
            refine g_aald hx hb hP (g_pr h56) (by decide) h57 hq59 dX5_join_100 ?_
            refine lv_iload hx hb dX5_join_101 (lv_at hl 7 rfl) ?_
            obtain ⟨h60, hF⟩ := g_if hF
            obtain ⟨h61, hF⟩ := g_if hF
            refine g_iald hx hb hP (g_pr h60) h61 dX5_join_103 ?_
            refine lv_iload hx hb dX5_join_104 (lv_at hl 1 rfl) ?_
            refine lv_iload hx hb dX5_join_106 (lv_at hl 0 rfl) ?_
            refine va_mmin hx hb (hml.trans hl.1.symm) hown (hts (.methodLink RX5 51 Lib.Math.min.name) (by decide +kernel)) (hts (.static Lib.Math.min.name) (by decide +kernel)) (hts (.initialized "java/lang/Math") (by decide +kernel)) (hts (.code Lib.Math.min.name Lib.Math.min.code 2 (some .int)) (by decide +kernel)) (Nat.le_of_ble_eq_true rfl) (Nat.le_of_ble_eq_true rfl) (Nat.le_of_ble_eq_true rfl) (Nat.le_of_ble_eq_true rfl) dX5_join_108 ?_
            refine va_mmin hx hb (hml.trans hl.1.symm) hown (hts (.methodLink RX5 51 Lib.Math.min.name) (by decide +kernel)) (hts (.static Lib.Math.min.name) (by decide +kernel)) (hts (.initialized "java/lang/Math") (by decide +kernel)) (hts (.code Lib.Math.min.name Lib.Math.min.code 2 (some .int)) (by decide +kernel)) (Nat.le_of_ble_eq_true rfl) (Nat.le_of_ble_eq_true rfl) (Nat.le_of_ble_eq_true rfl) (Nat.le_of_ble_eq_true rfl) dX5_join_111 ?_
            obtain ⟨y62, e63, hF⟩ := g_let hF
            rw [e63]
            obtain ⟨h64, hF⟩ := g_if hF
            obtain ⟨h65, hF⟩ := g_if hF
            refine g_iast hx hb hP hS (g_pr h64) h65 dX5_join_114 (fun H locs hP hS => ?_)
            refine lv_iinc (v := x5 + (1 : Int32)) (lv' := [(5, .int (x5 + (1 : Int32))), (7, .int (((gI g q36 (Int32.toNatClampNeg x2)) + x3) + (gI g q44 (Int32.toNatClampNeg x5)))), (6, .int (((gI g q20 (Int32.toNatClampNeg x1)) + x3) + (gI g q28 (Int32.toNatClampNeg x5)))), (0, .ref a0), (1, .int x1), (2, .int x2), (3, .int x3), (4, .int x4)]) hx hb dX5_join_115 hl (k := 7) rfl rfl (by decide) rfl (fun ls hl => ?_)
            refine lv_goto (tgt := 30) hx hb dX5_join_118 (by decide) ?_
            exact ih30 _ _ _ _ _ _ _ _ _ _ hF hP hS (lv_sub hl [3, 4, 5, 6, 7, 0] rfl)
      intro g a0 x1 x2 x3 x4 H locs ls hF hP hS hl
      have hF : f5_join_18b (f5_join_18 n18) g a0 x1 x2 x3 x4 = some (rr, gz) := hF
      unfold f5_join_18b at hF
      refine lv_iload hx hb dX5_join_18 (lv_at hl 4 rfl) ?_
      refine lv_aload_n hx hb dX5_join_20 rfl (lv_at hl 0 rfl) ?_
      obtain ⟨h12, hF⟩ := g_if hF
      refine g_get hx hb hts hiX5 hown hK hP 5 rfl (by decide) h12 0 (by decide) (hts (.fieldLink RX5 27 "CourierBees$Town" "houseCount" "I") (by decide +kernel)) (fun _ h9 => h9) (gFv_i (Or.inl rfl)) dX5_join_21 ?_
      refine lv_icmp_ge (tgt := 127) hx hb dX5_join_24 (by decide) (fun c13 => ?_) (fun c13 => ?_)
      · have hF := g_t c13 hF
        refine lv_aload_n hx hb dX5_join_127 rfl (lv_at hl 0 rfl) ?_
        refine lv_dup hx hb dX5_join_128 rfl ?_
        refine g_get hx hb hts hiX5 hown hK hP 5 rfl (by decide) h12 1 (by decide) (hts (.fieldLink RX5 31 "CourierBees$Town" "laneCount" "I") (by decide +kernel)) (fun _ h9 => h9) (gFv_i (Or.inl rfl)) dX5_join_129 ?_
        refine lv_dup_x1 hx hb dX5_join_132 rfl rfl ?_
        refine lv_iconst (v := 1) hx hb dX5_join_133 (by decide) ?_
        refine lv_iadd hx hb dX5_join_134 ?_
        refine g_puti hx hb hts hiX5 tyX5 tyX5_ok nmX5 hown hK hP hS 5 rfl (by decide) h12 1 (by decide) (hts (.fieldLink RX5 31 "CourierBees$Town" "laneCount" "I") (by decide +kernel)) (fun _ h9 => h9) (Or.inl rfl) (Or.inl rfl) rfl rfl dX5_join_135 (fun H locs hP hS => ?_)
        exact g_retI hx hb hr hlocks hF hP hS (Nat.le_of_ble_eq_true rfl) (Nat.le_of_ble_eq_true rfl) dX5_join_138
      · have hF := g_f c13 hF
        refine lv_iconst (v := 0) hx hb dX5_join_27 (by decide) ?_
        refine lv_istore (lv' := [(5, .int ((0 : Int32))), (0, .ref a0), (1, .int x1), (2, .int x2), (3, .int x3), (4, .int x4)]) hx hb dX5_join_28 hl (by decide) rfl (fun ls hl => ?_)
        exact HL30 300 _ _ _ _ _ _ _ _ _ _ hF hP hS (lv_sub hl [1, 2, 3, 4, 5, 0] rfl)
  unfold f5_join at hF
  refine lv_aload_n hx hb dX5_join_0 rfl (lv_at hl 0 rfl) ?_
  obtain ⟨h1, hF⟩ := g_if hF
  obtain ⟨q2, hq3, hF⟩ := g_bind hF
  refine g_get hx hb hts hiX5 hown hK hP 5 rfl (by decide) h1 3 (by decide) (hts (.fieldLink RX5 17 "CourierBees$Town" "lanes" "[LCourierBees$Lane;") (by decide +kernel)) (fun _ h9 => h9) ((gFv_r (by decide)).trans (congrArg va_rf hq3)) dX5_join_1 ?_
  refine lv_aload_n hx hb dX5_join_4 rfl (lv_at hl 0 rfl) ?_
  refine g_get hx hb hts hiX5 hown hK hP 5 rfl (by decide) h1 1 (by decide) (hts (.fieldLink RX5 31 "CourierBees$Town" "laneCount" "I") (by decide +kernel)) (fun _ h9 => h9) (gFv_i (Or.inl rfl)) dX5_join_5 ?_
  obtain ⟨h4, hF⟩ := g_if hF
  obtain ⟨h5, hF⟩ := g_if hF
  obtain ⟨q6, hq7, hF⟩ := g_bind hF
  refine g_aald hx hb hP (g_pr h4) (by decide) h5 hq7 dX5_join_8 ?_
  refine lv_iload_n hx hb dX5_join_9 rfl (lv_at hl 1 rfl) ?_
  refine lv_iload_n hx hb dX5_join_10 rfl (lv_at hl 2 rfl) ?_
  refine lv_iload_n hx hb dX5_join_11 rfl (lv_at hl 3 rfl) ?_
  obtain ⟨h9, hF⟩ := g_if hF
  obtain ⟨g10, h8, hF⟩ := g_bind hF
  refine g_callv (va_runV (As := [.int x1, .int x2, .int x3]) (rest := []) ⟨hx, hb, hml, hown, hts⟩ (k2_build l D base g q6 x1 x2 x3 g10 h8) (cwV 3 hts gX5_join_X2_build rfl rfl rfl (by decide +kernel) ⟨Nat.le_of_ble_eq_true rfl, Nat.le_of_ble_eq_true rfl⟩) (gC.preV hE hP hS 2 rfl (by decide) h9 [.int x1, .int x2, .int x3]) rfl rfl hl.1 rfl (lv_room (Nat.le_of_ble_eq_true rfl)) dX5_join_12 ⟨(Nat.le_of_ble_eq_true rfl), (Nat.le_of_ble_eq_true rfl)⟩) hS (fun H locs hP hS => ?_)
  refine lv_iconst (v := 0) hx hb dX5_join_15 (by decide) ?_
  refine lv_istore (lv' := [(4, .int ((0 : Int32))), (0, .ref a0), (1, .int x1), (2, .int x2), (3, .int x3)]) hx hb dX5_join_16 hl (by decide) rfl (fun ls hl => ?_)
  exact HL18 300 _ _ _ _ _ _ _ _ _ hF hP hS (lv_sub hl [1, 2, 3, 4, 0] rfl)
set_option maxHeartbeats 4000000 in
set_option maxRecDepth 100000 in
theorem k5_openGates (l : Launch) (D : va_G) (base : Nat) (g : g_H) (a0 : Nat) (x1 : Int32) (rr : Int32) (gz : g_H) (hF : f5_openGates g a0 x1 = some (rr, gz)) : Met l yX5_openGates wsX5_openGates ({ frames := 1, cells := 0, slots := 0, locals := 22 } : Room) (va_Pc [.ref a0, .int x1] (gC base D g)) (gQi base D rr gz) 0 0 (gA base) := by
  refine g_met (cc := cX5_openGates) (maxL := 4) (ret := (some .int)) (lst := [(0, .ref a0), (1, .int x1)]) (by decide) rfl (Nat.le_of_ble_eq_true rfl) rfl ?_
  intro p e s m args below meth c ls hx hb hr hml hown hlocks hname hts hE hP hl
  have hown : s.vm.findClass RX5 = some m.cls := hown
  have hK := hE.1
  have hov := hE.2.2.2.2.2.2.2.1
  have hbz := hE.2.2.2.2.2.2.2.2.2.2.2.2
  have hS : va_S (gA base) s.heap s.heap [] := va_S.rf
  have hiX5 : ∀ w ∈ wsX50, w ∈ wsX5_openGates := by decide +kernel
  have HL4 : ∀ (n4 : Nat), ∀ (g : g_H) (a0 : Nat) (x1 : Int32) (x2 : Int32) (x3 : Int32) (H : Heap) (locs : List Loc) (ls : Array Slot), f5_openGates_4 n4 g a0 x1 x2 x3 = some (rr, gz) → gP base D s g H → va_S (gA base) s.heap H locs → lv_has ls 4 [(0, .ref a0), (1, .int x1), (2, .int x2), (3, .int x3)] → W p l e ({ frames := 1, cells := 0, slots := 0, locals := 22 } : Room) s m args below meth c H locs 0 0 (MQ below (gQi base D rr gz) args s 0 0 (gA base)) (F0 m 4 ls []) := by
    intro n4
    induction n4 with
    | zero => intro g a0 x1 x2 x3 H locs ls hF hP hS hl; exact g_no hF
    | succ n4 ih4 =>
      have HB28 : ∀ (g : g_H) (a0 : Nat) (x1 : Int32) (x2 : Int32) (x3 : Int32) (H : Heap) (locs : List Loc) (ls : Array Slot), f5_openGates_28 (f5_openGates_4 n4) g a0 x1 x2 x3 = some (rr, gz) → gP base D s g H → va_S (gA base) s.heap H locs → lv_has ls 4 [(0, .ref a0), (1, .int x1), (2, .int x2), (3, .int x3)] → W p l e ({ frames := 1, cells := 0, slots := 0, locals := 22 } : Room) s m args below meth c H locs 0 0 (MQ below (gQi base D rr gz) args s 0 0 (gA base)) (F0 m 28 ls []) := by
        intro g a0 x1 x2 x3 H locs ls hF hP hS hl
        unfold f5_openGates_28 at hF
        refine lv_iinc (v := x3 + (1 : Int32)) (lv' := [(3, .int (x3 + (1 : Int32))), (0, .ref a0), (1, .int x1), (2, .int x2)]) hx hb dX5_openGates_28 hl (k := 3) rfl rfl (by decide) rfl (fun ls hl => ?_)
        refine lv_goto (tgt := 4) hx hb dX5_openGates_31 (by decide) ?_
        exact ih4 _ _ _ _ _ _ _ _ hF hP hS (lv_sub hl [1, 2, 3, 0] rfl)
      intro g a0 x1 x2 x3 H locs ls hF hP hS hl
      have hF : f5_openGates_4b (f5_openGates_4 n4) g a0 x1 x2 x3 = some (rr, gz) := hF
      unfold f5_openGates_4b at hF
      refine lv_iload_n hx hb dX5_openGates_4 rfl (lv_at hl 3 rfl) ?_
      refine lv_aload_n hx hb dX5_openGates_5 rfl (lv_at hl 0 rfl) ?_
      obtain ⟨h1, hF⟩ := g_if hF
      refine g_get hx hb hts hiX5 hown hK hP 5 rfl (by decide) h1 1 (by decide) (hts (.fieldLink RX5 31 "CourierBees$Town" "laneCount" "I") (by decide +kernel)) (fun _ h9 => h9) (gFv_i (Or.inl rfl)) dX5_openGates_6 ?_
      refine lv_icmp_ge (tgt := 34) hx hb dX5_openGates_9 (by decide) (fun c2 => ?_) (fun c2 => ?_)
      · have hF := g_t c2 hF
        refine lv_iload_n hx hb dX5_openGates_34 rfl (lv_at hl 2 rfl) ?_
        exact g_retI hx hb hr hlocks hF hP hS (Nat.le_of_ble_eq_true rfl) (Nat.le_of_ble_eq_true rfl) dX5_openGates_35
      · have hF := g_f c2 hF
        refine lv_aload_n hx hb dX5_openGates_12 rfl (lv_at hl 0 rfl) ?_
        obtain ⟨q3, hq4, hF⟩ := g_bind hF
        refine g_get hx hb hts hiX5 hown hK hP 5 rfl (by decide) h1 3 (by decide) (hts (.fieldLink RX5 17 "CourierBees$Town" "lanes" "[LCourierBees$Lane;") (by decide +kernel)) (fun _ h9 => h9) ((gFv_r (by decide)).trans (congrArg va_rf hq4)) dX5_openGates_13 ?_
        refine lv_iload_n hx hb dX5_openGates_16 rfl (lv_at hl 3 rfl) ?_
        obtain ⟨h5, hF⟩ := g_if hF
        obtain ⟨h6, hF⟩ := g_if hF
        obtain ⟨q7, hq8, hF⟩ := g_bind hF
        refine g_aald hx hb hP (g_pr h5) (by decide) h6 hq8 dX5_openGates_17 ?_
        refine lv_iload_n hx hb dX5_openGates_18 rfl (lv_at hl 1 rfl) ?_
        obtain ⟨h10, hF⟩ := g_if hF
        obtain ⟨v12, g11, h9, hF⟩ := g_bind2 hF
        refine g_calli (va_runV (As := [.int x1]) (rest := []) ⟨hx, hb, hml, hown, hts⟩ (k2_isOpen l D base g q7 x1 v12 g11 h9) (cwV 1 hts gX5_openGates_X2_isOpen rfl rfl rfl (by decide +kernel) ⟨Nat.le_of_ble_eq_true rfl, Nat.le_of_ble_eq_true rfl⟩) (gC.preV hE hP hS 2 rfl (by decide) h10 [.int x1]) rfl rfl hl.1 rfl (lv_room (Nat.le_of_ble_eq_true rfl)) dX5_openGates_19 ⟨(Nat.le_of_ble_eq_true rfl), (Nat.le_of_ble_eq_true rfl)⟩) hS (fun H locs hP hS => ?_)
        refine lv_if_eq (tgt := 28) hx hb dX5_openGates_22 (by decide) (fun c13 => ?_) (fun c13 => ?_)
        · have hF := g_t c13 hF
          exact HB28 _ _ _ _ _ _ _ _ hF hP hS (lv_sub hl [0, 1, 2, 3] rfl)
        · have hF := g_f c13 hF
          refine lv_iinc (v := x2 + (1 : Int32)) (lv' := [(2, .int (x2 + (1 : Int32))), (0, .ref a0), (1, .int x1), (3, .int x3)]) hx hb dX5_openGates_25 hl (k := 2) rfl rfl (by decide) rfl (fun ls hl => ?_)
          exact HB28 _ _ _ _ _ _ _ _ hF hP hS (lv_sub hl [1, 2, 0, 3] rfl)
  unfold f5_openGates at hF
  refine lv_iconst (v := 0) hx hb dX5_openGates_0 (by decide) ?_
  refine lv_istore_n (lv' := [(2, .int ((0 : Int32))), (0, .ref a0), (1, .int x1)]) hx hb dX5_openGates_1 rfl hl (by decide) rfl (fun ls hl => ?_)
  refine lv_iconst (v := 0) hx hb dX5_openGates_2 (by decide) ?_
  refine lv_istore_n (lv' := [(3, .int ((0 : Int32))), (2, .int ((0 : Int32))), (0, .ref a0), (1, .int x1)]) hx hb dX5_openGates_3 rfl hl (by decide) rfl (fun ls hl => ?_)
  exact HL4 300 _ _ _ _ _ _ _ _ hF hP hS (lv_sub hl [2, 3, 1, 0] rfl)
set_option maxHeartbeats 4000000 in
set_option maxRecDepth 100000 in
theorem k5_digestFrom (l : Launch) (D : va_G) (base : Nat) (g : g_H) (a0 : Nat) (j1 : Int64) (rr : Int64) (gz : g_H) (hF : f5_digestFrom g a0 j1 = some (rr, gz)) : Met l yX5_digestFrom wsX5_digestFrom ({ frames := 0, cells := 0, slots := 0, locals := 0 } : Room) (va_Pc [.ref a0, .long j1] (gC base D g)) (gQl base D rr gz) 0 0 (gA base) := by
  refine g_met (cc := cX5_digestFrom) (maxL := 6) (ret := (some .long)) (lst := [(0, .ref a0), (1, .long j1)]) (by decide) rfl (Nat.le_of_ble_eq_true rfl) rfl ?_
  intro p e s m args below meth c ls hx hb hr hml hown hlocks hname hts hE hP hl
  have hown : s.vm.findClass RX5 = some m.cls := hown
  have hK := hE.1
  have hov := hE.2.2.2.2.2.2.2.1
  have hbz := hE.2.2.2.2.2.2.2.2.2.2.2.2
  have hS : va_S (gA base) s.heap s.heap [] := va_S.rf
  have hiX2 : ∀ w ∈ wsX20, w ∈ wsX5_digestFrom := by decide +kernel
  have hiX5 : ∀ w ∈ wsX50, w ∈ wsX5_digestFrom := by decide +kernel
  have HL46 : ∀ (n46 : Nat), ∀ (g : g_H) (a0 : Nat) (j3 : Int64) (x5 : Int32) (H : Heap) (locs : List Loc) (ls : Array Slot), f5_digestFrom_46 n46 g a0 j3 x5 = some (rr, gz) → gP base D s g H → va_S (gA base) s.heap H locs → lv_has ls 6 [(0, .ref a0), (3, .long j3), (5, .int x5)] → W p l e ({ frames := 0, cells := 0, slots := 0, locals := 0 } : Room) s m args below meth c H locs 0 0 (MQ below (gQl base D rr gz) args s 0 0 (gA base)) (F0 m 46 ls []) := by
    intro n46
    induction n46 with
    | zero => intro g a0 j3 x5 H locs ls hF hP hS hl; exact g_no hF
    | succ n46 ih46 =>
      intro g a0 j3 x5 H locs ls hF hP hS hl
      have hF : f5_digestFrom_46b (f5_digestFrom_46 n46) g a0 j3 x5 = some (rr, gz) := hF
      unfold f5_digestFrom_46b at hF
      refine lv_iload hx hb dX5_digestFrom_46 (lv_at hl 2 rfl) ?_
      refine lv_aload_n hx hb dX5_digestFrom_48 rfl (lv_at hl 0 rfl) ?_
      obtain ⟨h3, hF⟩ := g_if hF
      refine g_get hx hb hts hiX5 hown hK hP 5 rfl (by decide) h3 1 (by decide) (hts (.fieldLink RX5 31 "CourierBees$Town" "laneCount" "I") (by decide +kernel)) (fun _ h9 => h9) (gFv_i (Or.inl rfl)) dX5_digestFrom_49 ?_
      refine lv_icmp_ge (tgt := 151) hx hb dX5_digestFrom_52 (by decide) (fun c4 => ?_) (fun c4 => ?_)
      · have hF := g_t c4 hF
        refine lv_lload_n hx hb dX5_digestFrom_151 rfl (lv_at hl 1 rfl) ?_
        exact g_retJ hx hb hr hlocks hF hP hS (Nat.le_of_ble_eq_true rfl) (Nat.le_of_ble_eq_true rfl) dX5_digestFrom_152
      · have hF := g_f c4 hF
        refine lv_lload_n hx hb dX5_digestFrom_55 rfl (lv_at hl 1 rfl) ?_
        refine lv_ldc2 (v := 31) hx hb hown (hts (.constantLong RX5 65 (31)) (by decide +kernel)) dX5_digestFrom_56 ?_
        refine lv_lmul hx hb dX5_digestFrom_59 ?_
        refine lv_aload_n hx hb dX5_digestFrom_60 rfl (lv_at hl 0 rfl) ?_
        obtain ⟨q5, hq6, hF⟩ := g_bind hF
        refine g_get hx hb hts hiX5 hown hK hP 5 rfl (by decide) h3 3 (by decide) (hts (.fieldLink RX5 17 "CourierBees$Town" "lanes" "[LCourierBees$Lane;") (by decide +kernel)) (fun _ h9 => h9) ((gFv_r (by decide)).trans (congrArg va_rf hq6)) dX5_digestFrom_61 ?_
        refine lv_iload hx hb dX5_digestFrom_64 (lv_at hl 2 rfl) ?_
        obtain ⟨h7, hF⟩ := g_if hF
        obtain ⟨h8, hF⟩ := g_if hF
        obtain ⟨q9, hq10, hF⟩ := g_bind hF
        refine g_aald hx hb hP (g_pr h7) (by decide) h8 hq10 dX5_digestFrom_66 ?_
        obtain ⟨h11, hF⟩ := g_if hF
        refine g_get hx hb hts hiX2 hown hK hP 2 rfl (by decide) h11 0 (by decide) (hts (.fieldLink RX5 67 "CourierBees$Lane" "a" "I") (by decide +kernel)) (fun _ h9 => h9) (gFv_i (Or.inl rfl)) dX5_digestFrom_67 ?_
        refine lv_i2l hx hb dX5_digestFrom_70 rfl ?_
        refine lv_ladd hx hb dX5_digestFrom_71 ?_
        refine lv_lstore_n (lv' := [(3, .long ((j3 * ((31 : Int64))) + (Int32.toInt64 (gI g q9 0)))), (0, .ref a0), (5, .int x5)]) hx hb dX5_digestFrom_72 rfl hl (by decide) rfl (fun ls hl => ?_)
        refine lv_lload_n hx hb dX5_digestFrom_73 rfl (lv_at hl 0 rfl) ?_
        refine lv_ldc2 (v := 31) hx hb hown (hts (.constantLong RX5 65 (31)) (by decide +kernel)) dX5_digestFrom_74 ?_
        refine lv_lmul hx hb dX5_digestFrom_77 ?_
        refine lv_aload_n hx hb dX5_digestFrom_78 rfl (lv_at hl 1 rfl) ?_
        obtain ⟨q12, hq13, hF⟩ := g_bind hF
        refine g_get hx hb hts hiX5 hown hK hP 5 rfl (by decide) h3 3 (by decide) (hts (.fieldLink RX5 17 "CourierBees$Town" "lanes" "[LCourierBees$Lane;") (by decide +kernel)) (fun _ h9 => h9) ((gFv_r (by decide)).trans (congrArg va_rf hq13)) dX5_digestFrom_79 ?_
        refine lv_iload hx hb dX5_digestFrom_82 (lv_at hl 2 rfl) ?_
        obtain ⟨h14, hF⟩ := g_if hF
        obtain ⟨h15, hF⟩ := g_if hF
        obtain ⟨q16, hq17, hF⟩ := g_bind hF
        refine g_aald hx hb hP (g_pr h14) (by decide) h15 hq17 dX5_digestFrom_84 ?_
        obtain ⟨h18, hF⟩ := g_if hF
        refine g_get hx hb hts hiX2 hown hK hP 2 rfl (by decide) h18 1 (by decide) (hts (.fieldLink RX5 70 "CourierBees$Lane" "b" "I") (by decide +kernel)) (fun _ h9 => h9) (gFv_i (Or.inl rfl)) dX5_digestFrom_85 ?_
        refine lv_i2l hx hb dX5_digestFrom_88 rfl ?_
        refine lv_ladd hx hb dX5_digestFrom_89 ?_
        refine lv_lstore_n (lv' := [(3, .long ((((j3 * ((31 : Int64))) + (Int32.toInt64 (gI g q9 0))) * ((31 : Int64))) + (Int32.toInt64 (gI g q16 1)))), (0, .ref a0), (5, .int x5)]) hx hb dX5_digestFrom_90 rfl hl (by decide) rfl (fun ls hl => ?_)
        refine lv_lload_n hx hb dX5_digestFrom_91 rfl (lv_at hl 0 rfl) ?_
        refine lv_ldc2 (v := 31) hx hb hown (hts (.constantLong RX5 65 (31)) (by decide +kernel)) dX5_digestFrom_92 ?_
        refine lv_lmul hx hb dX5_digestFrom_95 ?_
        refine lv_aload_n hx hb dX5_digestFrom_96 rfl (lv_at hl 1 rfl) ?_
        obtain ⟨q19, hq20, hF⟩ := g_bind hF
        refine g_get hx hb hts hiX5 hown hK hP 5 rfl (by decide) h3 3 (by decide) (hts (.fieldLink RX5 17 "CourierBees$Town" "lanes" "[LCourierBees$Lane;") (by decide +kernel)) (fun _ h9 => h9) ((gFv_r (by decide)).trans (congrArg va_rf hq20)) dX5_digestFrom_97 ?_
        refine lv_iload hx hb dX5_digestFrom_100 (lv_at hl 2 rfl) ?_
        obtain ⟨h21, hF⟩ := g_if hF
        obtain ⟨h22, hF⟩ := g_if hF
        obtain ⟨q23, hq24, hF⟩ := g_bind hF
        refine g_aald hx hb hP (g_pr h21) (by decide) h22 hq24 dX5_digestFrom_102 ?_
        obtain ⟨h25, hF⟩ := g_if hF
        refine g_get hx hb hts hiX2 hown hK hP 2 rfl (by decide) h25 2 (by decide) (hts (.fieldLink RX5 44 "CourierBees$Lane" "length" "I") (by decide +kernel)) (fun _ h9 => h9) (gFv_i (Or.inl rfl)) dX5_digestFrom_103 ?_
        refine lv_i2l hx hb dX5_digestFrom_106 rfl ?_
        refine lv_ladd hx hb dX5_digestFrom_107 ?_
        refine lv_lstore_n (lv' := [(3, .long ((((((j3 * ((31 : Int64))) + (Int32.toInt64 (gI g q9 0))) * ((31 : Int64))) + (Int32.toInt64 (gI g q16 1))) * ((31 : Int64))) + (Int32.toInt64 (gI g q23 2)))), (0, .ref a0), (5, .int x5)]) hx hb dX5_digestFrom_108 rfl hl (by decide) rfl (fun ls hl => ?_)
        refine lv_lload_n hx hb dX5_digestFrom_109 rfl (lv_at hl 0 rfl) ?_
        refine lv_ldc2 (v := 31) hx hb hown (hts (.constantLong RX5 65 (31)) (by decide +kernel)) dX5_digestFrom_110 ?_
        refine lv_lmul hx hb dX5_digestFrom_113 ?_
        refine lv_aload_n hx hb dX5_digestFrom_114 rfl (lv_at hl 1 rfl) ?_
        obtain ⟨q26, hq27, hF⟩ := g_bind hF
        refine g_get hx hb hts hiX5 hown hK hP 5 rfl (by decide) h3 3 (by decide) (hts (.fieldLink RX5 17 "CourierBees$Town" "lanes" "[LCourierBees$Lane;") (by decide +kernel)) (fun _ h9 => h9) ((gFv_r (by decide)).trans (congrArg va_rf hq27)) dX5_digestFrom_115 ?_
        refine lv_iload hx hb dX5_digestFrom_118 (lv_at hl 2 rfl) ?_
        obtain ⟨h28, hF⟩ := g_if hF
        obtain ⟨h29, hF⟩ := g_if hF
        obtain ⟨q30, hq31, hF⟩ := g_bind hF
        refine g_aald hx hb hP (g_pr h28) (by decide) h29 hq31 dX5_digestFrom_120 ?_
        obtain ⟨h32, hF⟩ := g_if hF
        refine g_get hx hb hts hiX2 hown hK hP 2 rfl (by decide) h32 3 (by decide) (hts (.fieldLink RX5 73 "CourierBees$Lane" "from" "I") (by decide +kernel)) (fun _ h9 => h9) (gFv_i (Or.inl rfl)) dX5_digestFrom_121 ?_
        refine lv_i2l hx hb dX5_digestFrom_124 rfl ?_
        refine lv_ladd hx hb dX5_digestFrom_125 ?_
        refine lv_lstore_n (lv' := [(3, .long ((((((((j3 * ((31 : Int64))) + (Int32.toInt64 (gI g q9 0))) * ((31 : Int64))) + (Int32.toInt64 (gI g q16 1))) * ((31 : Int64))) + (Int32.toInt64 (gI g q23 2))) * ((31 : Int64))) + (Int32.toInt64 (gI g q30 3)))), (0, .ref a0), (5, .int x5)]) hx hb dX5_digestFrom_126 rfl hl (by decide) rfl (fun ls hl => ?_)
        refine lv_lload_n hx hb dX5_digestFrom_127 rfl (lv_at hl 0 rfl) ?_
        refine lv_ldc2 (v := 31) hx hb hown (hts (.constantLong RX5 65 (31)) (by decide +kernel)) dX5_digestFrom_128 ?_
        refine lv_lmul hx hb dX5_digestFrom_131 ?_
        refine lv_aload_n hx hb dX5_digestFrom_132 rfl (lv_at hl 1 rfl) ?_
        obtain ⟨q33, hq34, hF⟩ := g_bind hF
        refine g_get hx hb hts hiX5 hown hK hP 5 rfl (by decide) h3 3 (by decide) (hts (.fieldLink RX5 17 "CourierBees$Town" "lanes" "[LCourierBees$Lane;") (by decide +kernel)) (fun _ h9 => h9) ((gFv_r (by decide)).trans (congrArg va_rf hq34)) dX5_digestFrom_133 ?_
        refine lv_iload hx hb dX5_digestFrom_136 (lv_at hl 2 rfl) ?_
        obtain ⟨h35, hF⟩ := g_if hF
        obtain ⟨h36, hF⟩ := g_if hF
        obtain ⟨q37, hq38, hF⟩ := g_bind hF
        refine g_aald hx hb hP (g_pr h35) (by decide) h36 hq38 dX5_digestFrom_138 ?_
        obtain ⟨h39, hF⟩ := g_if hF
        refine g_get hx hb hts hiX2 hown hK hP 2 rfl (by decide) h39 4 (by decide) (hts (.fieldLink RX5 76 "CourierBees$Lane" "till" "I") (by decide +kernel)) (fun _ h9 => h9) (gFv_i (Or.inl rfl)) dX5_digestFrom_139 ?_
        refine lv_i2l hx hb dX5_digestFrom_142 rfl ?_
        refine lv_ladd hx hb dX5_digestFrom_143 ?_
        refine lv_lstore_n (lv' := [(3, .long ((((((((((j3 * ((31 : Int64))) + (Int32.toInt64 (gI g q9 0))) * ((31 : Int64))) + (Int32.toInt64 (gI g q16 1))) * ((31 : Int64))) + (Int32.toInt64 (gI g q23 2))) * ((31 : Int64))) + (Int32.toInt64 (gI g q30 3))) * ((31 : Int64))) + (Int32.toInt64 (gI g q37 4)))), (0, .ref a0), (5, .int x5)]) hx hb dX5_digestFrom_144 rfl hl (by decide) rfl (fun ls hl => ?_)
        refine lv_iinc (v := x5 + (1 : Int32)) (lv' := [(5, .int (x5 + (1 : Int32))), (3, .long ((((((((((j3 * ((31 : Int64))) + (Int32.toInt64 (gI g q9 0))) * ((31 : Int64))) + (Int32.toInt64 (gI g q16 1))) * ((31 : Int64))) + (Int32.toInt64 (gI g q23 2))) * ((31 : Int64))) + (Int32.toInt64 (gI g q30 3))) * ((31 : Int64))) + (Int32.toInt64 (gI g q37 4)))), (0, .ref a0)]) hx hb dX5_digestFrom_145 hl (k := 2) rfl rfl (by decide) rfl (fun ls hl => ?_)
        refine lv_goto (tgt := 46) hx hb dX5_digestFrom_148 (by decide) ?_
        exact ih46 _ _ _ _ _ _ _ hF hP hS (lv_sub hl [2, 1, 0] rfl)
  have HL5 : ∀ (n5 : Nat), ∀ (g : g_H) (a0 : Nat) (j3 : Int64) (x5 : Int32) (H : Heap) (locs : List Loc) (ls : Array Slot), f5_digestFrom_5 n5 g a0 j3 x5 = some (rr, gz) → gP base D s g H → va_S (gA base) s.heap H locs → lv_has ls 6 [(0, .ref a0), (3, .long j3), (5, .int x5)] → W p l e ({ frames := 0, cells := 0, slots := 0, locals := 0 } : Room) s m args below meth c H locs 0 0 (MQ below (gQl base D rr gz) args s 0 0 (gA base)) (F0 m 5 ls []) := by
    intro n5
    induction n5 with
    | zero => intro g a0 j3 x5 H locs ls hF hP hS hl; exact g_no hF
    | succ n5 ih5 =>
      have HB34 : ∀ (g : g_H) (a0 : Nat) (x5 : Int32) (s0 : Int64) (s1 : Int32) (H : Heap) (locs : List Loc) (ls : Array Slot), f5_digestFrom_34 (f5_digestFrom_5 n5) g a0 x5 s0 s1 = some (rr, gz) → gP base D s g H → va_S (gA base) s.heap H locs → lv_has ls 6 [(0, .ref a0), (5, .int x5)] → W p l e ({ frames := 0, cells := 0, slots := 0, locals := 0 } : Room) s m args below meth c H locs 0 0 (MQ below (gQl base D rr gz) args s 0 0 (gA base)) (F0 m 34 ls [.int s1, .long s0]) := by
        intro g a0 x5 s0 s1 H locs ls hF hP hS hl
        unfold f5_digestFrom_34 at hF
        refine lv_i2l hx hb dX5_digestFrom_34 rfl ?_
        refine lv_ladd hx hb dX5_digestFrom_35 ?_
        refine lv_lstore_n (lv' := [(3, .long (s0 + (Int32.toInt64 s1))), (0, .ref a0), (5, .int x5)]) hx hb dX5_digestFrom_36 rfl hl (by decide) rfl (fun ls hl => ?_)
        refine lv_iinc (v := x5 + (1 : Int32)) (lv' := [(5, .int (x5 + (1 : Int32))), (3, .long (s0 + (Int32.toInt64 s1))), (0, .ref a0)]) hx hb dX5_digestFrom_37 hl (k := 2) rfl rfl (by decide) rfl (fun ls hl => ?_)
        refine lv_goto (tgt := 5) hx hb dX5_digestFrom_40 (by decide) ?_
        exact ih5 _ _ _ _ _ _ _ hF hP hS (lv_sub hl [2, 1, 0] rfl)
      intro g a0 j3 x5 H locs ls hF hP hS hl
      have hF : f5_digestFrom_5b (f5_digestFrom_5 n5) g a0 j3 x5 = some (rr, gz) := hF
      unfold f5_digestFrom_5b at hF
      refine lv_iload hx hb dX5_digestFrom_5 (lv_at hl 2 rfl) ?_
      refine lv_aload_n hx hb dX5_digestFrom_7 rfl (lv_at hl 0 rfl) ?_
      obtain ⟨h1, hF⟩ := g_if hF
      refine g_get hx hb hts hiX5 hown hK hP 5 rfl (by decide) h1 0 (by decide) (hts (.fieldLink RX5 27 "CourierBees$Town" "houseCount" "I") (by decide +kernel)) (fun _ h9 => h9) (gFv_i (Or.inl rfl)) dX5_digestFrom_8 ?_
      refine lv_icmp_ge (tgt := 43) hx hb dX5_digestFrom_11 (by decide) (fun c2 => ?_) (fun c2 => ?_)
      · have hF := g_t c2 hF
        refine lv_iconst (v := 0) hx hb dX5_digestFrom_43 (by decide) ?_
        refine lv_istore (lv' := [(5, .int ((0 : Int32))), (0, .ref a0), (3, .long j3)]) hx hb dX5_digestFrom_44 hl (by decide) rfl (fun ls hl => ?_)
        exact HL46 300 _ _ _ _ _ _ _ hF hP hS (lv_sub hl [1, 2, 0] rfl)
      · have hF := g_f c2 hF
        refine lv_lload_n hx hb dX5_digestFrom_14 rfl (lv_at hl 1 rfl) ?_
        refine lv_ldc2 (v := 31) hx hb hown (hts (.constantLong RX5 65 (31)) (by decide +kernel)) dX5_digestFrom_15 ?_
        refine lv_lmul hx hb dX5_digestFrom_18 ?_
        refine lv_aload_n hx hb dX5_digestFrom_19 rfl (lv_at hl 0 rfl) ?_
        obtain ⟨q40, hq41, hF⟩ := g_bind hF
        refine g_get hx hb hts hiX5 hown hK hP 5 rfl (by decide) h1 2 (by decide) (hts (.fieldLink RX5 9 "CourierBees$Town" "hives" "[Z") (by decide +kernel)) (fun _ h9 => h9) ((gFv_r (by decide)).trans (congrArg va_rf hq41)) dX5_digestFrom_20 ?_
        refine lv_iload hx hb dX5_digestFrom_23 (lv_at hl 2 rfl) ?_
        obtain ⟨h42, hF⟩ := g_if hF
        obtain ⟨h43, hF⟩ := g_if hF
        refine g_zald hx hb hP (g_pr h42) h43 dX5_digestFrom_25 ?_
        refine lv_if_eq (tgt := 33) hx hb dX5_digestFrom_26 (by decide) (fun c44 => ?_) (fun c44 => ?_)
        · have hF := g_t c44 hF
          refine lv_iconst (v := 0) hx hb dX5_digestFrom_33 (by decide) ?_
          exact HB34 _ _ _ _ _ _ _ _ hF hP hS (lv_sub hl [0, 2] rfl)
        · have hF := g_f c44 hF
          refine lv_iconst (v := 1) hx hb dX5_digestFrom_29 (by decide) ?_
          refine lv_goto (tgt := 34) hx hb dX5_digestFrom_30 (by decide) ?_
          exact HB34 _ _ _ _ _ _ _ _ hF hP hS (lv_sub hl [0, 2] rfl)
  unfold f5_digestFrom at hF
  refine lv_lload_n hx hb dX5_digestFrom_0 rfl (lv_at hl 1 rfl) ?_
  refine lv_lstore_n (lv' := [(3, .long j1), (0, .ref a0), (1, .long j1)]) hx hb dX5_digestFrom_1 rfl hl (by decide) rfl (fun ls hl => ?_)
  refine lv_iconst (v := 0) hx hb dX5_digestFrom_2 (by decide) ?_
  refine lv_istore (lv' := [(5, .int ((0 : Int32))), (3, .long j1), (0, .ref a0), (1, .long j1)]) hx hb dX5_digestFrom_3 hl (by decide) rfl (fun ls hl => ?_)
  exact HL5 300 _ _ _ _ _ _ _ hF hP hS (lv_sub hl [2, 1, 0] rfl)
end
section
set_option maxHeartbeats 4000000 in
set_option maxRecDepth 100000 in
theorem k4_init (l : Launch) (D : va_G) (base : Nat) (g : g_H) (a0 : Nat) (gz : g_H) (hF : f4_init g a0 = some gz) : Met l yX4_init wsX4_init ({ frames := 1, cells := 3, slots := 28, locals := 22 } : Room) (va_Pc [.ref a0] (gC base D g)) (gQv base D gz) 3 28 (gA base) := by
  refine g_met (cc := cX4_init) (maxL := 1) (ret := none) (lst := [(0, .ref a0)]) (by decide) rfl (Nat.le_of_ble_eq_true rfl) rfl ?_
  intro p e s m args below meth c ls hx hb hr hml hown hlocks hname hts hE hP hl
  have hown : s.vm.findClass RX4 = some m.cls := hown
  have hK := hE.1
  have hov := hE.2.2.2.2.2.2.2.1
  have hbz := hE.2.2.2.2.2.2.2.2.2.2.2.2
  have hS : va_S (gA base) s.heap s.heap [] := va_S.rf
  have hiX4 : ∀ w ∈ wsX40, w ∈ wsX4_init := by decide +kernel
  unfold f4_init at hF
  refine lv_aload_n hx hb dX4_init_0 rfl (lv_at hl 0 rfl) ?_
  refine W.objInit hx hb hown (hts (.methodLink RX4 3 objectInit) (by decide +kernel)) (hts (.instanceMethod objectInit) (by decide +kernel)) (hts (.code objectInit ⟨#[0xb1]⟩ 1 none) (by decide +kernel)) rfl (by rw [hml]; exact hl.1) rfl dX4_init_1 (Nat.le_of_ble_eq_true rfl) (Nat.le_of_ble_eq_true rfl) ?_
  refine W.eq (g2 := F0 m 4 ls []) rfl ?_
  refine lv_aload_n hx hb dX4_init_4 rfl (lv_at hl 0 rfl) ?_
  refine lv_bipush (v := 7) hx hb dX4_init_5 (by decide) ?_
  obtain ⟨q1, g2, e3, e4, h5, hF⟩ := g_nw hF
  refine g_newa (atype := .int) hx hb (hts (.arrayClass .int) (by decide +kernel)) 11 rfl (by decide) rfl hP hS hbz (n := 7) (N' := 7) (by decide) (by decide) (Nat.le_of_ble_eq_true rfl) (Nat.le_of_ble_eq_true rfl) (Nat.le_of_ble_eq_true rfl) dX4_init_7 (fun H hP hS => ?_)
  rw [e4] at hP
  rw [e3]
  obtain ⟨h6, hF⟩ := g_if hF
  refine g_putr hx hb hts hiX4 tyX4 tyX4_ok nmX4 hown hK hP hS 4 rfl (by decide) h6 1 (by decide) (hts (.fieldLink RX4 9 "CourierBees$Route" "houses" "[I") (by decide +kernel)) (fun _ h9 => h9) (Or.inr ⟨rfl, hname, rfl⟩) (by decide) rfl rfl dX4_init_9 (fun H locs hP hS => ?_)
  refine lv_aload_n hx hb dX4_init_12 rfl (lv_at hl 0 rfl) ?_
  refine lv_bipush (v := 7) hx hb dX4_init_13 (by decide) ?_
  obtain ⟨q7, g8, e9, e10, h11, hF⟩ := g_nw hF
  refine g_newa (atype := .int) hx hb (hts (.arrayClass .int) (by decide +kernel)) 11 rfl (by decide) rfl hP hS hbz (n := 7) (N' := 7) (by decide) (by decide) (Nat.le_of_ble_eq_true rfl) (Nat.le_of_ble_eq_true rfl) (Nat.le_of_ble_eq_true rfl) dX4_init_15 (fun H hP hS => ?_)
  rw [e10] at hP
  rw [e9]
  obtain ⟨h12, hF⟩ := g_if hF
  refine g_putr hx hb hts hiX4 tyX4 tyX4_ok nmX4 hown hK hP hS 4 rfl (by decide) h12 2 (by decide) (hts (.fieldLink RX4 15 "CourierBees$Route" "lanes" "[I") (by decide +kernel)) (fun _ h9 => h9) (Or.inr ⟨rfl, hname, rfl⟩) (by decide) rfl rfl dX4_init_17 (fun H locs hP hS => ?_)
  refine lv_aload_n hx hb dX4_init_20 rfl (lv_at hl 0 rfl) ?_
  refine lv_bipush (v := 14) hx hb dX4_init_21 (by decide) ?_
  obtain ⟨q13, g14, e15, e16, h17, hF⟩ := g_nw hF
  refine g_newa (atype := .int) hx hb (hts (.arrayClass .int) (by decide +kernel)) 11 rfl (by decide) rfl hP hS hbz (n := 14) (N' := 14) (by decide) (by decide) (Nat.le_of_ble_eq_true rfl) (Nat.le_of_ble_eq_true rfl) (Nat.le_of_ble_eq_true rfl) dX4_init_23 (fun H hP hS => ?_)
  rw [e16] at hP
  rw [e15]
  obtain ⟨h18, hF⟩ := g_if hF
  refine g_putr hx hb hts hiX4 tyX4 tyX4_ok nmX4 hown hK hP hS 4 rfl (by decide) h18 3 (by decide) (hts (.fieldLink RX4 18 "CourierBees$Route" "targets" "[I") (by decide +kernel)) (fun _ h9 => h9) (Or.inr ⟨rfl, hname, rfl⟩) (by decide) rfl rfl dX4_init_25 (fun H locs hP hS => ?_)
  exact g_retV hx hb hr hlocks hF hP hS (Nat.le_of_ble_eq_true rfl) (Nat.le_of_ble_eq_true rfl) dX4_init_28
set_option maxHeartbeats 4000000 in
set_option maxRecDepth 100000 in
theorem k4_copyFrom (l : Launch) (D : va_G) (base : Nat) (g : g_H) (a0 : Nat) (a1 : Nat) (gz : g_H) (hF : f4_copyFrom g a0 a1 = some gz) : Met l yX4_copyFrom wsX4_copyFrom ({ frames := 1, cells := 0, slots := 0, locals := 30 } : Room) (va_Pc [.ref a0, .ref a1] (gC base D g)) (gQv base D gz) 0 0 (gA base) := by
  refine g_met (cc := cX4_copyFrom) (maxL := 2) (ret := none) (lst := [(0, .ref a0), (1, .ref a1)]) (by decide) rfl (Nat.le_of_ble_eq_true rfl) rfl ?_
  intro p e s m args below meth c ls hx hb hr hml hown hlocks hname hts hE hP hl
  have hown : s.vm.findClass RX4 = some m.cls := hown
  have hK := hE.1
  have hov := hE.2.2.2.2.2.2.2.1
  have hbz := hE.2.2.2.2.2.2.2.2.2.2.2.2
  have hS : va_S (gA base) s.heap s.heap [] := va_S.rf
  have hiX4 : ∀ w ∈ wsX40, w ∈ wsX4_copyFrom := by decide +kernel
  unfold f4_copyFrom at hF
  refine lv_aload_n hx hb dX4_copyFrom_0 rfl (lv_at hl 0 rfl) ?_
  refine lv_aload_n hx hb dX4_copyFrom_1 rfl (lv_at hl 1 rfl) ?_
  obtain ⟨h1, hF⟩ := g_if hF
  refine g_get hx hb hts hiX4 hown hK hP 4 rfl (by decide) h1 0 (by decide) (hts (.fieldLink RX4 21 "CourierBees$Route" "length" "I") (by decide +kernel)) (fun _ h9 => h9) (gFv_i (Or.inl rfl)) dX4_copyFrom_2 ?_
  obtain ⟨h2, hF⟩ := g_if hF
  refine g_puti hx hb hts hiX4 tyX4 tyX4_ok nmX4 hown hK hP hS 4 rfl (by decide) h2 0 (by decide) (hts (.fieldLink RX4 21 "CourierBees$Route" "length" "I") (by decide +kernel)) (fun _ h9 => h9) (Or.inl rfl) (Or.inl rfl) rfl rfl dX4_copyFrom_5 (fun H locs hP hS => ?_)
  refine lv_aload_n hx hb dX4_copyFrom_8 rfl (lv_at hl 1 rfl) ?_
  obtain ⟨q3, hq4, hF⟩ := g_bind hF
  refine g_get hx hb hts hiX4 hown hK hP 4 rfl (by decide) h1 1 (by decide) (hts (.fieldLink RX4 9 "CourierBees$Route" "houses" "[I") (by decide +kernel)) (fun _ h9 => h9) ((gFv_r (by decide)).trans (congrArg va_rf hq4)) dX4_copyFrom_9 ?_
  refine lv_iconst (v := 0) hx hb dX4_copyFrom_12 (by decide) ?_
  refine lv_aload_n hx hb dX4_copyFrom_13 rfl (lv_at hl 0 rfl) ?_
  obtain ⟨q5, hq6, hF⟩ := g_bind hF
  refine g_get hx hb hts hiX4 hown hK hP 4 rfl (by decide) h2 1 (by decide) (hts (.fieldLink RX4 9 "CourierBees$Route" "houses" "[I") (by decide +kernel)) (fun _ h9 => h9) ((gFv_r (by decide)).trans (congrArg va_rf hq6)) dX4_copyFrom_14 ?_
  refine lv_iconst (v := 0) hx hb dX4_copyFrom_17 (by decide) ?_
  refine lv_bipush (v := 7) hx hb dX4_copyFrom_18 (by decide) ?_
  obtain ⟨h7, hF⟩ := g_if hF
  obtain ⟨h8, hF⟩ := g_if hF
  obtain ⟨h9, hF⟩ := g_if hF
  refine g_copy hx hb (hml.trans hl.1.symm) hown (hts (.methodLink RX4 51 arraycopyName) (by decide +kernel)) (hts (.native arraycopyName) (by decide +kernel)) (hts (.static arraycopyName) (by decide +kernel)) (hts (.initialized "java/lang/System") (by decide +kernel)) hP hS (g_pr h7) (g_pr h8) h9.1 h9.2.1 h9.2.2.1 h9.2.2.2.1 h9.2.2.2.2 (Nat.le_of_ble_eq_true rfl) (by decide) dX4_copyFrom_20 (fun H locs hP hS => ?_)
  refine lv_aload_n hx hb dX4_copyFrom_23 rfl (lv_at hl 1 rfl) ?_
  obtain ⟨q10, hq11, hF⟩ := g_bind hF
  refine g_get hx hb hts hiX4 hown hK hP 4 rfl (by decide) h1 2 (by decide) (hts (.fieldLink RX4 15 "CourierBees$Route" "lanes" "[I") (by decide +kernel)) (fun _ h9 => h9) ((gFv_r (by decide)).trans (congrArg va_rf hq11)) dX4_copyFrom_24 ?_
  refine lv_iconst (v := 0) hx hb dX4_copyFrom_27 (by decide) ?_
  refine lv_aload_n hx hb dX4_copyFrom_28 rfl (lv_at hl 0 rfl) ?_
  obtain ⟨q12, hq13, hF⟩ := g_bind hF
  refine g_get hx hb hts hiX4 hown hK hP 4 rfl (by decide) h2 2 (by decide) (hts (.fieldLink RX4 15 "CourierBees$Route" "lanes" "[I") (by decide +kernel)) (fun _ h9 => h9) ((gFv_r (by decide)).trans (congrArg va_rf hq13)) dX4_copyFrom_29 ?_
  refine lv_iconst (v := 0) hx hb dX4_copyFrom_32 (by decide) ?_
  refine lv_bipush (v := 7) hx hb dX4_copyFrom_33 (by decide) ?_
  obtain ⟨h14, hF⟩ := g_if hF
  obtain ⟨h15, hF⟩ := g_if hF
  obtain ⟨h16, hF⟩ := g_if hF
  refine g_copy hx hb (hml.trans hl.1.symm) hown (hts (.methodLink RX4 51 arraycopyName) (by decide +kernel)) (hts (.native arraycopyName) (by decide +kernel)) (hts (.static arraycopyName) (by decide +kernel)) (hts (.initialized "java/lang/System") (by decide +kernel)) hP hS (g_pr h14) (g_pr h15) h16.1 h16.2.1 h16.2.2.1 h16.2.2.2.1 h16.2.2.2.2 (Nat.le_of_ble_eq_true rfl) (by decide) dX4_copyFrom_35 (fun H locs hP hS => ?_)
  obtain ⟨g17, e18, hF⟩ := g_let hF
  rw [e18] at hP
  have h19 : (gS g17 a1).1 = 5 := by rw [← e18]; exact h1
  have h20 : (gS g17 a0).1 = 5 := by rw [← e18]; exact h2
  have h21 : (gS g17 q3).1 = 11 := by rw [← e18]; exact h7
  have h22 : (gS g17 q5).1 = 11 := by rw [← e18]; exact h8
  have h23 : (gS g17 q10).1 = 11 := by rw [← e18]; exact h14
  have h24 : (gS g17 q12).1 = 11 := by rw [← e18]; exact h15
  refine lv_aload_n hx hb dX4_copyFrom_38 rfl (lv_at hl 1 rfl) ?_
  obtain ⟨q25, hq26, hF⟩ := g_bind hF
  refine g_get hx hb hts hiX4 hown hK hP 4 rfl (by decide) h19 3 (by decide) (hts (.fieldLink RX4 18 "CourierBees$Route" "targets" "[I") (by decide +kernel)) (fun _ h9 => h9) ((gFv_r (by decide)).trans (congrArg va_rf hq26)) dX4_copyFrom_39 ?_
  refine lv_iconst (v := 0) hx hb dX4_copyFrom_42 (by decide) ?_
  refine lv_aload_n hx hb dX4_copyFrom_43 rfl (lv_at hl 0 rfl) ?_
  obtain ⟨q27, hq28, hF⟩ := g_bind hF
  refine g_get hx hb hts hiX4 hown hK hP 4 rfl (by decide) h20 3 (by decide) (hts (.fieldLink RX4 18 "CourierBees$Route" "targets" "[I") (by decide +kernel)) (fun _ h9 => h9) ((gFv_r (by decide)).trans (congrArg va_rf hq28)) dX4_copyFrom_44 ?_
  refine lv_iconst (v := 0) hx hb dX4_copyFrom_47 (by decide) ?_
  refine lv_bipush (v := 14) hx hb dX4_copyFrom_48 (by decide) ?_
  obtain ⟨h29, hF⟩ := g_if hF
  obtain ⟨h30, hF⟩ := g_if hF
  obtain ⟨h31, hF⟩ := g_if hF
  refine g_copy hx hb (hml.trans hl.1.symm) hown (hts (.methodLink RX4 51 arraycopyName) (by decide +kernel)) (hts (.native arraycopyName) (by decide +kernel)) (hts (.static arraycopyName) (by decide +kernel)) (hts (.initialized "java/lang/System") (by decide +kernel)) hP hS (g_pr h29) (g_pr h30) h31.1 h31.2.1 h31.2.2.1 h31.2.2.2.1 h31.2.2.2.2 (Nat.le_of_ble_eq_true rfl) (by decide) dX4_copyFrom_50 (fun H locs hP hS => ?_)
  exact g_retV hx hb hr hlocks hF hP hS (Nat.le_of_ble_eq_true rfl) (Nat.le_of_ble_eq_true rfl) dX4_copyFrom_53
set_option maxHeartbeats 4000000 in
set_option maxRecDepth 100000 in
theorem k4_houseAt (l : Launch) (D : va_G) (base : Nat) (g : g_H) (a0 : Nat) (x1 : Int32) (rr : Int32) (gz : g_H) (hF : f4_houseAt g a0 x1 = some (rr, gz)) : Met l yX4_houseAt wsX4_houseAt ({ frames := 0, cells := 0, slots := 0, locals := 0 } : Room) (va_Pc [.ref a0, .int x1] (gC base D g)) (gQi base D rr gz) 0 0 (gA base) := by
  refine g_met (cc := cX4_houseAt) (maxL := 2) (ret := (some .int)) (lst := [(0, .ref a0), (1, .int x1)]) (by decide) rfl (Nat.le_of_ble_eq_true rfl) rfl ?_
  intro p e s m args below meth c ls hx hb hr hml hown hlocks hname hts hE hP hl
  have hown : s.vm.findClass RX4 = some m.cls := hown
  have hK := hE.1
  have hov := hE.2.2.2.2.2.2.2.1
  have hbz := hE.2.2.2.2.2.2.2.2.2.2.2.2
  have hS : va_S (gA base) s.heap s.heap [] := va_S.rf
  have hiX4 : ∀ w ∈ wsX40, w ∈ wsX4_houseAt := by decide +kernel
  unfold f4_houseAt at hF
  refine lv_iload_n hx hb dX4_houseAt_0 rfl (lv_at hl 1 rfl) ?_
  refine lv_if_lt (tgt := 21) hx hb dX4_houseAt_1 (by decide) (fun c1 => ?_) (fun c1 => ?_)
  · have hF := g_t c1 hF
    refine lv_iconst (v := (-1)) hx hb dX4_houseAt_21 (by decide) ?_
    exact g_retI hx hb hr hlocks hF hP hS (Nat.le_of_ble_eq_true rfl) (Nat.le_of_ble_eq_true rfl) dX4_houseAt_22
  · have hF := g_f c1 hF
    refine lv_iload_n hx hb dX4_houseAt_4 rfl (lv_at hl 1 rfl) ?_
    refine lv_aload_n hx hb dX4_houseAt_5 rfl (lv_at hl 0 rfl) ?_
    obtain ⟨h2, hF⟩ := g_if hF
    refine g_get hx hb hts hiX4 hown hK hP 4 rfl (by decide) h2 0 (by decide) (hts (.fieldLink RX4 21 "CourierBees$Route" "length" "I") (by decide +kernel)) (fun _ h9 => h9) (gFv_i (Or.inl rfl)) dX4_houseAt_6 ?_
    refine lv_icmp_ge (tgt := 21) hx hb dX4_houseAt_9 (by decide) (fun c3 => ?_) (fun c3 => ?_)
    · have hF := g_t c3 hF
      refine lv_iconst (v := (-1)) hx hb dX4_houseAt_21 (by decide) ?_
      exact g_retI hx hb hr hlocks hF hP hS (Nat.le_of_ble_eq_true rfl) (Nat.le_of_ble_eq_true rfl) dX4_houseAt_22
    · have hF := g_f c3 hF
      refine lv_aload_n hx hb dX4_houseAt_12 rfl (lv_at hl 0 rfl) ?_
      obtain ⟨q4, hq5, hF⟩ := g_bind hF
      refine g_get hx hb hts hiX4 hown hK hP 4 rfl (by decide) h2 1 (by decide) (hts (.fieldLink RX4 9 "CourierBees$Route" "houses" "[I") (by decide +kernel)) (fun _ h9 => h9) ((gFv_r (by decide)).trans (congrArg va_rf hq5)) dX4_houseAt_13 ?_
      refine lv_iload_n hx hb dX4_houseAt_16 rfl (lv_at hl 1 rfl) ?_
      obtain ⟨h6, hF⟩ := g_if hF
      obtain ⟨h7, hF⟩ := g_if hF
      refine g_iald hx hb hP (g_pr h6) h7 dX4_houseAt_17 ?_
      refine lv_goto (tgt := 22) hx hb dX4_houseAt_18 (by decide) ?_
      exact g_retI hx hb hr hlocks hF hP hS (Nat.le_of_ble_eq_true rfl) (Nat.le_of_ble_eq_true rfl) dX4_houseAt_22
set_option maxHeartbeats 4000000 in
set_option maxRecDepth 100000 in
theorem k4_length (l : Launch) (D : va_G) (base : Nat) (g : g_H) (a0 : Nat) (rr : Int32) (gz : g_H) (hF : f4_length g a0 = some (rr, gz)) : Met l yX4_length wsX4_length ({ frames := 0, cells := 0, slots := 0, locals := 0 } : Room) (va_Pc [.ref a0] (gC base D g)) (gQi base D rr gz) 0 0 (gA base) := by
  refine g_met (cc := cX4_length) (maxL := 1) (ret := (some .int)) (lst := [(0, .ref a0)]) (by decide) rfl (Nat.le_of_ble_eq_true rfl) rfl ?_
  intro p e s m args below meth c ls hx hb hr hml hown hlocks hname hts hE hP hl
  have hown : s.vm.findClass RX4 = some m.cls := hown
  have hK := hE.1
  have hov := hE.2.2.2.2.2.2.2.1
  have hbz := hE.2.2.2.2.2.2.2.2.2.2.2.2
  have hS : va_S (gA base) s.heap s.heap [] := va_S.rf
  have hiX4 : ∀ w ∈ wsX40, w ∈ wsX4_length := by decide +kernel
  unfold f4_length at hF
  refine lv_aload_n hx hb dX4_length_0 rfl (lv_at hl 0 rfl) ?_
  obtain ⟨h1, hF⟩ := g_if hF
  refine g_get hx hb hts hiX4 hown hK hP 4 rfl (by decide) h1 0 (by decide) (hts (.fieldLink RX4 21 "CourierBees$Route" "length" "I") (by decide +kernel)) (fun _ h9 => h9) (gFv_i (Or.inl rfl)) dX4_length_1 ?_
  exact g_retI hx hb hr hlocks hF hP hS (Nat.le_of_ble_eq_true rfl) (Nat.le_of_ble_eq_true rfl) dX4_length_4
set_option maxHeartbeats 4000000 in
set_option maxRecDepth 100000 in
theorem k4_laneAt (l : Launch) (D : va_G) (base : Nat) (g : g_H) (a0 : Nat) (x1 : Int32) (rr : Int32) (gz : g_H) (hF : f4_laneAt g a0 x1 = some (rr, gz)) : Met l yX4_laneAt wsX4_laneAt ({ frames := 0, cells := 0, slots := 0, locals := 0 } : Room) (va_Pc [.ref a0, .int x1] (gC base D g)) (gQi base D rr gz) 0 0 (gA base) := by
  refine g_met (cc := cX4_laneAt) (maxL := 2) (ret := (some .int)) (lst := [(0, .ref a0), (1, .int x1)]) (by decide) rfl (Nat.le_of_ble_eq_true rfl) rfl ?_
  intro p e s m args below meth c ls hx hb hr hml hown hlocks hname hts hE hP hl
  have hown : s.vm.findClass RX4 = some m.cls := hown
  have hK := hE.1
  have hov := hE.2.2.2.2.2.2.2.1
  have hbz := hE.2.2.2.2.2.2.2.2.2.2.2.2
  have hS : va_S (gA base) s.heap s.heap [] := va_S.rf
  have hiX4 : ∀ w ∈ wsX40, w ∈ wsX4_laneAt := by decide +kernel
  unfold f4_laneAt at hF
  refine lv_iload_n hx hb dX4_laneAt_0 rfl (lv_at hl 1 rfl) ?_
  refine lv_if_lt (tgt := 21) hx hb dX4_laneAt_1 (by decide) (fun c1 => ?_) (fun c1 => ?_)
  · have hF := g_t c1 hF
    refine lv_iconst (v := (-1)) hx hb dX4_laneAt_21 (by decide) ?_
    exact g_retI hx hb hr hlocks hF hP hS (Nat.le_of_ble_eq_true rfl) (Nat.le_of_ble_eq_true rfl) dX4_laneAt_22
  · have hF := g_f c1 hF
    refine lv_iload_n hx hb dX4_laneAt_4 rfl (lv_at hl 1 rfl) ?_
    refine lv_aload_n hx hb dX4_laneAt_5 rfl (lv_at hl 0 rfl) ?_
    obtain ⟨h2, hF⟩ := g_if hF
    refine g_get hx hb hts hiX4 hown hK hP 4 rfl (by decide) h2 0 (by decide) (hts (.fieldLink RX4 21 "CourierBees$Route" "length" "I") (by decide +kernel)) (fun _ h9 => h9) (gFv_i (Or.inl rfl)) dX4_laneAt_6 ?_
    refine lv_icmp_ge (tgt := 21) hx hb dX4_laneAt_9 (by decide) (fun c3 => ?_) (fun c3 => ?_)
    · have hF := g_t c3 hF
      refine lv_iconst (v := (-1)) hx hb dX4_laneAt_21 (by decide) ?_
      exact g_retI hx hb hr hlocks hF hP hS (Nat.le_of_ble_eq_true rfl) (Nat.le_of_ble_eq_true rfl) dX4_laneAt_22
    · have hF := g_f c3 hF
      refine lv_aload_n hx hb dX4_laneAt_12 rfl (lv_at hl 0 rfl) ?_
      obtain ⟨q4, hq5, hF⟩ := g_bind hF
      refine g_get hx hb hts hiX4 hown hK hP 4 rfl (by decide) h2 2 (by decide) (hts (.fieldLink RX4 15 "CourierBees$Route" "lanes" "[I") (by decide +kernel)) (fun _ h9 => h9) ((gFv_r (by decide)).trans (congrArg va_rf hq5)) dX4_laneAt_13 ?_
      refine lv_iload_n hx hb dX4_laneAt_16 rfl (lv_at hl 1 rfl) ?_
      obtain ⟨h6, hF⟩ := g_if hF
      obtain ⟨h7, hF⟩ := g_if hF
      refine g_iald hx hb hP (g_pr h6) h7 dX4_laneAt_17 ?_
      refine lv_goto (tgt := 22) hx hb dX4_laneAt_18 (by decide) ?_
      exact g_retI hx hb hr hlocks hF hP hS (Nat.le_of_ble_eq_true rfl) (Nat.le_of_ble_eq_true rfl) dX4_laneAt_22
set_option maxHeartbeats 4000000 in
set_option maxRecDepth 100000 in
theorem k4_targetFor (l : Launch) (D : va_G) (base : Nat) (g : g_H) (a0 : Nat) (x1 : Int32) (rr : Int32) (gz : g_H) (hF : f4_targetFor g a0 x1 = some (rr, gz)) : Met l yX4_targetFor wsX4_targetFor ({ frames := 0, cells := 0, slots := 0, locals := 0 } : Room) (va_Pc [.ref a0, .int x1] (gC base D g)) (gQi base D rr gz) 0 0 (gA base) := by
  refine g_met (cc := cX4_targetFor) (maxL := 2) (ret := (some .int)) (lst := [(0, .ref a0), (1, .int x1)]) (by decide) rfl (Nat.le_of_ble_eq_true rfl) rfl ?_
  intro p e s m args below meth c ls hx hb hr hml hown hlocks hname hts hE hP hl
  have hown : s.vm.findClass RX4 = some m.cls := hown
  have hK := hE.1
  have hov := hE.2.2.2.2.2.2.2.1
  have hbz := hE.2.2.2.2.2.2.2.2.2.2.2.2
  have hS : va_S (gA base) s.heap s.heap [] := va_S.rf
  have hiX4 : ∀ w ∈ wsX40, w ∈ wsX4_targetFor := by decide +kernel
  unfold f4_targetFor at hF
  refine lv_iload_n hx hb dX4_targetFor_0 rfl (lv_at hl 1 rfl) ?_
  refine lv_if_lt (tgt := 19) hx hb dX4_targetFor_1 (by decide) (fun c1 => ?_) (fun c1 => ?_)
  · have hF := g_t c1 hF
    refine lv_iconst (v := (-1)) hx hb dX4_targetFor_19 (by decide) ?_
    exact g_retI hx hb hr hlocks hF hP hS (Nat.le_of_ble_eq_true rfl) (Nat.le_of_ble_eq_true rfl) dX4_targetFor_20
  · have hF := g_f c1 hF
    refine lv_iload_n hx hb dX4_targetFor_4 rfl (lv_at hl 1 rfl) ?_
    refine lv_bipush (v := 14) hx hb dX4_targetFor_5 (by decide) ?_
    refine lv_icmp_ge (tgt := 19) hx hb dX4_targetFor_7 (by decide) (fun c2 => ?_) (fun c2 => ?_)
    · have hF := g_t c2 hF
      refine lv_iconst (v := (-1)) hx hb dX4_targetFor_19 (by decide) ?_
      exact g_retI hx hb hr hlocks hF hP hS (Nat.le_of_ble_eq_true rfl) (Nat.le_of_ble_eq_true rfl) dX4_targetFor_20
    · have hF := g_f c2 hF
      refine lv_aload_n hx hb dX4_targetFor_10 rfl (lv_at hl 0 rfl) ?_
      obtain ⟨h3, hF⟩ := g_if hF
      obtain ⟨q4, hq5, hF⟩ := g_bind hF
      refine g_get hx hb hts hiX4 hown hK hP 4 rfl (by decide) h3 3 (by decide) (hts (.fieldLink RX4 18 "CourierBees$Route" "targets" "[I") (by decide +kernel)) (fun _ h9 => h9) ((gFv_r (by decide)).trans (congrArg va_rf hq5)) dX4_targetFor_11 ?_
      refine lv_iload_n hx hb dX4_targetFor_14 rfl (lv_at hl 1 rfl) ?_
      obtain ⟨h6, hF⟩ := g_if hF
      obtain ⟨h7, hF⟩ := g_if hF
      refine g_iald hx hb hP (g_pr h6) h7 dX4_targetFor_15 ?_
      refine lv_goto (tgt := 20) hx hb dX4_targetFor_16 (by decide) ?_
      exact g_retI hx hb hr hlocks hF hP hS (Nat.le_of_ble_eq_true rfl) (Nat.le_of_ble_eq_true rfl) dX4_targetFor_20
set_option maxHeartbeats 4000000 in
set_option maxRecDepth 100000 in
theorem k4_placeOf (l : Launch) (D : va_G) (base : Nat) (g : g_H) (a0 : Nat) (x1 : Int32) (rr : Int32) (gz : g_H) (hF : f4_placeOf g a0 x1 = some (rr, gz)) : Met l yX4_placeOf wsX4_placeOf ({ frames := 0, cells := 0, slots := 0, locals := 0 } : Room) (va_Pc [.ref a0, .int x1] (gC base D g)) (gQi base D rr gz) 0 0 (gA base) := by
  refine g_met (cc := cX4_placeOf) (maxL := 3) (ret := (some .int)) (lst := [(0, .ref a0), (1, .int x1)]) (by decide) rfl (Nat.le_of_ble_eq_true rfl) rfl ?_
  intro p e s m args below meth c ls hx hb hr hml hown hlocks hname hts hE hP hl
  have hown : s.vm.findClass RX4 = some m.cls := hown
  have hK := hE.1
  have hov := hE.2.2.2.2.2.2.2.1
  have hbz := hE.2.2.2.2.2.2.2.2.2.2.2.2
  have hS : va_S (gA base) s.heap s.heap [] := va_S.rf
  have hiX4 : ∀ w ∈ wsX40, w ∈ wsX4_placeOf := by decide +kernel
  have HL2 : ∀ (n2 : Nat), ∀ (g : g_H) (a0 : Nat) (x1 : Int32) (x2 : Int32) (H : Heap) (locs : List Loc) (ls : Array Slot), f4_placeOf_2 n2 g a0 x1 x2 = some (rr, gz) → gP base D s g H → va_S (gA base) s.heap H locs → lv_has ls 3 [(0, .ref a0), (1, .int x1), (2, .int x2)] → W p l e ({ frames := 0, cells := 0, slots := 0, locals := 0 } : Room) s m args below meth c H locs 0 0 (MQ below (gQi base D rr gz) args s 0 0 (gA base)) (F0 m 2 ls []) := by
    intro n2
    induction n2 with
    | zero => intro g a0 x1 x2 H locs ls hF hP hS hl; exact g_no hF
    | succ n2 ih2 =>
      intro g a0 x1 x2 H locs ls hF hP hS hl
      have hF : f4_placeOf_2b (f4_placeOf_2 n2) g a0 x1 x2 = some (rr, gz) := hF
      unfold f4_placeOf_2b at hF
      refine lv_iload_n hx hb dX4_placeOf_2 rfl (lv_at hl 2 rfl) ?_
      refine lv_aload_n hx hb dX4_placeOf_3 rfl (lv_at hl 0 rfl) ?_
      obtain ⟨h1, hF⟩ := g_if hF
      refine g_get hx hb hts hiX4 hown hK hP 4 rfl (by decide) h1 0 (by decide) (hts (.fieldLink RX4 21 "CourierBees$Route" "length" "I") (by decide +kernel)) (fun _ h9 => h9) (gFv_i (Or.inl rfl)) dX4_placeOf_4 ?_
      refine lv_icmp_ge (tgt := 28) hx hb dX4_placeOf_7 (by decide) (fun c2 => ?_) (fun c2 => ?_)
      · have hF := g_t c2 hF
        refine lv_iconst (v := (-1)) hx hb dX4_placeOf_28 (by decide) ?_
        exact g_retI hx hb hr hlocks hF hP hS (Nat.le_of_ble_eq_true rfl) (Nat.le_of_ble_eq_true rfl) dX4_placeOf_29
      · have hF := g_f c2 hF
        refine lv_aload_n hx hb dX4_placeOf_10 rfl (lv_at hl 0 rfl) ?_
        obtain ⟨q3, hq4, hF⟩ := g_bind hF
        refine g_get hx hb hts hiX4 hown hK hP 4 rfl (by decide) h1 1 (by decide) (hts (.fieldLink RX4 9 "CourierBees$Route" "houses" "[I") (by decide +kernel)) (fun _ h9 => h9) ((gFv_r (by decide)).trans (congrArg va_rf hq4)) dX4_placeOf_11 ?_
        refine lv_iload_n hx hb dX4_placeOf_14 rfl (lv_at hl 2 rfl) ?_
        obtain ⟨h5, hF⟩ := g_if hF
        obtain ⟨h6, hF⟩ := g_if hF
        refine g_iald hx hb hP (g_pr h5) h6 dX4_placeOf_15 ?_
        refine lv_iload_n hx hb dX4_placeOf_16 rfl (lv_at hl 1 rfl) ?_
        refine lv_icmp_ne (tgt := 22) hx hb dX4_placeOf_17 (by decide) (fun c7 => ?_) (fun c7 => ?_)
        · have hF := g_f c7 hF
          refine lv_iinc (v := x2 + (1 : Int32)) (lv' := [(2, .int (x2 + (1 : Int32))), (0, .ref a0), (1, .int x1)]) hx hb dX4_placeOf_22 hl (k := 2) rfl rfl (by decide) rfl (fun ls hl => ?_)
          refine lv_goto (tgt := 2) hx hb dX4_placeOf_25 (by decide) ?_
          exact ih2 _ _ _ _ _ _ _ hF hP hS (lv_sub hl [1, 2, 0] rfl)
        · have hF := g_t c7 hF
          refine lv_iload_n hx hb dX4_placeOf_20 rfl (lv_at hl 2 rfl) ?_
          exact g_retI hx hb hr hlocks hF hP hS (Nat.le_of_ble_eq_true rfl) (Nat.le_of_ble_eq_true rfl) dX4_placeOf_21
  unfold f4_placeOf at hF
  refine lv_iconst (v := 0) hx hb dX4_placeOf_0 (by decide) ?_
  refine lv_istore_n (lv' := [(2, .int ((0 : Int32))), (0, .ref a0), (1, .int x1)]) hx hb dX4_placeOf_1 rfl hl (by decide) rfl (fun ls hl => ?_)
  exact HL2 300 _ _ _ _ _ _ _ hF hP hS (lv_sub hl [1, 2, 0] rfl)
set_option maxHeartbeats 4000000 in
set_option maxRecDepth 100000 in
theorem k4_append (l : Launch) (D : va_G) (base : Nat) (g : g_H) (a0 : Nat) (x1 : Int32) (a2 : Nat) (rr : Int32) (gz : g_H) (hF : f4_append g a0 x1 a2 = some (rr, gz)) : Met l yX4_append wsX4_append ({ frames := 3, cells := 0, slots := 0, locals := 66 } : Room) (va_Pc [.ref a0, .int x1, .ref a2] (gC base D g)) (gQi base D rr gz) 0 0 (gA base) := by
  refine g_met (cc := cX4_append) (maxL := 4) (ret := (some .boolean)) (lst := [(0, .ref a0), (1, .int x1), (2, .ref a2)]) (by decide) rfl (Nat.le_of_ble_eq_true rfl) rfl ?_
  intro p e s m args below meth c ls hx hb hr hml hown hlocks hname hts hE hP hl
  have hown : s.vm.findClass RX4 = some m.cls := hown
  have hK := hE.1
  have hov := hE.2.2.2.2.2.2.2.1
  have hbz := hE.2.2.2.2.2.2.2.2.2.2.2.2
  have hS : va_S (gA base) s.heap s.heap [] := va_S.rf
  have hiX4 : ∀ w ∈ wsX40, w ∈ wsX4_append := by decide +kernel
  have HB71 : ∀ (g : g_H) (a0 : Nat) (x1 : Int32) (H : Heap) (locs : List Loc) (ls : Array Slot), f4_append_71 g a0 x1 = some (rr, gz) → gP base D s g H → va_S (gA base) s.heap H locs → lv_has ls 4 [(0, .ref a0), (1, .int x1)] → W p l e ({ frames := 3, cells := 0, slots := 0, locals := 66 } : Room) s m args below meth c H locs 0 0 (MQ below (gQi base D rr gz) args s 0 0 (gA base)) (F0 m 71 ls []) := by
    intro g a0 x1 H locs ls hF hP hS hl
    unfold f4_append_71 at hF
    refine lv_aload_n hx hb dX4_append_71 rfl (lv_at hl 0 rfl) ?_
    obtain ⟨h14, hF⟩ := g_if hF
    obtain ⟨q15, hq16, hF⟩ := g_bind hF
    refine g_get hx hb hts hiX4 hown hK hP 4 rfl (by decide) h14 2 (by decide) (hts (.fieldLink RX4 15 "CourierBees$Route" "lanes" "[I") (by decide +kernel)) (fun _ h9 => h9) ((gFv_r (by decide)).trans (congrArg va_rf hq16)) dX4_append_72 ?_
    refine lv_aload_n hx hb dX4_append_75 rfl (lv_at hl 0 rfl) ?_
    refine g_get hx hb hts hiX4 hown hK hP 4 rfl (by decide) h14 0 (by decide) (hts (.fieldLink RX4 21 "CourierBees$Route" "length" "I") (by decide +kernel)) (fun _ h9 => h9) (gFv_i (Or.inl rfl)) dX4_append_76 ?_
    refine lv_iconst (v := (-1)) hx hb dX4_append_79 (by decide) ?_
    obtain ⟨h17, hF⟩ := g_if hF
    obtain ⟨h18, hF⟩ := g_if hF
    refine g_iast hx hb hP hS (g_pr h17) h18 dX4_append_80 (fun H locs hP hS => ?_)
    refine lv_aload_n hx hb dX4_append_81 rfl (lv_at hl 0 rfl) ?_
    obtain ⟨q19, hq20, hF⟩ := g_bind hF
    refine g_get hx hb hts hiX4 hown hK hP 4 rfl (by decide) h14 1 (by decide) (hts (.fieldLink RX4 9 "CourierBees$Route" "houses" "[I") (by decide +kernel)) (fun _ h9 => h9) ((gFv_r (by decide)).trans (congrArg va_rf hq20)) dX4_append_82 ?_
    refine lv_aload_n hx hb dX4_append_85 rfl (lv_at hl 0 rfl) ?_
    refine g_get hx hb hts hiX4 hown hK hP 4 rfl (by decide) h14 0 (by decide) (hts (.fieldLink RX4 21 "CourierBees$Route" "length" "I") (by decide +kernel)) (fun _ h9 => h9) (gFv_i (Or.inl rfl)) dX4_append_86 ?_
    refine lv_iload_n hx hb dX4_append_89 rfl (lv_at hl 1 rfl) ?_
    obtain ⟨h21, hF⟩ := g_if hF
    obtain ⟨h22, hF⟩ := g_if hF
    refine g_iast hx hb hP hS (g_pr h21) h22 dX4_append_90 (fun H locs hP hS => ?_)
    refine lv_aload_n hx hb dX4_append_91 rfl (lv_at hl 0 rfl) ?_
    refine lv_dup hx hb dX4_append_92 rfl ?_
    refine g_get hx hb hts hiX4 hown hK hP 4 rfl (by decide) h14 0 (by decide) (hts (.fieldLink RX4 21 "CourierBees$Route" "length" "I") (by decide +kernel)) (fun _ h9 => h9) (gFv_i (Or.inl rfl)) dX4_append_93 ?_
    refine lv_iconst (v := 1) hx hb dX4_append_96 (by decide) ?_
    refine lv_iadd hx hb dX4_append_97 ?_
    obtain ⟨y23, e24, hF⟩ := g_let hF
    rw [e24]
    refine g_puti hx hb hts hiX4 tyX4 tyX4_ok nmX4 hown hK hP hS 4 rfl (by decide) h14 0 (by decide) (hts (.fieldLink RX4 21 "CourierBees$Route" "length" "I") (by decide +kernel)) (fun _ h9 => h9) (Or.inl rfl) (Or.inl rfl) rfl rfl dX4_append_98 (fun H locs hP hS => ?_)
    refine lv_iconst (v := 1) hx hb dX4_append_101 (by decide) ?_
    exact g_retZ hx hb hr (Or.inr rfl) hlocks hF hP hS (Nat.le_of_ble_eq_true rfl) (Nat.le_of_ble_eq_true rfl) dX4_append_102
  unfold f4_append at hF
  refine lv_aload_n hx hb dX4_append_0 rfl (lv_at hl 2 rfl) ?_
  refine lv_iload_n hx hb dX4_append_1 rfl (lv_at hl 1 rfl) ?_
  obtain ⟨h2, hF⟩ := g_if hF
  obtain ⟨v4, g3, h1, hF⟩ := g_bind2 hF
  refine g_calli (va_runV (As := [.int x1]) (rest := []) ⟨hx, hb, hml, hown, hts⟩ (k5_hasHouse l D base g a2 x1 v4 g3 h1) (cwV 1 hts gX4_append_X5_hasHouse rfl rfl rfl (by decide +kernel) ⟨Nat.le_of_ble_eq_true rfl, Nat.le_of_ble_eq_true rfl⟩) (gC.preV hE hP hS 5 rfl (by decide) h2 [.int x1]) rfl rfl hl.1 rfl (lv_room (Nat.le_of_ble_eq_true rfl)) dX4_append_2 ⟨(Nat.le_of_ble_eq_true rfl), (Nat.le_of_ble_eq_true rfl)⟩) hS (fun H locs hP hS => ?_)
  refine lv_if_eq (tgt := 26) hx hb dX4_append_5 (by decide) (fun c5 => ?_) (fun c5 => ?_)
  · have hF := g_t c5 hF
    refine lv_iconst (v := 0) hx hb dX4_append_26 (by decide) ?_
    exact g_retZ hx hb hr (Or.inl rfl) hlocks hF hP hS (Nat.le_of_ble_eq_true rfl) (Nat.le_of_ble_eq_true rfl) dX4_append_27
  · have hF := g_f c5 hF
    refine lv_aload_n hx hb dX4_append_8 rfl (lv_at hl 0 rfl) ?_
    refine lv_iload_n hx hb dX4_append_9 rfl (lv_at hl 1 rfl) ?_
    obtain ⟨h7, hF⟩ := g_if hF
    obtain ⟨v9, g8, h6, hF⟩ := g_bind2 hF
    refine g_calli (va_runV (As := [.int x1]) (rest := []) ⟨hx, hb, hml, hown, hts⟩ (k4_placeOf l D base g3 a0 x1 v9 g8 h6) (cwV 1 hts gX4_append_X4_placeOf rfl rfl rfl (by decide +kernel) ⟨Nat.le_of_ble_eq_true rfl, Nat.le_of_ble_eq_true rfl⟩) (gC.preV hE hP hS 4 rfl (by decide) h7 [.int x1]) rfl rfl hl.1 rfl (lv_room (Nat.le_of_ble_eq_true rfl)) dX4_append_10 ⟨(Nat.le_of_ble_eq_true rfl), (Nat.le_of_ble_eq_true rfl)⟩) hS (fun H locs hP hS => ?_)
    refine lv_iconst (v := (-1)) hx hb dX4_append_13 (by decide) ?_
    refine lv_icmp_ne (tgt := 26) hx hb dX4_append_14 (by decide) (fun c10 => ?_) (fun c10 => ?_)
    · have hF := g_f c10 hF
      refine lv_iconst (v := 0) hx hb dX4_append_26 (by decide) ?_
      exact g_retZ hx hb hr (Or.inl rfl) hlocks hF hP hS (Nat.le_of_ble_eq_true rfl) (Nat.le_of_ble_eq_true rfl) dX4_append_27
    · have hF := g_t c10 hF
      refine lv_aload_n hx hb dX4_append_17 rfl (lv_at hl 0 rfl) ?_
      obtain ⟨h11, hF⟩ := g_if hF
      refine g_get hx hb hts hiX4 hown hK hP 4 rfl (by decide) h11 0 (by decide) (hts (.fieldLink RX4 21 "CourierBees$Route" "length" "I") (by decide +kernel)) (fun _ h9 => h9) (gFv_i (Or.inl rfl)) dX4_append_18 ?_
      refine lv_bipush (v := 7) hx hb dX4_append_21 (by decide) ?_
      refine lv_icmp_lt (tgt := 28) hx hb dX4_append_23 (by decide) (fun c12 => ?_) (fun c12 => ?_)
      · have hF := g_t c12 hF
        refine lv_aload_n hx hb dX4_append_28 rfl (lv_at hl 0 rfl) ?_
        refine g_get hx hb hts hiX4 hown hK hP 4 rfl (by decide) h11 0 (by decide) (hts (.fieldLink RX4 21 "CourierBees$Route" "length" "I") (by decide +kernel)) (fun _ h9 => h9) (gFv_i (Or.inl rfl)) dX4_append_29 ?_
        refine lv_if_le (tgt := 71) hx hb dX4_append_32 (by decide) (fun c13 => ?_) (fun c13 => ?_)
        · have hF := g_t c13 hF
          exact HB71 _ _ _ _ _ _ hF hP hS (lv_sub hl [0, 1] rfl)
        · have hF := g_f c13 hF
          refine lv_aload_n hx hb dX4_append_35 rfl (lv_at hl 2 rfl) ?_
          refine lv_aload_n hx hb dX4_append_36 rfl (lv_at hl 0 rfl) ?_
          obtain ⟨q25, hq26, hF⟩ := g_bind hF
          refine g_get hx hb hts hiX4 hown hK hP 4 rfl (by decide) h11 1 (by decide) (hts (.fieldLink RX4 9 "CourierBees$Route" "houses" "[I") (by decide +kernel)) (fun _ h9 => h9) ((gFv_r (by decide)).trans (congrArg va_rf hq26)) dX4_append_37 ?_
          refine lv_aload_n hx hb dX4_append_40 rfl (lv_at hl 0 rfl) ?_
          refine g_get hx hb hts hiX4 hown hK hP 4 rfl (by decide) h11 0 (by decide) (hts (.fieldLink RX4 21 "CourierBees$Route" "length" "I") (by decide +kernel)) (fun _ h9 => h9) (gFv_i (Or.inl rfl)) dX4_append_41 ?_
          refine lv_iconst (v := 1) hx hb dX4_append_44 (by decide) ?_
          refine lv_isub hx hb dX4_append_45 ?_
          obtain ⟨h27, hF⟩ := g_if hF
          obtain ⟨h28, hF⟩ := g_if hF
          refine g_iald hx hb hP (g_pr h27) h28 dX4_append_46 ?_
          refine lv_iload_n hx hb dX4_append_47 rfl (lv_at hl 1 rfl) ?_
          obtain ⟨h30, hF⟩ := g_if hF
          obtain ⟨v32, g31, h29, hF⟩ := g_bind2 hF
          refine g_calli (va_runV (As := [.int (gI g8 q25 (Int32.toNatClampNeg ((gI g8 a0 0) - ((1 : Int32))))), .int x1]) (rest := []) ⟨hx, hb, hml, hown, hts⟩ (k5_shortestLane l D base g8 a2 (gI g8 q25 (Int32.toNatClampNeg ((gI g8 a0 0) - ((1 : Int32))))) x1 v32 g31 h29) (cwV 2 hts gX4_append_X5_shortestLane rfl rfl rfl (by decide +kernel) ⟨Nat.le_of_ble_eq_true rfl, Nat.le_of_ble_eq_true rfl⟩) (gC.preV hE hP hS 5 rfl (by decide) h30 [.int (gI g8 q25 (Int32.toNatClampNeg ((gI g8 a0 0) - ((1 : Int32))))), .int x1]) rfl rfl hl.1 rfl (lv_room (Nat.le_of_ble_eq_true rfl)) dX4_append_48 ⟨(Nat.le_of_ble_eq_true rfl), (Nat.le_of_ble_eq_true rfl)⟩) hS (fun H locs hP hS => ?_)
          refine lv_istore_n (lv' := [(3, .int v32), (0, .ref a0), (1, .int x1), (2, .ref a2)]) hx hb dX4_append_51 rfl hl (by decide) rfl (fun ls hl => ?_)
          refine lv_iload_n hx hb dX4_append_52 rfl (lv_at hl 0 rfl) ?_
          refine lv_iconst (v := (-1)) hx hb dX4_append_53 (by decide) ?_
          refine lv_icmp_ne (tgt := 59) hx hb dX4_append_54 (by decide) (fun c33 => ?_) (fun c33 => ?_)
          · have hF := g_f c33 hF
            refine lv_aload_n hx hb dX4_append_59 rfl (lv_at hl 1 rfl) ?_
            obtain ⟨h34, hF⟩ := g_if hF
            obtain ⟨q35, hq36, hF⟩ := g_bind hF
            refine g_get hx hb hts hiX4 hown hK hP 4 rfl (by decide) h34 2 (by decide) (hts (.fieldLink RX4 15 "CourierBees$Route" "lanes" "[I") (by decide +kernel)) (fun _ h9 => h9) ((gFv_r (by decide)).trans (congrArg va_rf hq36)) dX4_append_60 ?_
            refine lv_aload_n hx hb dX4_append_63 rfl (lv_at hl 1 rfl) ?_
            refine g_get hx hb hts hiX4 hown hK hP 4 rfl (by decide) h34 0 (by decide) (hts (.fieldLink RX4 21 "CourierBees$Route" "length" "I") (by decide +kernel)) (fun _ h9 => h9) (gFv_i (Or.inl rfl)) dX4_append_64 ?_
            refine lv_iconst (v := 1) hx hb dX4_append_67 (by decide) ?_
            refine lv_isub hx hb dX4_append_68 ?_
            refine lv_iload_n hx hb dX4_append_69 rfl (lv_at hl 0 rfl) ?_
            obtain ⟨h37, hF⟩ := g_if hF
            obtain ⟨h38, hF⟩ := g_if hF
            refine g_iast hx hb hP hS (g_pr h37) h38 dX4_append_70 (fun H locs hP hS => ?_)
            exact HB71 _ _ _ _ _ _ hF hP hS (lv_sub hl [1, 2] rfl)
          · have hF := g_t c33 hF
            refine lv_iconst (v := 0) hx hb dX4_append_57 (by decide) ?_
            exact g_retZ hx hb hr (Or.inl rfl) hlocks hF hP hS (Nat.le_of_ble_eq_true rfl) (Nat.le_of_ble_eq_true rfl) dX4_append_58
      · have hF := g_f c12 hF
        refine lv_iconst (v := 0) hx hb dX4_append_26 (by decide) ?_
        exact g_retZ hx hb hr (Or.inl rfl) hlocks hF hP hS (Nat.le_of_ble_eq_true rfl) (Nat.le_of_ble_eq_true rfl) dX4_append_27
set_option maxHeartbeats 4000000 in
set_option maxRecDepth 100000 in
theorem k4_findTargets (l : Launch) (D : va_G) (base : Nat) (g : g_H) (a0 : Nat) (a1 : Nat) (gz : g_H) (hF : f4_findTargets g a0 a1 = some gz) : Met l yX4_findTargets wsX4_findTargets ({ frames := 2, cells := 0, slots := 0, locals := 43 } : Room) (va_Pc [.ref a0, .ref a1] (gC base D g)) (gQv base D gz) 0 0 (gA base) := by
  refine g_met (cc := cX4_findTargets) (maxL := 6) (ret := none) (lst := [(0, .ref a0), (1, .ref a1)]) (by decide) rfl (Nat.le_of_ble_eq_true rfl) rfl ?_
  intro p e s m args below meth c ls hx hb hr hml hown hlocks hname hts hE hP hl
  have hown : s.vm.findClass RX4 = some m.cls := hown
  have hK := hE.1
  have hov := hE.2.2.2.2.2.2.2.1
  have hbz := hE.2.2.2.2.2.2.2.2.2.2.2.2
  have hS : va_S (gA base) s.heap s.heap [] := va_S.rf
  have hiX4 : ∀ w ∈ wsX40, w ∈ wsX4_findTargets := by decide +kernel
  have HL2 : ∀ (n2 : Nat), ∀ (g : g_H) (a0 : Nat) (a1 : Nat) (x2 : Int32) (H : Heap) (locs : List Loc) (ls : Array Slot), f4_findTargets_2 n2 g a0 a1 x2 = some gz → gP base D s g H → va_S (gA base) s.heap H locs → lv_has ls 6 [(0, .ref a0), (1, .ref a1), (2, .int x2)] → W p l e ({ frames := 2, cells := 0, slots := 0, locals := 43 } : Room) s m args below meth c H locs 0 0 (MQ below (gQv base D gz) args s 0 0 (gA base)) (F0 m 2 ls []) := by
    intro n2
    induction n2 with
    | zero => intro g a0 a1 x2 H locs ls hF hP hS hl; exact g_no hF
    | succ n2 ih2 =>
      have HL22 : ∀ (n22 : Nat), ∀ (g : g_H) (a0 : Nat) (a1 : Nat) (x2 : Int32) (x3 : Int32) (x4 : Int32) (H : Heap) (locs : List Loc) (ls : Array Slot), f4_findTargets_22 (f4_findTargets_2 n2) n22 g a0 a1 x2 x3 x4 = some gz → gP base D s g H → va_S (gA base) s.heap H locs → lv_has ls 6 [(0, .ref a0), (1, .ref a1), (2, .int x2), (3, .int x3), (4, .int x4)] → W p l e ({ frames := 2, cells := 0, slots := 0, locals := 43 } : Room) s m args below meth c H locs 0 0 (MQ below (gQv base D gz) args s 0 0 (gA base)) (F0 m 22 ls []) := by
        intro n22
        induction n22 with
        | zero => intro g a0 a1 x2 x3 x4 H locs ls hF hP hS hl; exact g_no hF
        | succ n22 ih22 =>
          have HB67 : ∀ (g : g_H) (a0 : Nat) (a1 : Nat) (x2 : Int32) (x3 : Int32) (x4 : Int32) (H : Heap) (locs : List Loc) (ls : Array Slot), f4_findTargets_67 (f4_findTargets_2 n2) (f4_findTargets_22 (f4_findTargets_2 n2) n22) g a0 a1 x2 x3 x4 = some gz → gP base D s g H → va_S (gA base) s.heap H locs → lv_has ls 6 [(0, .ref a0), (1, .ref a1), (2, .int x2), (3, .int x3), (4, .int x4)] → W p l e ({ frames := 2, cells := 0, slots := 0, locals := 43 } : Room) s m args below meth c H locs 0 0 (MQ below (gQv base D gz) args s 0 0 (gA base)) (F0 m 67 ls []) := by
            intro g a0 a1 x2 x3 x4 H locs ls hF hP hS hl
            unfold f4_findTargets_67 at hF
            refine lv_iinc (v := x4 + (1 : Int32)) (lv' := [(4, .int (x4 + (1 : Int32))), (0, .ref a0), (1, .ref a1), (2, .int x2), (3, .int x3)]) hx hb dX4_findTargets_67 hl (k := 4) rfl rfl (by decide) rfl (fun ls hl => ?_)
            refine lv_goto (tgt := 22) hx hb dX4_findTargets_70 (by decide) ?_
            exact ih22 _ _ _ _ _ _ _ _ _ hF hP hS (lv_sub hl [1, 2, 3, 4, 0] rfl)
          intro g a0 a1 x2 x3 x4 H locs ls hF hP hS hl
          have hF : f4_findTargets_22b (f4_findTargets_2 n2) (f4_findTargets_22 (f4_findTargets_2 n2) n22) g a0 a1 x2 x3 x4 = some gz := hF
          unfold f4_findTargets_22b at hF
          refine lv_iload hx hb dX4_findTargets_22 (lv_at hl 4 rfl) ?_
          refine lv_aload_n hx hb dX4_findTargets_24 rfl (lv_at hl 0 rfl) ?_
          obtain ⟨h7, hF⟩ := g_if hF
          refine g_get hx hb hts hiX4 hown hK hP 4 rfl (by decide) h7 0 (by decide) (hts (.fieldLink RX4 21 "CourierBees$Route" "length" "I") (by decide +kernel)) (fun _ h9 => h9) (gFv_i (Or.inl rfl)) dX4_findTargets_25 ?_
          refine lv_icmp_ge (tgt := 73) hx hb dX4_findTargets_28 (by decide) (fun c8 => ?_) (fun c8 => ?_)
          · have hF := g_t c8 hF
            refine lv_iinc (v := x2 + (1 : Int32)) (lv' := [(2, .int (x2 + (1 : Int32))), (0, .ref a0), (1, .ref a1), (3, .int x3), (4, .int x4)]) hx hb dX4_findTargets_73 hl (k := 2) rfl rfl (by decide) rfl (fun ls hl => ?_)
            refine lv_goto (tgt := 2) hx hb dX4_findTargets_76 (by decide) ?_
            exact ih2 _ _ _ _ _ _ _ hF hP hS (lv_sub hl [1, 2, 0] rfl)
          · have hF := g_f c8 hF
            refine lv_aload_n hx hb dX4_findTargets_31 rfl (lv_at hl 1 rfl) ?_
            refine lv_aload_n hx hb dX4_findTargets_32 rfl (lv_at hl 0 rfl) ?_
            obtain ⟨q9, hq10, hF⟩ := g_bind hF
            refine g_get hx hb hts hiX4 hown hK hP 4 rfl (by decide) h7 1 (by decide) (hts (.fieldLink RX4 9 "CourierBees$Route" "houses" "[I") (by decide +kernel)) (fun _ h9 => h9) ((gFv_r (by decide)).trans (congrArg va_rf hq10)) dX4_findTargets_33 ?_
            refine lv_iload hx hb dX4_findTargets_36 (lv_at hl 4 rfl) ?_
            obtain ⟨h11, hF⟩ := g_if hF
            obtain ⟨h12, hF⟩ := g_if hF
            refine g_iald hx hb hP (g_pr h11) h12 dX4_findTargets_38 ?_
            refine lv_iload_n hx hb dX4_findTargets_39 rfl (lv_at hl 2 rfl) ?_
            obtain ⟨h14, hF⟩ := g_if hF
            obtain ⟨v16, g15, h13, hF⟩ := g_bind2 hF
            refine g_calli (va_runV (As := [.int (gI g q9 (Int32.toNatClampNeg x4)), .int x2]) (rest := []) ⟨hx, hb, hml, hown, hts⟩ (k5_wayBetween l D base g a1 (gI g q9 (Int32.toNatClampNeg x4)) x2 v16 g15 h13) (cwV 2 hts gX4_findTargets_X5_wayBetween rfl rfl rfl (by decide +kernel) ⟨Nat.le_of_ble_eq_true rfl, Nat.le_of_ble_eq_true rfl⟩) (gC.preV hE hP hS 5 rfl (by decide) h14 [.int (gI g q9 (Int32.toNatClampNeg x4)), .int x2]) rfl rfl hl.1 rfl (lv_room (Nat.le_of_ble_eq_true rfl)) dX4_findTargets_40 ⟨(Nat.le_of_ble_eq_true rfl), (Nat.le_of_ble_eq_true rfl)⟩) hS (fun H locs hP hS => ?_)
            refine lv_istore (lv' := [(5, .int v16), (0, .ref a0), (1, .ref a1), (2, .int x2), (3, .int x3), (4, .int x4)]) hx hb dX4_findTargets_43 hl (by decide) rfl (fun ls hl => ?_)
            refine lv_iload hx hb dX4_findTargets_45 (lv_at hl 0 rfl) ?_
            refine lv_iload_n hx hb dX4_findTargets_47 rfl (lv_at hl 4 rfl) ?_
            refine lv_icmp_ge (tgt := 67) hx hb dX4_findTargets_48 (by decide) (fun c17 => ?_) (fun c17 => ?_)
            · have hF := g_t c17 hF
              exact HB67 _ _ _ _ _ _ _ _ _ hF hP hS (lv_sub hl [1, 2, 3, 4, 5] rfl)
            · have hF := g_f c17 hF
              refine lv_iload hx hb dX4_findTargets_51 (lv_at hl 0 rfl) ?_
              refine lv_istore_n (lv' := [(3, .int v16), (5, .int v16), (0, .ref a0), (1, .ref a1), (2, .int x2), (4, .int x4)]) hx hb dX4_findTargets_53 rfl hl (by decide) rfl (fun ls hl => ?_)
              refine lv_aload_n hx hb dX4_findTargets_54 rfl (lv_at hl 2 rfl) ?_
              obtain ⟨h18, hF⟩ := g_if hF
              obtain ⟨q19, hq20, hF⟩ := g_bind hF
              refine g_get hx hb hts hiX4 hown hK hP 4 rfl (by decide) h18 3 (by decide) (hts (.fieldLink RX4 18 "CourierBees$Route" "targets" "[I") (by decide +kernel)) (fun _ h9 => h9) ((gFv_r (by decide)).trans (congrArg va_rf hq20)) dX4_findTargets_55 ?_
              refine lv_iload_n hx hb dX4_findTargets_58 rfl (lv_at hl 4 rfl) ?_
              refine lv_aload_n hx hb dX4_findTargets_59 rfl (lv_at hl 2 rfl) ?_
              obtain ⟨q21, hq22, hF⟩ := g_bind hF
              refine g_get hx hb hts hiX4 hown hK hP 4 rfl (by decide) h18 1 (by decide) (hts (.fieldLink RX4 9 "CourierBees$Route" "houses" "[I") (by decide +kernel)) (fun _ h9 => h9) ((gFv_r (by decide)).trans (congrArg va_rf hq22)) dX4_findTargets_60 ?_
              refine lv_iload hx hb dX4_findTargets_63 (lv_at hl 5 rfl) ?_
              obtain ⟨h23, hF⟩ := g_if hF
              obtain ⟨h24, hF⟩ := g_if hF
              refine g_iald hx hb hP (g_pr h23) h24 dX4_findTargets_65 ?_
              obtain ⟨y25, e26, hF⟩ := g_let hF
              rw [e26]
              obtain ⟨h27, hF⟩ := g_if hF
              obtain ⟨h28, hF⟩ := g_if hF
              refine g_iast hx hb hP hS (g_pr h27) h28 dX4_findTargets_66 (fun H locs hP hS => ?_)
              exact HB67 _ _ _ _ _ _ _ _ _ hF hP hS (lv_sub hl [2, 3, 4, 0, 5] rfl)
      intro g a0 a1 x2 H locs ls hF hP hS hl
      have hF : f4_findTargets_2b (f4_findTargets_2 n2) g a0 a1 x2 = some gz := hF
      unfold f4_findTargets_2b at hF
      refine lv_iload_n hx hb dX4_findTargets_2 rfl (lv_at hl 2 rfl) ?_
      refine lv_bipush (v := 14) hx hb dX4_findTargets_3 (by decide) ?_
      refine lv_icmp_ge (tgt := 79) hx hb dX4_findTargets_5 (by decide) (fun c1 => ?_) (fun c1 => ?_)
      · have hF := g_t c1 hF
        exact g_retV hx hb hr hlocks hF hP hS (Nat.le_of_ble_eq_true rfl) (Nat.le_of_ble_eq_true rfl) dX4_findTargets_79
      · have hF := g_f c1 hF
        refine lv_sipush (v := 1000) hx hb dX4_findTargets_8 (by decide) ?_
        refine lv_istore_n (lv' := [(3, .int ((1000 : Int32))), (0, .ref a0), (1, .ref a1), (2, .int x2)]) hx hb dX4_findTargets_11 rfl hl (by decide) rfl (fun ls hl => ?_)
        refine lv_aload_n hx hb dX4_findTargets_12 rfl (lv_at hl 1 rfl) ?_
        obtain ⟨h2, hF⟩ := g_if hF
        obtain ⟨q3, hq4, hF⟩ := g_bind hF
        refine g_get hx hb hts hiX4 hown hK hP 4 rfl (by decide) h2 3 (by decide) (hts (.fieldLink RX4 18 "CourierBees$Route" "targets" "[I") (by decide +kernel)) (fun _ h9 => h9) ((gFv_r (by decide)).trans (congrArg va_rf hq4)) dX4_findTargets_13 ?_
        refine lv_iload_n hx hb dX4_findTargets_16 rfl (lv_at hl 3 rfl) ?_
        refine lv_iconst (v := (-1)) hx hb dX4_findTargets_17 (by decide) ?_
        obtain ⟨h5, hF⟩ := g_if hF
        obtain ⟨h6, hF⟩ := g_if hF
        refine g_iast hx hb hP hS (g_pr h5) h6 dX4_findTargets_18 (fun H locs hP hS => ?_)
        refine lv_iconst (v := 0) hx hb dX4_findTargets_19 (by decide) ?_
        refine lv_istore (lv' := [(4, .int ((0 : Int32))), (3, .int ((1000 : Int32))), (0, .ref a0), (1, .ref a1), (2, .int x2)]) hx hb dX4_findTargets_20 hl (by decide) rfl (fun ls hl => ?_)
        exact HL22 300 _ _ _ _ _ _ _ _ _ hF hP hS (lv_sub hl [2, 3, 4, 1, 0] rfl)
  unfold f4_findTargets at hF
  refine lv_iconst (v := 0) hx hb dX4_findTargets_0 (by decide) ?_
  refine lv_istore_n (lv' := [(2, .int ((0 : Int32))), (0, .ref a0), (1, .ref a1)]) hx hb dX4_findTargets_1 rfl hl (by decide) rfl (fun ls hl => ?_)
  exact HL2 300 _ _ _ _ _ _ _ hF hP hS (lv_sub hl [1, 2, 0] rfl)
set_option maxHeartbeats 4000000 in
set_option maxRecDepth 100000 in
theorem k4_read (l : Launch) (D : va_G) (base : Nat) (g : g_H) (a0 : Nat) (x1 : Int32) (a2 : Nat) (rr : Int32) (gz : g_H) (hF : f4_read g a0 x1 a2 = some (rr, gz)) : Met l yX4_read wsX4_read ({ frames := 4, cells := 0, slots := 0, locals := 89 } : Room) (va_Pc [.ref a0, .int x1, .ref a2] (gC base D g)) (gQi base D rr gz) 0 0 (gA base) := by
  refine g_met (cc := cX4_read) (maxL := 5) (ret := (some .boolean)) (lst := [(0, .ref a0), (1, .int x1), (2, .ref a2)]) (by decide) rfl (Nat.le_of_ble_eq_true rfl) rfl ?_
  intro p e s m args below meth c ls hx hb hr hml hown hlocks hname hts hE hP hl
  have hown : s.vm.findClass RX4 = some m.cls := hown
  have hK := hE.1
  have hov := hE.2.2.2.2.2.2.2.1
  have hbz := hE.2.2.2.2.2.2.2.2.2.2.2.2
  have hS : va_S (gA base) s.heap s.heap [] := va_S.rf
  have hiX4 : ∀ w ∈ wsX40, w ∈ wsX4_read := by decide +kernel
  have HL21 : ∀ (n21 : Nat), ∀ (g : g_H) (a0 : Nat) (x1 : Int32) (a2 : Nat) (x3 : Int32) (H : Heap) (locs : List Loc) (ls : Array Slot), f4_read_21 n21 g a0 x1 a2 x3 = some (rr, gz) → gP base D s g H → va_S (gA base) s.heap H locs → lv_has ls 5 [(0, .ref a0), (1, .int x1), (2, .ref a2), (3, .int x3)] → W p l e ({ frames := 4, cells := 0, slots := 0, locals := 89 } : Room) s m args below meth c H locs 0 0 (MQ below (gQi base D rr gz) args s 0 0 (gA base)) (F0 m 21 ls []) := by
    intro n21
    induction n21 with
    | zero => intro g a0 x1 a2 x3 H locs ls hF hP hS hl; exact g_no hF
    | succ n21 ih21 =>
      have HB54 : ∀ (g : g_H) (a0 : Nat) (x1 : Int32) (a2 : Nat) (x3 : Int32) (H : Heap) (locs : List Loc) (ls : Array Slot), f4_read_54 (f4_read_21 n21) g a0 x1 a2 x3 = some (rr, gz) → gP base D s g H → va_S (gA base) s.heap H locs → lv_has ls 5 [(0, .ref a0), (1, .int x1), (2, .ref a2), (3, .int x3)] → W p l e ({ frames := 4, cells := 0, slots := 0, locals := 89 } : Room) s m args below meth c H locs 0 0 (MQ below (gQi base D rr gz) args s 0 0 (gA base)) (F0 m 54 ls []) := by
        intro g a0 x1 a2 x3 H locs ls hF hP hS hl
        unfold f4_read_54 at hF
        refine lv_iinc (v := x3 + (-1 : Int32)) (lv' := [(3, .int (x3 + (-1 : Int32))), (0, .ref a0), (1, .int x1), (2, .ref a2)]) hx hb dX4_read_54 hl (k := 3) rfl rfl (by decide) rfl (fun ls hl => ?_)
        refine lv_goto (tgt := 21) hx hb dX4_read_57 (by decide) ?_
        exact ih21 _ _ _ _ _ _ _ _ hF hP hS (lv_sub hl [1, 2, 3, 0] rfl)
      intro g a0 x1 a2 x3 H locs ls hF hP hS hl
      have hF : f4_read_21b (f4_read_21 n21) g a0 x1 a2 x3 = some (rr, gz) := hF
      unfold f4_read_21b at hF
      refine lv_iload_n hx hb dX4_read_21 rfl (lv_at hl 3 rfl) ?_
      refine lv_if_lt (tgt := 60) hx hb dX4_read_22 (by decide) (fun c4 => ?_) (fun c4 => ?_)
      · have hF := g_t c4 hF
        refine lv_aload_n hx hb dX4_read_60 rfl (lv_at hl 0 rfl) ?_
        refine lv_aload_n hx hb dX4_read_61 rfl (lv_at hl 2 rfl) ?_
        obtain ⟨h6, hF⟩ := g_if hF
        obtain ⟨g7, h5, hF⟩ := g_bind hF
        refine g_callv (va_runV (As := [.ref a2]) (rest := []) ⟨hx, hb, hml, hown, hts⟩ (k4_findTargets l D base g a0 a2 g7 h5) (cwV 1 hts gX4_read_X4_findTargets rfl rfl rfl (by decide +kernel) ⟨Nat.le_of_ble_eq_true rfl, Nat.le_of_ble_eq_true rfl⟩) (gC.preV hE hP hS 4 rfl (by decide) h6 [.ref a2]) rfl rfl hl.1 rfl (lv_room (Nat.le_of_ble_eq_true rfl)) dX4_read_62 ⟨(Nat.le_of_ble_eq_true rfl), (Nat.le_of_ble_eq_true rfl)⟩) hS (fun H locs hP hS => ?_)
        refine lv_iconst (v := 1) hx hb dX4_read_65 (by decide) ?_
        exact g_retZ hx hb hr (Or.inr rfl) hlocks hF hP hS (Nat.le_of_ble_eq_true rfl) (Nat.le_of_ble_eq_true rfl) dX4_read_66
      · have hF := g_f c4 hF
        refine lv_iload_n hx hb dX4_read_25 rfl (lv_at hl 1 rfl) ?_
        refine lv_iconst (v := 4) hx hb dX4_read_26 (by decide) ?_
        refine lv_iload_n hx hb dX4_read_27 rfl (lv_at hl 3 rfl) ?_
        refine lv_imul hx hb dX4_read_28 ?_
        refine lv_ishr hx hb dX4_read_29 ?_
        refine lv_istore (lv' := [(4, .int (x1 >>> ((((4 : Int32)) * x3) &&& 31))), (0, .ref a0), (1, .int x1), (2, .ref a2), (3, .int x3)]) hx hb dX4_read_30 hl (by decide) rfl (fun ls hl => ?_)
        refine lv_iload hx hb dX4_read_32 (lv_at hl 0 rfl) ?_
        refine lv_if_le (tgt := 54) hx hb dX4_read_34 (by decide) (fun c9 => ?_) (fun c9 => ?_)
        · have hF := g_t c9 hF
          exact HB54 _ _ _ _ _ _ _ _ hF hP hS (lv_sub hl [1, 2, 3, 4] rfl)
        · have hF := g_f c9 hF
          refine lv_aload_n hx hb dX4_read_37 rfl (lv_at hl 1 rfl) ?_
          refine lv_iload hx hb dX4_read_38 (lv_at hl 0 rfl) ?_
          refine lv_bipush (v := 15) hx hb dX4_read_40 (by decide) ?_
          refine lv_iand hx hb dX4_read_42 ?_
          refine lv_iconst (v := 1) hx hb dX4_read_43 (by decide) ?_
          refine lv_isub hx hb dX4_read_44 ?_
          refine lv_aload_n hx hb dX4_read_45 rfl (lv_at hl 3 rfl) ?_
          obtain ⟨h11, hF⟩ := g_if hF
          obtain ⟨v13, g12, h10, hF⟩ := g_bind2 hF
          refine g_calli (va_runV (As := [.int (((x1 >>> ((((4 : Int32)) * x3) &&& 31)) &&& ((15 : Int32))) - ((1 : Int32))), .ref a2]) (rest := []) ⟨hx, hb, hml, hown, hts⟩ (k4_append l D base g a0 (((x1 >>> ((((4 : Int32)) * x3) &&& 31)) &&& ((15 : Int32))) - ((1 : Int32))) a2 v13 g12 h10) (cwV 2 hts gX4_read_X4_append rfl rfl rfl (by decide +kernel) ⟨Nat.le_of_ble_eq_true rfl, Nat.le_of_ble_eq_true rfl⟩) (gC.preV hE hP hS 4 rfl (by decide) h11 [.int (((x1 >>> ((((4 : Int32)) * x3) &&& 31)) &&& ((15 : Int32))) - ((1 : Int32))), .ref a2]) rfl rfl hl.1 rfl (lv_room (Nat.le_of_ble_eq_true rfl)) dX4_read_46 ⟨(Nat.le_of_ble_eq_true rfl), (Nat.le_of_ble_eq_true rfl)⟩) hS (fun H locs hP hS => ?_)
          refine lv_if_ne (tgt := 54) hx hb dX4_read_49 (by decide) (fun c14 => ?_) (fun c14 => ?_)
          · have hF := g_f c14 hF
            exact HB54 _ _ _ _ _ _ _ _ hF hP hS (lv_sub hl [1, 2, 3, 4] rfl)
          · have hF := g_t c14 hF
            refine lv_iconst (v := 0) hx hb dX4_read_52 (by decide) ?_
            exact g_retZ hx hb hr (Or.inl rfl) hlocks hF hP hS (Nat.le_of_ble_eq_true rfl) (Nat.le_of_ble_eq_true rfl) dX4_read_53
  unfold f4_read at hF
  refine lv_aload_n hx hb dX4_read_0 rfl (lv_at hl 0 rfl) ?_
  refine lv_iconst (v := 0) hx hb dX4_read_1 (by decide) ?_
  obtain ⟨h1, hF⟩ := g_if hF
  refine g_puti hx hb hts hiX4 tyX4 tyX4_ok nmX4 hown hK hP hS 4 rfl (by decide) h1 0 (by decide) (hts (.fieldLink RX4 21 "CourierBees$Route" "length" "I") (by decide +kernel)) (fun _ h9 => h9) (Or.inl rfl) (Or.inl rfl) rfl rfl dX4_read_2 (fun H locs hP hS => ?_)
  refine lv_iload_n hx hb dX4_read_5 rfl (lv_at hl 1 rfl) ?_
  refine lv_iconst (v := 1) hx hb dX4_read_6 (by decide) ?_
  refine lv_icmp_lt (tgt := 16) hx hb dX4_read_7 (by decide) (fun c2 => ?_) (fun c2 => ?_)
  · have hF := g_t c2 hF
    refine lv_iconst (v := 0) hx hb dX4_read_16 (by decide) ?_
    exact g_retZ hx hb hr (Or.inl rfl) hlocks hF hP hS (Nat.le_of_ble_eq_true rfl) (Nat.le_of_ble_eq_true rfl) dX4_read_17
  · have hF := g_f c2 hF
    refine lv_iload_n hx hb dX4_read_10 rfl (lv_at hl 1 rfl) ?_
    refine lv_ldc (v := 268435456) hx hb hown (hts (.constant RX4 25 268435456) (by decide +kernel)) dX4_read_11 ?_
    refine lv_icmp_lt (tgt := 18) hx hb dX4_read_13 (by decide) (fun c3 => ?_) (fun c3 => ?_)
    · have hF := g_t c3 hF
      refine lv_bipush (v := 6) hx hb dX4_read_18 (by decide) ?_
      refine lv_istore_n (lv' := [(3, .int ((6 : Int32))), (0, .ref a0), (1, .int x1), (2, .ref a2)]) hx hb dX4_read_20 rfl hl (by decide) rfl (fun ls hl => ?_)
      exact HL21 300 _ _ _ _ _ _ _ _ hF hP hS (lv_sub hl [1, 2, 3, 0] rfl)
    · have hF := g_f c3 hF
      refine lv_iconst (v := 0) hx hb dX4_read_16 (by decide) ?_
      exact g_retZ hx hb hr (Or.inl rfl) hlocks hF hP hS (Nat.le_of_ble_eq_true rfl) (Nat.le_of_ble_eq_true rfl) dX4_read_17
end
section
set_option maxHeartbeats 4000000 in
set_option maxRecDepth 100000 in
theorem k0_init (l : Launch) (D : va_G) (base : Nat) (g : g_H) (a0 : Nat) (x1 : Int32) (gz : g_H) (hF : f0_init g a0 x1 = some gz) : Met l yX0_init wsX0_init ({ frames := 2, cells := 4, slots := 32, locals := 42 } : Room) (va_Pc [.ref a0, .int x1] (gC base D g)) (gQv base D gz) 4 32 (gA base) := by
  refine g_met (cc := cX0_init) (maxL := 2) (ret := none) (lst := [(0, .ref a0), (1, .int x1)]) (by decide) rfl (Nat.le_of_ble_eq_true rfl) rfl ?_
  intro p e s m args below meth c ls hx hb hr hml hown hlocks hname hts hE hP hl
  have hown : s.vm.findClass RX0 = some m.cls := hown
  have hK := hE.1
  have hov := hE.2.2.2.2.2.2.2.1
  have hbz := hE.2.2.2.2.2.2.2.2.2.2.2.2
  have hS : va_S (gA base) s.heap s.heap [] := va_S.rf
  have hiX0 : ∀ w ∈ wsX00, w ∈ wsX0_init := by decide +kernel
  have hiX4 : ∀ w ∈ wsX40, w ∈ wsX0_init := by decide +kernel
  unfold f0_init at hF
  refine lv_aload_n hx hb dX0_init_0 rfl (lv_at hl 0 rfl) ?_
  refine W.objInit hx hb hown (hts (.methodLink RX0 3 objectInit) (by decide +kernel)) (hts (.instanceMethod objectInit) (by decide +kernel)) (hts (.code objectInit ⟨#[0xb1]⟩ 1 none) (by decide +kernel)) rfl (by rw [hml]; exact hl.1) rfl dX0_init_1 (Nat.le_of_ble_eq_true rfl) (Nat.le_of_ble_eq_true rfl) ?_
  refine W.eq (g2 := F0 m 4 ls []) rfl ?_
  refine lv_aload_n hx hb dX0_init_4 rfl (lv_at hl 0 rfl) ?_
  refine lv_iload_n hx hb dX0_init_5 rfl (lv_at hl 1 rfl) ?_
  obtain ⟨h1, hF⟩ := g_if hF
  refine g_puti hx hb hts hiX0 tyX0 tyX0_ok nmX0 hown hK hP hS 0 rfl (by decide) h1 0 (by decide) (hts (.fieldLink RX0 9 "CourierBees$Bee" "number" "I") (by decide +kernel)) (fun _ h9 => h9) (Or.inr ⟨rfl, hname, rfl⟩) (Or.inl rfl) rfl rfl dX0_init_6 (fun H locs hP hS => ?_)
  refine lv_aload_n hx hb dX0_init_9 rfl (lv_at hl 0 rfl) ?_
  obtain ⟨q2, g3, e4, e5, h6, hF⟩ := g_nw hF
  refine g_new hx hb hts hiX4 tyX4 tyX4_ok hown (hts (.classLink RX0 15 RX4) (by decide +kernel)) (hts (.instantiable RX4 4) (by decide +kernel)) (hts (.initialized RX4) (by decide +kernel)) hK hP hS hbz 4 rfl (by decide) dfX4 (Nat.le_of_ble_eq_true rfl) (Nat.le_of_ble_eq_true rfl) dX0_init_10 (fun H hP hS => ?_)
  rw [e5] at hP
  rw [e4]
  refine lv_dup hx hb dX0_init_13 rfl ?_
  obtain ⟨g8, h7, hF⟩ := g_bind hF
  refine g_callv (va_runI (As := []) (rest := [.ref q2, .ref a0]) ⟨hx, hb, hml, hown, hts⟩ (k4_init l D base g3 q2 g8 h7) (cwI 0 hts gX0_init_X4_init rfl rfl rfl (hts (.initialized RX4) (by decide +kernel)) (hts (.methodLink RX0 17 yX4_init) (by decide +kernel)) (hts (.instanceMethod yX4_init) (by decide +kernel)) rfl (by decide +kernel) ⟨Nat.le_of_ble_eq_true rfl, Nat.le_of_ble_eq_true rfl⟩) (gC.preS hE hP hS (.ref q2 :: [])) rfl rfl hl.1 rfl (lv_room (Nat.le_of_ble_eq_true rfl)) dX0_init_14 ⟨(Nat.le_of_ble_eq_true rfl), (Nat.le_of_ble_eq_true rfl)⟩) hS (fun H locs hP hS => ?_)
  obtain ⟨h10, hF⟩ := g_if hF
  refine g_putr hx hb hts hiX0 tyX0 tyX0_ok nmX0 hown hK hP hS 0 rfl (by decide) h10 1 (by decide) (hts (.fieldLink RX0 18 "CourierBees$Bee" "route" "LCourierBees$Route;") (by decide +kernel)) (fun _ h9 => h9) (Or.inl rfl) (by decide) rfl rfl dX0_init_17 (fun H locs hP hS => ?_)
  exact g_retV hx hb hr hlocks hF hP hS (Nat.le_of_ble_eq_true rfl) (Nat.le_of_ble_eq_true rfl) dX0_init_20
set_option maxHeartbeats 4000000 in
set_option maxRecDepth 100000 in
theorem k0_follow (l : Launch) (D : va_G) (base : Nat) (g : g_H) (a0 : Nat) (a1 : Nat) (x2 : Int32) (gz : g_H) (hF : f0_follow g a0 a1 x2 = some gz) : Met l yX0_follow wsX0_follow ({ frames := 2, cells := 0, slots := 0, locals := 51 } : Room) (va_Pc [.ref a0, .ref a1, .int x2] (gC base D g)) (gQv base D gz) 0 0 (gA base) := by
  refine g_met (cc := cX0_follow) (maxL := 3) (ret := none) (lst := [(0, .ref a0), (1, .ref a1), (2, .int x2)]) (by decide) rfl (Nat.le_of_ble_eq_true rfl) rfl ?_
  intro p e s m args below meth c ls hx hb hr hml hown hlocks hname hts hE hP hl
  have hown : s.vm.findClass RX0 = some m.cls := hown
  have hK := hE.1
  have hov := hE.2.2.2.2.2.2.2.1
  have hbz := hE.2.2.2.2.2.2.2.2.2.2.2.2
  have hS : va_S (gA base) s.heap s.heap [] := va_S.rf
  have hiX0 : ∀ w ∈ wsX00, w ∈ wsX0_follow := by decide +kernel
  unfold f0_follow at hF
  refine lv_aload_n hx hb dX0_follow_0 rfl (lv_at hl 0 rfl) ?_
  obtain ⟨h1, hF⟩ := g_if hF
  obtain ⟨q2, hq3, hF⟩ := g_bind hF
  refine g_get hx hb hts hiX0 hown hK hP 0 rfl (by decide) h1 1 (by decide) (hts (.fieldLink RX0 18 "CourierBees$Bee" "route" "LCourierBees$Route;") (by decide +kernel)) (fun _ h9 => h9) ((gFv_r (by decide)).trans (congrArg va_rf hq3)) dX0_follow_1 ?_
  refine lv_aload_n hx hb dX0_follow_4 rfl (lv_at hl 1 rfl) ?_
  obtain ⟨h5, hF⟩ := g_if hF
  obtain ⟨g6, h4, hF⟩ := g_bind hF
  refine g_callv (va_runV (As := [.ref a1]) (rest := []) ⟨hx, hb, hml, hown, hts⟩ (k4_copyFrom l D base g q2 a1 g6 h4) (cwV 1 hts gX0_follow_X4_copyFrom rfl rfl rfl (by decide +kernel) ⟨Nat.le_of_ble_eq_true rfl, Nat.le_of_ble_eq_true rfl⟩) (gC.preV hE hP hS 4 rfl (by decide) h5 [.ref a1]) rfl rfl hl.1 rfl (lv_room (Nat.le_of_ble_eq_true rfl)) dX0_follow_5 ⟨(Nat.le_of_ble_eq_true rfl), (Nat.le_of_ble_eq_true rfl)⟩) hS (fun H locs hP hS => ?_)
  refine lv_aload_n hx hb dX0_follow_8 rfl (lv_at hl 0 rfl) ?_
  refine lv_iload_n hx hb dX0_follow_9 rfl (lv_at hl 2 rfl) ?_
  obtain ⟨h8, hF⟩ := g_if hF
  refine g_puti hx hb hts hiX0 tyX0 tyX0_ok nmX0 hown hK hP hS 0 rfl (by decide) h8 2 (by decide) (hts (.fieldLink RX0 49 "CourierBees$Bee" "place" "I") (by decide +kernel)) (fun _ h9 => h9) (Or.inl rfl) (Or.inl rfl) rfl rfl dX0_follow_10 (fun H locs hP hS => ?_)
  refine lv_aload_n hx hb dX0_follow_13 rfl (lv_at hl 0 rfl) ?_
  refine lv_iconst (v := 1) hx hb dX0_follow_14 (by decide) ?_
  refine g_puti hx hb hts hiX0 tyX0 tyX0_ok nmX0 hown hK hP hS 0 rfl (by decide) h8 9 (by decide) (hts (.fieldLink RX0 52 "CourierBees$Bee" "onward" "Z") (by decide +kernel)) (fun _ h9 => h9) (Or.inl rfl) (Or.inr rfl) (g_bz (Or.inr rfl)).1 (g_bz (Or.inr rfl)).2 dX0_follow_15 (fun H locs hP hS => ?_)
  exact g_retV hx hb hr hlocks hF hP hS (Nat.le_of_ble_eq_true rfl) (Nat.le_of_ble_eq_true rfl) dX0_follow_18
set_option maxHeartbeats 4000000 in
set_option maxRecDepth 100000 in
theorem k0_hatch (l : Launch) (D : va_G) (base : Nat) (g : g_H) (a0 : Nat) (a1 : Nat) (gz : g_H) (hF : f0_hatch g a0 a1 = some gz) : Met l yX0_hatch wsX0_hatch ({ frames := 3, cells := 0, slots := 0, locals := 73 } : Room) (va_Pc [.ref a0, .ref a1] (gC base D g)) (gQv base D gz) 0 0 (gA base) := by
  refine g_met (cc := cX0_hatch) (maxL := 2) (ret := none) (lst := [(0, .ref a0), (1, .ref a1)]) (by decide) rfl (Nat.le_of_ble_eq_true rfl) rfl ?_
  intro p e s m args below meth c ls hx hb hr hml hown hlocks hname hts hE hP hl
  have hown : s.vm.findClass RX0 = some m.cls := hown
  have hK := hE.1
  have hov := hE.2.2.2.2.2.2.2.1
  have hbz := hE.2.2.2.2.2.2.2.2.2.2.2.2
  have hS : va_S (gA base) s.heap s.heap [] := va_S.rf
  have hiX0 : ∀ w ∈ wsX00, w ∈ wsX0_hatch := by decide +kernel
  unfold f0_hatch at hF
  refine lv_aload_n hx hb dX0_hatch_0 rfl (lv_at hl 0 rfl) ?_
  refine lv_iconst (v := 0) hx hb dX0_hatch_1 (by decide) ?_
  obtain ⟨h1, hF⟩ := g_if hF
  refine g_puti hx hb hts hiX0 tyX0 tyX0_ok nmX0 hown hK hP hS 0 rfl (by decide) h1 3 (by decide) (hts (.fieldLink RX0 22 "CourierBees$Bee" "left" "I") (by decide +kernel)) (fun _ h9 => h9) (Or.inl rfl) (Or.inl rfl) rfl rfl dX0_hatch_2 (fun H locs hP hS => ?_)
  refine lv_aload_n hx hb dX0_hatch_5 rfl (lv_at hl 0 rfl) ?_
  refine lv_bipush (v := 30) hx hb dX0_hatch_6 (by decide) ?_
  refine g_puti hx hb hts hiX0 tyX0 tyX0_ok nmX0 hown hK hP hS 0 rfl (by decide) h1 4 (by decide) (hts (.fieldLink RX0 25 "CourierBees$Bee" "strength" "I") (by decide +kernel)) (fun _ h9 => h9) (Or.inl rfl) (Or.inl rfl) rfl rfl dX0_hatch_8 (fun H locs hP hS => ?_)
  refine lv_aload_n hx hb dX0_hatch_11 rfl (lv_at hl 0 rfl) ?_
  refine lv_bipush (v := 10) hx hb dX0_hatch_12 (by decide) ?_
  refine g_puti hx hb hts hiX0 tyX0 tyX0_ok nmX0 hown hK hP hS 0 rfl (by decide) h1 5 (by decide) (hts (.fieldLink RX0 28 "CourierBees$Bee" "honour" "I") (by decide +kernel)) (fun _ h9 => h9) (Or.inl rfl) (Or.inl rfl) rfl rfl dX0_hatch_14 (fun H locs hP hS => ?_)
  refine lv_aload_n hx hb dX0_hatch_17 rfl (lv_at hl 0 rfl) ?_
  refine lv_iconst (v := 0) hx hb dX0_hatch_18 (by decide) ?_
  refine g_puti hx hb hts hiX0 tyX0 tyX0_ok nmX0 hown hK hP hS 0 rfl (by decide) h1 6 (by decide) (hts (.fieldLink RX0 31 "CourierBees$Bee" "carries" "I") (by decide +kernel)) (fun _ h9 => h9) (Or.inl rfl) (Or.inl rfl) rfl rfl dX0_hatch_19 (fun H locs hP hS => ?_)
  refine lv_aload_n hx hb dX0_hatch_22 rfl (lv_at hl 0 rfl) ?_
  refine lv_iconst (v := 0) hx hb dX0_hatch_23 (by decide) ?_
  refine g_puti hx hb hts hiX0 tyX0 tyX0_ok nmX0 hown hK hP hS 0 rfl (by decide) h1 7 (by decide) (hts (.fieldLink RX0 34 "CourierBees$Bee" "rests" "Z") (by decide +kernel)) (fun _ h9 => h9) (Or.inl rfl) (Or.inr rfl) (g_bz (Or.inl rfl)).1 (g_bz (Or.inl rfl)).2 dX0_hatch_24 (fun H locs hP hS => ?_)
  refine lv_aload_n hx hb dX0_hatch_27 rfl (lv_at hl 0 rfl) ?_
  refine lv_iconst (v := 0) hx hb dX0_hatch_28 (by decide) ?_
  refine g_puti hx hb hts hiX0 tyX0 tyX0_ok nmX0 hown hK hP hS 0 rfl (by decide) h1 8 (by decide) (hts (.fieldLink RX0 38 "CourierBees$Bee" "delivered" "I") (by decide +kernel)) (fun _ h9 => h9) (Or.inl rfl) (Or.inl rfl) rfl rfl dX0_hatch_29 (fun H locs hP hS => ?_)
  refine lv_aload_n hx hb dX0_hatch_32 rfl (lv_at hl 0 rfl) ?_
  refine lv_aload_n hx hb dX0_hatch_33 rfl (lv_at hl 1 rfl) ?_
  refine lv_iconst (v := 0) hx hb dX0_hatch_34 (by decide) ?_
  obtain ⟨g3, h2, hF⟩ := g_bind hF
  refine g_callv (va_runV (As := [.ref a1, .int ((0 : Int32))]) (rest := []) ⟨hx, hb, hml, hown, hts⟩ (k0_follow l D base (gPI (gPI (gPI (gPI (gPI (gPI g a0 3 ((0 : Int32))) a0 4 ((30 : Int32))) a0 5 ((10 : Int32))) a0 6 ((0 : Int32))) a0 7 ((0 : Int32))) a0 8 ((0 : Int32))) a0 a1 ((0 : Int32)) g3 h2) (cwV 2 hts gX0_hatch_X0_follow rfl rfl rfl (by decide +kernel) ⟨Nat.le_of_ble_eq_true rfl, Nat.le_of_ble_eq_true rfl⟩) (gC.preV hE hP hS 0 rfl (by decide) h1 [.ref a1, .int ((0 : Int32))]) rfl rfl hl.1 rfl (lv_room (Nat.le_of_ble_eq_true rfl)) dX0_hatch_35 ⟨(Nat.le_of_ble_eq_true rfl), (Nat.le_of_ble_eq_true rfl)⟩) hS (fun H locs hP hS => ?_)
  exact g_retV hx hb hr hlocks hF hP hS (Nat.le_of_ble_eq_true rfl) (Nat.le_of_ble_eq_true rfl) dX0_hatch_38
set_option maxHeartbeats 4000000 in
set_option maxRecDepth 100000 in
theorem k0_house (l : Launch) (D : va_G) (base : Nat) (g : g_H) (a0 : Nat) (rr : Int32) (gz : g_H) (hF : f0_house g a0 = some (rr, gz)) : Met l yX0_house wsX0_house ({ frames := 1, cells := 0, slots := 0, locals := 21 } : Room) (va_Pc [.ref a0] (gC base D g)) (gQi base D rr gz) 0 0 (gA base) := by
  refine g_met (cc := cX0_house) (maxL := 1) (ret := (some .int)) (lst := [(0, .ref a0)]) (by decide) rfl (Nat.le_of_ble_eq_true rfl) rfl ?_
  intro p e s m args below meth c ls hx hb hr hml hown hlocks hname hts hE hP hl
  have hown : s.vm.findClass RX0 = some m.cls := hown
  have hK := hE.1
  have hov := hE.2.2.2.2.2.2.2.1
  have hbz := hE.2.2.2.2.2.2.2.2.2.2.2.2
  have hS : va_S (gA base) s.heap s.heap [] := va_S.rf
  have hiX0 : ∀ w ∈ wsX00, w ∈ wsX0_house := by decide +kernel
  unfold f0_house at hF
  refine lv_aload_n hx hb dX0_house_0 rfl (lv_at hl 0 rfl) ?_
  obtain ⟨h1, hF⟩ := g_if hF
  obtain ⟨q2, hq3, hF⟩ := g_bind hF
  refine g_get hx hb hts hiX0 hown hK hP 0 rfl (by decide) h1 1 (by decide) (hts (.fieldLink RX0 18 "CourierBees$Bee" "route" "LCourierBees$Route;") (by decide +kernel)) (fun _ h9 => h9) ((gFv_r (by decide)).trans (congrArg va_rf hq3)) dX0_house_1 ?_
  refine lv_aload_n hx hb dX0_house_4 rfl (lv_at hl 0 rfl) ?_
  refine g_get hx hb hts hiX0 hown hK hP 0 rfl (by decide) h1 2 (by decide) (hts (.fieldLink RX0 49 "CourierBees$Bee" "place" "I") (by decide +kernel)) (fun _ h9 => h9) (gFv_i (Or.inl rfl)) dX0_house_5 ?_
  obtain ⟨h5, hF⟩ := g_if hF
  obtain ⟨v7, g6, h4, hF⟩ := g_bind2 hF
  refine g_calli (va_runV (As := [.int (gI g a0 2)]) (rest := []) ⟨hx, hb, hml, hown, hts⟩ (k4_houseAt l D base g q2 (gI g a0 2) v7 g6 h4) (cwV 1 hts gX0_house_X4_houseAt rfl rfl rfl (by decide +kernel) ⟨Nat.le_of_ble_eq_true rfl, Nat.le_of_ble_eq_true rfl⟩) (gC.preV hE hP hS 4 rfl (by decide) h5 [.int (gI g a0 2)]) rfl rfl hl.1 rfl (lv_room (Nat.le_of_ble_eq_true rfl)) dX0_house_8 ⟨(Nat.le_of_ble_eq_true rfl), (Nat.le_of_ble_eq_true rfl)⟩) hS (fun H locs hP hS => ?_)
  exact g_retI hx hb hr hlocks hF hP hS (Nat.le_of_ble_eq_true rfl) (Nat.le_of_ble_eq_true rfl) dX0_house_11
set_option maxHeartbeats 4000000 in
set_option maxRecDepth 100000 in
theorem k0_addHonour (l : Launch) (D : va_G) (base : Nat) (g : g_H) (a0 : Nat) (x1 : Int32) (gz : g_H) (hF : f0_addHonour g a0 x1 = some gz) : Met l yX0_addHonour wsX0_addHonour ({ frames := 1, cells := 0, slots := 0, locals := 24 } : Room) (va_Pc [.ref a0, .int x1] (gC base D g)) (gQv base D gz) 0 0 (gA base) := by
  refine g_met (cc := cX0_addHonour) (maxL := 2) (ret := none) (lst := [(0, .ref a0), (1, .int x1)]) (by decide) rfl (Nat.le_of_ble_eq_true rfl) rfl ?_
  intro p e s m args below meth c ls hx hb hr hml hown hlocks hname hts hE hP hl
  have hown : s.vm.findClass RX0 = some m.cls := hown
  have hK := hE.1
  have hov := hE.2.2.2.2.2.2.2.1
  have hbz := hE.2.2.2.2.2.2.2.2.2.2.2.2
  have hS : va_S (gA base) s.heap s.heap [] := va_S.rf
  have hiX0 : ∀ w ∈ wsX00, w ∈ wsX0_addHonour := by decide +kernel
  unfold f0_addHonour at hF
  refine lv_aload_n hx hb dX0_addHonour_0 rfl (lv_at hl 0 rfl) ?_
  refine lv_iconst (v := 0) hx hb dX0_addHonour_1 (by decide) ?_
  refine lv_bipush (v := 20) hx hb dX0_addHonour_2 (by decide) ?_
  refine lv_aload_n hx hb dX0_addHonour_4 rfl (lv_at hl 0 rfl) ?_
  obtain ⟨h1, hF⟩ := g_if hF
  refine g_get hx hb hts hiX0 hown hK hP 0 rfl (by decide) h1 5 (by decide) (hts (.fieldLink RX0 28 "CourierBees$Bee" "honour" "I") (by decide +kernel)) (fun _ h9 => h9) (gFv_i (Or.inl rfl)) dX0_addHonour_5 ?_
  refine lv_iload_n hx hb dX0_addHonour_8 rfl (lv_at hl 1 rfl) ?_
  refine lv_iadd hx hb dX0_addHonour_9 ?_
  refine va_mmin hx hb (hml.trans hl.1.symm) hown (hts (.methodLink RX0 59 Lib.Math.min.name) (by decide +kernel)) (hts (.static Lib.Math.min.name) (by decide +kernel)) (hts (.initialized "java/lang/Math") (by decide +kernel)) (hts (.code Lib.Math.min.name Lib.Math.min.code 2 (some .int)) (by decide +kernel)) (Nat.le_of_ble_eq_true rfl) (Nat.le_of_ble_eq_true rfl) (Nat.le_of_ble_eq_true rfl) (Nat.le_of_ble_eq_true rfl) dX0_addHonour_10 ?_
  refine va_mmax hx hb (hml.trans hl.1.symm) hown (hts (.methodLink RX0 65 Lib.Math.max.name) (by decide +kernel)) (hts (.static Lib.Math.max.name) (by decide +kernel)) (hts (.initialized "java/lang/Math") (by decide +kernel)) (hts (.code Lib.Math.max.name Lib.Math.max.code 2 (some .int)) (by decide +kernel)) (Nat.le_of_ble_eq_true rfl) (Nat.le_of_ble_eq_true rfl) (Nat.le_of_ble_eq_true rfl) (Nat.le_of_ble_eq_true rfl) dX0_addHonour_13 ?_
  obtain ⟨y2, e3, hF⟩ := g_let hF
  rw [e3]
  refine g_puti hx hb hts hiX0 tyX0 tyX0_ok nmX0 hown hK hP hS 0 rfl (by decide) h1 5 (by decide) (hts (.fieldLink RX0 28 "CourierBees$Bee" "honour" "I") (by decide +kernel)) (fun _ h9 => h9) (Or.inl rfl) (Or.inl rfl) rfl rfl dX0_addHonour_16 (fun H locs hP hS => ?_)
  exact g_retV hx hb hr hlocks hF hP hS (Nat.le_of_ble_eq_true rfl) (Nat.le_of_ble_eq_true rfl) dX0_addHonour_19
set_option maxHeartbeats 4000000 in
set_option maxRecDepth 100000 in
theorem k0_addStrength (l : Launch) (D : va_G) (base : Nat) (g : g_H) (a0 : Nat) (x1 : Int32) (gz : g_H) (hF : f0_addStrength g a0 x1 = some gz) : Met l yX0_addStrength wsX0_addStrength ({ frames := 1, cells := 0, slots := 0, locals := 24 } : Room) (va_Pc [.ref a0, .int x1] (gC base D g)) (gQv base D gz) 0 0 (gA base) := by
  refine g_met (cc := cX0_addStrength) (maxL := 2) (ret := none) (lst := [(0, .ref a0), (1, .int x1)]) (by decide) rfl (Nat.le_of_ble_eq_true rfl) rfl ?_
  intro p e s m args below meth c ls hx hb hr hml hown hlocks hname hts hE hP hl
  have hown : s.vm.findClass RX0 = some m.cls := hown
  have hK := hE.1
  have hov := hE.2.2.2.2.2.2.2.1
  have hbz := hE.2.2.2.2.2.2.2.2.2.2.2.2
  have hS : va_S (gA base) s.heap s.heap [] := va_S.rf
  have hiX0 : ∀ w ∈ wsX00, w ∈ wsX0_addStrength := by decide +kernel
  unfold f0_addStrength at hF
  refine lv_aload_n hx hb dX0_addStrength_0 rfl (lv_at hl 0 rfl) ?_
  refine lv_bipush (v := 30) hx hb dX0_addStrength_1 (by decide) ?_
  refine lv_aload_n hx hb dX0_addStrength_3 rfl (lv_at hl 0 rfl) ?_
  obtain ⟨h1, hF⟩ := g_if hF
  refine g_get hx hb hts hiX0 hown hK hP 0 rfl (by decide) h1 4 (by decide) (hts (.fieldLink RX0 25 "CourierBees$Bee" "strength" "I") (by decide +kernel)) (fun _ h9 => h9) (gFv_i (Or.inl rfl)) dX0_addStrength_4 ?_
  refine lv_iload_n hx hb dX0_addStrength_7 rfl (lv_at hl 1 rfl) ?_
  refine lv_iadd hx hb dX0_addStrength_8 ?_
  refine va_mmin hx hb (hml.trans hl.1.symm) hown (hts (.methodLink RX0 59 Lib.Math.min.name) (by decide +kernel)) (hts (.static Lib.Math.min.name) (by decide +kernel)) (hts (.initialized "java/lang/Math") (by decide +kernel)) (hts (.code Lib.Math.min.name Lib.Math.min.code 2 (some .int)) (by decide +kernel)) (Nat.le_of_ble_eq_true rfl) (Nat.le_of_ble_eq_true rfl) (Nat.le_of_ble_eq_true rfl) (Nat.le_of_ble_eq_true rfl) dX0_addStrength_9 ?_
  obtain ⟨y2, e3, hF⟩ := g_let hF
  rw [e3]
  refine g_puti hx hb hts hiX0 tyX0 tyX0_ok nmX0 hown hK hP hS 0 rfl (by decide) h1 4 (by decide) (hts (.fieldLink RX0 25 "CourierBees$Bee" "strength" "I") (by decide +kernel)) (fun _ h9 => h9) (Or.inl rfl) (Or.inl rfl) rfl rfl dX0_addStrength_12 (fun H locs hP hS => ?_)
  exact g_retV hx hb hr hlocks hF hP hS (Nat.le_of_ble_eq_true rfl) (Nat.le_of_ble_eq_true rfl) dX0_addStrength_15
set_option maxHeartbeats 4000000 in
set_option maxRecDepth 100000 in
theorem k0_take (l : Launch) (D : va_G) (base : Nat) (g : g_H) (a0 : Nat) (a1 : Nat) (gz : g_H) (hF : f0_take g a0 a1 = some gz) : Met l yX0_take wsX0_take ({ frames := 0, cells := 0, slots := 0, locals := 0 } : Room) (va_Pc [.ref a0, .ref a1] (gC base D g)) (gQv base D gz) 0 0 (gA base) := by
  refine g_met (cc := cX0_take) (maxL := 2) (ret := none) (lst := [(0, .ref a0), (1, .ref a1)]) (by decide) rfl (Nat.le_of_ble_eq_true rfl) rfl ?_
  intro p e s m args below meth c ls hx hb hr hml hown hlocks hname hts hE hP hl
  have hown : s.vm.findClass RX0 = some m.cls := hown
  have hK := hE.1
  have hov := hE.2.2.2.2.2.2.2.1
  have hbz := hE.2.2.2.2.2.2.2.2.2.2.2.2
  have hS : va_S (gA base) s.heap s.heap [] := va_S.rf
  have hiX0 : ∀ w ∈ wsX00, w ∈ wsX0_take := by decide +kernel
  have hiX3 : ∀ w ∈ wsX30, w ∈ wsX0_take := by decide +kernel
  unfold f0_take at hF
  refine lv_aload_n hx hb dX0_take_0 rfl (lv_at hl 1 rfl) ?_
  refine lv_iconst (v := (-1)) hx hb dX0_take_1 (by decide) ?_
  obtain ⟨h1, hF⟩ := g_if hF
  refine g_puti hx hb hts hiX3 tyX3 tyX3_ok nmX3 hown hK hP hS 3 rfl (by decide) h1 1 (by decide) (hts (.fieldLink RX0 68 "CourierBees$Letter" "lies" "I") (by decide +kernel)) (fun _ h9 => h9) (Or.inl rfl) (Or.inl rfl) rfl rfl dX0_take_2 (fun H locs hP hS => ?_)
  refine lv_aload_n hx hb dX0_take_5 rfl (lv_at hl 1 rfl) ?_
  refine lv_aload_n hx hb dX0_take_6 rfl (lv_at hl 0 rfl) ?_
  obtain ⟨h2, hF⟩ := g_if hF
  refine g_get hx hb hts hiX0 hown hK hP 0 rfl (by decide) h2 0 (by decide) (hts (.fieldLink RX0 9 "CourierBees$Bee" "number" "I") (by decide +kernel)) (fun _ h9 => h9) (gFv_i (Or.inl rfl)) dX0_take_7 ?_
  obtain ⟨y3, e4, hF⟩ := g_let hF
  rw [e4]
  refine g_puti hx hb hts hiX3 tyX3 tyX3_ok nmX3 hown hK hP hS 3 rfl (by decide) h1 2 (by decide) (hts (.fieldLink RX0 73 "CourierBees$Letter" "carrier" "I") (by decide +kernel)) (fun _ h9 => h9) (Or.inl rfl) (Or.inl rfl) rfl rfl dX0_take_10 (fun H locs hP hS => ?_)
  refine lv_aload_n hx hb dX0_take_13 rfl (lv_at hl 1 rfl) ?_
  refine lv_dup hx hb dX0_take_14 rfl ?_
  refine g_get hx hb hts hiX3 hown hK hP 3 rfl (by decide) h1 4 (by decide) (hts (.fieldLink RX0 76 "CourierBees$Letter" "taken" "I") (by decide +kernel)) (fun _ h9 => h9) (gFv_i (Or.inl rfl)) dX0_take_15 ?_
  refine lv_iconst (v := 1) hx hb dX0_take_18 (by decide) ?_
  refine lv_iadd hx hb dX0_take_19 ?_
  obtain ⟨y5, e6, hF⟩ := g_let hF
  rw [e6]
  refine g_puti hx hb hts hiX3 tyX3 tyX3_ok nmX3 hown hK hP hS 3 rfl (by decide) h1 4 (by decide) (hts (.fieldLink RX0 76 "CourierBees$Letter" "taken" "I") (by decide +kernel)) (fun _ h9 => h9) (Or.inl rfl) (Or.inl rfl) rfl rfl dX0_take_20 (fun H locs hP hS => ?_)
  refine lv_aload_n hx hb dX0_take_23 rfl (lv_at hl 0 rfl) ?_
  refine lv_dup hx hb dX0_take_24 rfl ?_
  refine g_get hx hb hts hiX0 hown hK hP 0 rfl (by decide) h2 6 (by decide) (hts (.fieldLink RX0 31 "CourierBees$Bee" "carries" "I") (by decide +kernel)) (fun _ h9 => h9) (gFv_i (Or.inl rfl)) dX0_take_25 ?_
  refine lv_iconst (v := 1) hx hb dX0_take_28 (by decide) ?_
  refine lv_iadd hx hb dX0_take_29 ?_
  obtain ⟨y7, e8, hF⟩ := g_let hF
  rw [e8]
  refine g_puti hx hb hts hiX0 tyX0 tyX0_ok nmX0 hown hK hP hS 0 rfl (by decide) h2 6 (by decide) (hts (.fieldLink RX0 31 "CourierBees$Bee" "carries" "I") (by decide +kernel)) (fun _ h9 => h9) (Or.inl rfl) (Or.inl rfl) rfl rfl dX0_take_30 (fun H locs hP hS => ?_)
  exact g_retV hx hb hr hlocks hF hP hS (Nat.le_of_ble_eq_true rfl) (Nat.le_of_ble_eq_true rfl) dX0_take_33
set_option maxHeartbeats 4000000 in
set_option maxRecDepth 100000 in
theorem k0_layDown (l : Launch) (D : va_G) (base : Nat) (g : g_H) (a0 : Nat) (a1 : Nat) (gz : g_H) (hF : f0_layDown g a0 a1 = some gz) : Met l yX0_layDown wsX0_layDown ({ frames := 2, cells := 0, slots := 0, locals := 41 } : Room) (va_Pc [.ref a0, .ref a1] (gC base D g)) (gQv base D gz) 0 0 (gA base) := by
  refine g_met (cc := cX0_layDown) (maxL := 2) (ret := none) (lst := [(0, .ref a0), (1, .ref a1)]) (by decide) rfl (Nat.le_of_ble_eq_true rfl) rfl ?_
  intro p e s m args below meth c ls hx hb hr hml hown hlocks hname hts hE hP hl
  have hown : s.vm.findClass RX0 = some m.cls := hown
  have hK := hE.1
  have hov := hE.2.2.2.2.2.2.2.1
  have hbz := hE.2.2.2.2.2.2.2.2.2.2.2.2
  have hS : va_S (gA base) s.heap s.heap [] := va_S.rf
  have hiX0 : ∀ w ∈ wsX00, w ∈ wsX0_layDown := by decide +kernel
  have hiX3 : ∀ w ∈ wsX30, w ∈ wsX0_layDown := by decide +kernel
  unfold f0_layDown at hF
  refine lv_aload_n hx hb dX0_layDown_0 rfl (lv_at hl 1 rfl) ?_
  refine lv_iconst (v := (-1)) hx hb dX0_layDown_1 (by decide) ?_
  obtain ⟨h1, hF⟩ := g_if hF
  refine g_puti hx hb hts hiX3 tyX3 tyX3_ok nmX3 hown hK hP hS 3 rfl (by decide) h1 2 (by decide) (hts (.fieldLink RX0 73 "CourierBees$Letter" "carrier" "I") (by decide +kernel)) (fun _ h9 => h9) (Or.inl rfl) (Or.inl rfl) rfl rfl dX0_layDown_2 (fun H locs hP hS => ?_)
  refine lv_aload_n hx hb dX0_layDown_5 rfl (lv_at hl 1 rfl) ?_
  refine lv_aload_n hx hb dX0_layDown_6 rfl (lv_at hl 0 rfl) ?_
  obtain ⟨h3, hF⟩ := g_if hF
  obtain ⟨v5, g4, h2, hF⟩ := g_bind2 hF
  refine g_calli (va_runV (As := []) (rest := [.ref a1]) ⟨hx, hb, hml, hown, hts⟩ (k0_house l D base (gPI g a1 2 ((-1 : Int32))) a0 v5 g4 h2) (cwV 0 hts gX0_layDown_X0_house rfl rfl rfl (by decide +kernel) ⟨Nat.le_of_ble_eq_true rfl, Nat.le_of_ble_eq_true rfl⟩) (gC.preV hE hP hS 0 rfl (by decide) h3 []) rfl rfl hl.1 rfl (lv_room (Nat.le_of_ble_eq_true rfl)) dX0_layDown_7 ⟨(Nat.le_of_ble_eq_true rfl), (Nat.le_of_ble_eq_true rfl)⟩) hS (fun H locs hP hS => ?_)
  obtain ⟨h6, hF⟩ := g_if hF
  refine g_puti hx hb hts hiX3 tyX3 tyX3_ok nmX3 hown hK hP hS 3 rfl (by decide) h6 1 (by decide) (hts (.fieldLink RX0 68 "CourierBees$Letter" "lies" "I") (by decide +kernel)) (fun _ h9 => h9) (Or.inl rfl) (Or.inl rfl) rfl rfl dX0_layDown_10 (fun H locs hP hS => ?_)
  refine lv_aload_n hx hb dX0_layDown_13 rfl (lv_at hl 0 rfl) ?_
  refine lv_dup hx hb dX0_layDown_14 rfl ?_
  obtain ⟨h7, hF⟩ := g_if hF
  refine g_get hx hb hts hiX0 hown hK hP 0 rfl (by decide) h7 6 (by decide) (hts (.fieldLink RX0 31 "CourierBees$Bee" "carries" "I") (by decide +kernel)) (fun _ h9 => h9) (gFv_i (Or.inl rfl)) dX0_layDown_15 ?_
  refine lv_iconst (v := 1) hx hb dX0_layDown_18 (by decide) ?_
  refine lv_isub hx hb dX0_layDown_19 ?_
  obtain ⟨y8, e9, hF⟩ := g_let hF
  rw [e9]
  refine g_puti hx hb hts hiX0 tyX0 tyX0_ok nmX0 hown hK hP hS 0 rfl (by decide) h7 6 (by decide) (hts (.fieldLink RX0 31 "CourierBees$Bee" "carries" "I") (by decide +kernel)) (fun _ h9 => h9) (Or.inl rfl) (Or.inl rfl) rfl rfl dX0_layDown_20 (fun H locs hP hS => ?_)
  exact g_retV hx hb hr hlocks hF hP hS (Nat.le_of_ble_eq_true rfl) (Nat.le_of_ble_eq_true rfl) dX0_layDown_23
set_option maxHeartbeats 4000000 in
set_option maxRecDepth 100000 in
theorem k0_deliver (l : Launch) (D : va_G) (base : Nat) (g : g_H) (a0 : Nat) (a1 : Nat) (x2 : Int32) (gz : g_H) (hF : f0_deliver g a0 a1 x2 = some gz) : Met l yX0_deliver wsX0_deliver ({ frames := 2, cells := 0, slots := 0, locals := 45 } : Room) (va_Pc [.ref a0, .ref a1, .int x2] (gC base D g)) (gQv base D gz) 0 0 (gA base) := by
  refine g_met (cc := cX0_deliver) (maxL := 3) (ret := none) (lst := [(0, .ref a0), (1, .ref a1), (2, .int x2)]) (by decide) rfl (Nat.le_of_ble_eq_true rfl) rfl ?_
  intro p e s m args below meth c ls hx hb hr hml hown hlocks hname hts hE hP hl
  have hown : s.vm.findClass RX0 = some m.cls := hown
  have hK := hE.1
  have hov := hE.2.2.2.2.2.2.2.1
  have hbz := hE.2.2.2.2.2.2.2.2.2.2.2.2
  have hS : va_S (gA base) s.heap s.heap [] := va_S.rf
  have hiX0 : ∀ w ∈ wsX00, w ∈ wsX0_deliver := by decide +kernel
  have hiX3 : ∀ w ∈ wsX30, w ∈ wsX0_deliver := by decide +kernel
  unfold f0_deliver at hF
  refine lv_aload_n hx hb dX0_deliver_0 rfl (lv_at hl 1 rfl) ?_
  refine lv_iconst (v := (-1)) hx hb dX0_deliver_1 (by decide) ?_
  obtain ⟨h1, hF⟩ := g_if hF
  refine g_puti hx hb hts hiX3 tyX3 tyX3_ok nmX3 hown hK hP hS 3 rfl (by decide) h1 2 (by decide) (hts (.fieldLink RX0 73 "CourierBees$Letter" "carrier" "I") (by decide +kernel)) (fun _ h9 => h9) (Or.inl rfl) (Or.inl rfl) rfl rfl dX0_deliver_2 (fun H locs hP hS => ?_)
  refine lv_aload_n hx hb dX0_deliver_5 rfl (lv_at hl 1 rfl) ?_
  refine lv_iload_n hx hb dX0_deliver_6 rfl (lv_at hl 2 rfl) ?_
  refine g_puti hx hb hts hiX3 tyX3 tyX3_ok nmX3 hown hK hP hS 3 rfl (by decide) h1 3 (by decide) (hts (.fieldLink RX0 83 "CourierBees$Letter" "arrivedIn" "I") (by decide +kernel)) (fun _ h9 => h9) (Or.inl rfl) (Or.inl rfl) rfl rfl dX0_deliver_7 (fun H locs hP hS => ?_)
  refine lv_aload_n hx hb dX0_deliver_10 rfl (lv_at hl 0 rfl) ?_
  refine lv_dup hx hb dX0_deliver_11 rfl ?_
  obtain ⟨h2, hF⟩ := g_if hF
  refine g_get hx hb hts hiX0 hown hK hP 0 rfl (by decide) h2 6 (by decide) (hts (.fieldLink RX0 31 "CourierBees$Bee" "carries" "I") (by decide +kernel)) (fun _ h9 => h9) (gFv_i (Or.inl rfl)) dX0_deliver_12 ?_
  refine lv_iconst (v := 1) hx hb dX0_deliver_15 (by decide) ?_
  refine lv_isub hx hb dX0_deliver_16 ?_
  obtain ⟨y3, e4, hF⟩ := g_let hF
  rw [e4]
  refine g_puti hx hb hts hiX0 tyX0 tyX0_ok nmX0 hown hK hP hS 0 rfl (by decide) h2 6 (by decide) (hts (.fieldLink RX0 31 "CourierBees$Bee" "carries" "I") (by decide +kernel)) (fun _ h9 => h9) (Or.inl rfl) (Or.inl rfl) rfl rfl dX0_deliver_17 (fun H locs hP hS => ?_)
  refine lv_aload_n hx hb dX0_deliver_20 rfl (lv_at hl 0 rfl) ?_
  refine lv_dup hx hb dX0_deliver_21 rfl ?_
  refine g_get hx hb hts hiX0 hown hK hP 0 rfl (by decide) h2 8 (by decide) (hts (.fieldLink RX0 38 "CourierBees$Bee" "delivered" "I") (by decide +kernel)) (fun _ h9 => h9) (gFv_i (Or.inl rfl)) dX0_deliver_22 ?_
  refine lv_iconst (v := 1) hx hb dX0_deliver_25 (by decide) ?_
  refine lv_iadd hx hb dX0_deliver_26 ?_
  obtain ⟨y5, e6, hF⟩ := g_let hF
  rw [e6]
  refine g_puti hx hb hts hiX0 tyX0 tyX0_ok nmX0 hown hK hP hS 0 rfl (by decide) h2 8 (by decide) (hts (.fieldLink RX0 38 "CourierBees$Bee" "delivered" "I") (by decide +kernel)) (fun _ h9 => h9) (Or.inl rfl) (Or.inl rfl) rfl rfl dX0_deliver_27 (fun H locs hP hS => ?_)
  refine lv_aload_n hx hb dX0_deliver_30 rfl (lv_at hl 0 rfl) ?_
  refine lv_iconst (v := 1) hx hb dX0_deliver_31 (by decide) ?_
  obtain ⟨g8, h7, hF⟩ := g_bind hF
  refine g_callv (va_runV (As := [.int ((1 : Int32))]) (rest := []) ⟨hx, hb, hml, hown, hts⟩ (k0_addHonour l D base (gPI (gPI (gPI (gPI g a1 2 ((-1 : Int32))) a1 3 x2) a0 6 y3) a0 8 y5) a0 ((1 : Int32)) g8 h7) (cwV 1 hts gX0_deliver_X0_addHonour rfl rfl rfl (by decide +kernel) ⟨Nat.le_of_ble_eq_true rfl, Nat.le_of_ble_eq_true rfl⟩) (gC.preV hE hP hS 0 rfl (by decide) h2 [.int ((1 : Int32))]) rfl rfl hl.1 rfl (lv_room (Nat.le_of_ble_eq_true rfl)) dX0_deliver_32 ⟨(Nat.le_of_ble_eq_true rfl), (Nat.le_of_ble_eq_true rfl)⟩) hS (fun H locs hP hS => ?_)
  exact g_retV hx hb hr hlocks hF hP hS (Nat.le_of_ble_eq_true rfl) (Nat.le_of_ble_eq_true rfl) dX0_deliver_35
set_option maxHeartbeats 4000000 in
set_option maxRecDepth 100000 in
theorem k0_restsNow (l : Launch) (D : va_G) (base : Nat) (g : g_H) (a0 : Nat) (x1 : Int32) (rr : Int32) (gz : g_H) (hF : f0_restsNow g a0 x1 = some (rr, gz)) : Met l yX0_restsNow wsX0_restsNow ({ frames := 2, cells := 0, slots := 0, locals := 45 } : Room) (va_Pc [.ref a0, .int x1] (gC base D g)) (gQi base D rr gz) 0 0 (gA base) := by
  refine g_met (cc := cX0_restsNow) (maxL := 2) (ret := (some .boolean)) (lst := [(0, .ref a0), (1, .int x1)]) (by decide) rfl (Nat.le_of_ble_eq_true rfl) rfl ?_
  intro p e s m args below meth c ls hx hb hr hml hown hlocks hname hts hE hP hl
  have hown : s.vm.findClass RX0 = some m.cls := hown
  have hK := hE.1
  have hov := hE.2.2.2.2.2.2.2.1
  have hbz := hE.2.2.2.2.2.2.2.2.2.2.2.2
  have hS : va_S (gA base) s.heap s.heap [] := va_S.rf
  have hiX0 : ∀ w ∈ wsX00, w ∈ wsX0_restsNow := by decide +kernel
  unfold f0_restsNow at hF
  refine lv_aload_n hx hb dX0_restsNow_0 rfl (lv_at hl 0 rfl) ?_
  obtain ⟨h1, hF⟩ := g_if hF
  refine g_get hx hb hts hiX0 hown hK hP 0 rfl (by decide) h1 7 (by decide) (hts (.fieldLink RX0 34 "CourierBees$Bee" "rests" "Z") (by decide +kernel)) (fun _ h9 => h9) (gFv_i (Or.inr rfl)) dX0_restsNow_1 ?_
  refine lv_if_eq (tgt := 32) hx hb dX0_restsNow_4 (by decide) (fun c2 => ?_) (fun c2 => ?_)
  · have hF := g_t c2 hF
    refine lv_aload_n hx hb dX0_restsNow_32 rfl (lv_at hl 0 rfl) ?_
    refine lv_iload_n hx hb dX0_restsNow_33 rfl (lv_at hl 1 rfl) ?_
    refine lv_if_eq (tgt := 50) hx hb dX0_restsNow_34 (by decide) (fun c3 => ?_) (fun c3 => ?_)
    · have hF := g_t c3 hF
      refine lv_iconst (v := 0) hx hb dX0_restsNow_50 (by decide) ?_
      refine g_puti hx hb hts hiX0 tyX0 tyX0_ok nmX0 hown hK hP hS 0 rfl (by decide) h1 7 (by decide) (hts (.fieldLink RX0 34 "CourierBees$Bee" "rests" "Z") (by decide +kernel)) (fun _ h9 => h9) (Or.inl rfl) (Or.inr rfl) (g_bz (Or.inl rfl)).1 (g_bz (Or.inl rfl)).2 dX0_restsNow_51 (fun H locs hP hS => ?_)
      refine lv_aload_n hx hb dX0_restsNow_54 rfl (lv_at hl 0 rfl) ?_
      refine g_get hx hb hts hiX0 hown hK hP 0 rfl (by decide) h1 7 (by decide) (hts (.fieldLink RX0 34 "CourierBees$Bee" "rests" "Z") (by decide +kernel)) (fun _ h9 => h9) (gFv_i (Or.inr rfl)) dX0_restsNow_55 ?_
      obtain ⟨h4, hF⟩ := g_if hF
      exact g_retZ hx hb hr h4 hlocks hF hP hS (Nat.le_of_ble_eq_true rfl) (Nat.le_of_ble_eq_true rfl) dX0_restsNow_58
    · have hF := g_f c3 hF
      refine lv_aload_n hx hb dX0_restsNow_37 rfl (lv_at hl 0 rfl) ?_
      refine g_get hx hb hts hiX0 hown hK hP 0 rfl (by decide) h1 4 (by decide) (hts (.fieldLink RX0 25 "CourierBees$Bee" "strength" "I") (by decide +kernel)) (fun _ h9 => h9) (gFv_i (Or.inl rfl)) dX0_restsNow_38 ?_
      refine lv_bipush (v := 10) hx hb dX0_restsNow_41 (by decide) ?_
      refine lv_icmp_ge (tgt := 50) hx hb dX0_restsNow_43 (by decide) (fun c5 => ?_) (fun c5 => ?_)
      · have hF := g_t c5 hF
        refine lv_iconst (v := 0) hx hb dX0_restsNow_50 (by decide) ?_
        refine g_puti hx hb hts hiX0 tyX0 tyX0_ok nmX0 hown hK hP hS 0 rfl (by decide) h1 7 (by decide) (hts (.fieldLink RX0 34 "CourierBees$Bee" "rests" "Z") (by decide +kernel)) (fun _ h9 => h9) (Or.inl rfl) (Or.inr rfl) (g_bz (Or.inl rfl)).1 (g_bz (Or.inl rfl)).2 dX0_restsNow_51 (fun H locs hP hS => ?_)
        refine lv_aload_n hx hb dX0_restsNow_54 rfl (lv_at hl 0 rfl) ?_
        refine g_get hx hb hts hiX0 hown hK hP 0 rfl (by decide) h1 7 (by decide) (hts (.fieldLink RX0 34 "CourierBees$Bee" "rests" "Z") (by decide +kernel)) (fun _ h9 => h9) (gFv_i (Or.inr rfl)) dX0_restsNow_55 ?_
        obtain ⟨h6, hF⟩ := g_if hF
        exact g_retZ hx hb hr h6 hlocks hF hP hS (Nat.le_of_ble_eq_true rfl) (Nat.le_of_ble_eq_true rfl) dX0_restsNow_58
      · have hF := g_f c5 hF
        refine lv_iconst (v := 1) hx hb dX0_restsNow_46 (by decide) ?_
        refine lv_goto (tgt := 51) hx hb dX0_restsNow_47 (by decide) ?_
        refine g_puti hx hb hts hiX0 tyX0 tyX0_ok nmX0 hown hK hP hS 0 rfl (by decide) h1 7 (by decide) (hts (.fieldLink RX0 34 "CourierBees$Bee" "rests" "Z") (by decide +kernel)) (fun _ h9 => h9) (Or.inl rfl) (Or.inr rfl) (g_bz (Or.inr rfl)).1 (g_bz (Or.inr rfl)).2 dX0_restsNow_51 (fun H locs hP hS => ?_)
        refine lv_aload_n hx hb dX0_restsNow_54 rfl (lv_at hl 0 rfl) ?_
        refine g_get hx hb hts hiX0 hown hK hP 0 rfl (by decide) h1 7 (by decide) (hts (.fieldLink RX0 34 "CourierBees$Bee" "rests" "Z") (by decide +kernel)) (fun _ h9 => h9) (gFv_i (Or.inr rfl)) dX0_restsNow_55 ?_
        obtain ⟨h7, hF⟩ := g_if hF
        exact g_retZ hx hb hr h7 hlocks hF hP hS (Nat.le_of_ble_eq_true rfl) (Nat.le_of_ble_eq_true rfl) dX0_restsNow_58
  · have hF := g_f c2 hF
    refine lv_aload_n hx hb dX0_restsNow_7 rfl (lv_at hl 0 rfl) ?_
    refine lv_iconst (v := 3) hx hb dX0_restsNow_8 (by decide) ?_
    obtain ⟨g9, h8, hF⟩ := g_bind hF
    refine g_callv (va_runV (As := [.int ((3 : Int32))]) (rest := []) ⟨hx, hb, hml, hown, hts⟩ (k0_addStrength l D base g a0 ((3 : Int32)) g9 h8) (cwV 1 hts gX0_restsNow_X0_addStrength rfl rfl rfl (by decide +kernel) ⟨Nat.le_of_ble_eq_true rfl, Nat.le_of_ble_eq_true rfl⟩) (gC.preV hE hP hS 0 rfl (by decide) h1 [.int ((3 : Int32))]) rfl rfl hl.1 rfl (lv_room (Nat.le_of_ble_eq_true rfl)) dX0_restsNow_9 ⟨(Nat.le_of_ble_eq_true rfl), (Nat.le_of_ble_eq_true rfl)⟩) hS (fun H locs hP hS => ?_)
    refine lv_aload_n hx hb dX0_restsNow_12 rfl (lv_at hl 0 rfl) ?_
    refine lv_aload_n hx hb dX0_restsNow_13 rfl (lv_at hl 0 rfl) ?_
    obtain ⟨h11, hF⟩ := g_if hF
    refine g_get hx hb hts hiX0 hown hK hP 0 rfl (by decide) h11 4 (by decide) (hts (.fieldLink RX0 25 "CourierBees$Bee" "strength" "I") (by decide +kernel)) (fun _ h9 => h9) (gFv_i (Or.inl rfl)) dX0_restsNow_14 ?_
    refine lv_bipush (v := 20) hx hb dX0_restsNow_17 (by decide) ?_
    refine lv_icmp_ge (tgt := 26) hx hb dX0_restsNow_19 (by decide) (fun c12 => ?_) (fun c12 => ?_)
    · have hF := g_t c12 hF
      refine lv_iconst (v := 0) hx hb dX0_restsNow_26 (by decide) ?_
      refine g_puti hx hb hts hiX0 tyX0 tyX0_ok nmX0 hown hK hP hS 0 rfl (by decide) h11 7 (by decide) (hts (.fieldLink RX0 34 "CourierBees$Bee" "rests" "Z") (by decide +kernel)) (fun _ h9 => h9) (Or.inl rfl) (Or.inr rfl) (g_bz (Or.inl rfl)).1 (g_bz (Or.inl rfl)).2 dX0_restsNow_27 (fun H locs hP hS => ?_)
      refine lv_iconst (v := 1) hx hb dX0_restsNow_30 (by decide) ?_
      exact g_retZ hx hb hr (Or.inr rfl) hlocks hF hP hS (Nat.le_of_ble_eq_true rfl) (Nat.le_of_ble_eq_true rfl) dX0_restsNow_31
    · have hF := g_f c12 hF
      refine lv_iconst (v := 1) hx hb dX0_restsNow_22 (by decide) ?_
      refine lv_goto (tgt := 27) hx hb dX0_restsNow_23 (by decide) ?_
      refine g_puti hx hb hts hiX0 tyX0 tyX0_ok nmX0 hown hK hP hS 0 rfl (by decide) h11 7 (by decide) (hts (.fieldLink RX0 34 "CourierBees$Bee" "rests" "Z") (by decide +kernel)) (fun _ h9 => h9) (Or.inl rfl) (Or.inr rfl) (g_bz (Or.inr rfl)).1 (g_bz (Or.inr rfl)).2 dX0_restsNow_27 (fun H locs hP hS => ?_)
      refine lv_iconst (v := 1) hx hb dX0_restsNow_30 (by decide) ?_
      exact g_retZ hx hb hr (Or.inr rfl) hlocks hF hP hS (Nat.le_of_ble_eq_true rfl) (Nat.le_of_ble_eq_true rfl) dX0_restsNow_31
set_option maxHeartbeats 4000000 in
set_option maxRecDepth 100000 in
theorem k0_turnAtEnd (l : Launch) (D : va_G) (base : Nat) (g : g_H) (a0 : Nat) (gz : g_H) (hF : f0_turnAtEnd g a0 = some gz) : Met l yX0_turnAtEnd wsX0_turnAtEnd ({ frames := 1, cells := 0, slots := 0, locals := 20 } : Room) (va_Pc [.ref a0] (gC base D g)) (gQv base D gz) 0 0 (gA base) := by
  refine g_met (cc := cX0_turnAtEnd) (maxL := 2) (ret := none) (lst := [(0, .ref a0)]) (by decide) rfl (Nat.le_of_ble_eq_true rfl) rfl ?_
  intro p e s m args below meth c ls hx hb hr hml hown hlocks hname hts hE hP hl
  have hown : s.vm.findClass RX0 = some m.cls := hown
  have hK := hE.1
  have hov := hE.2.2.2.2.2.2.2.1
  have hbz := hE.2.2.2.2.2.2.2.2.2.2.2.2
  have hS : va_S (gA base) s.heap s.heap [] := va_S.rf
  have hiX0 : ∀ w ∈ wsX00, w ∈ wsX0_turnAtEnd := by decide +kernel
  have HB20 : ∀ (g : g_H) (a0 : Nat) (s0 : Int32) (H : Heap) (locs : List Loc) (ls : Array Slot), f0_turnAtEnd_20 g a0 s0 = some gz → gP base D s g H → va_S (gA base) s.heap H locs → lv_has ls 2 [(0, .ref a0)] → W p l e ({ frames := 1, cells := 0, slots := 0, locals := 20 } : Room) s m args below meth c H locs 0 0 (MQ below (gQv base D gz) args s 0 0 (gA base)) (F0 m 20 ls [.int s0]) := by
    intro g a0 s0 H locs ls hF hP hS hl
    unfold f0_turnAtEnd_20 at hF
    refine lv_istore_n (lv' := [(1, .int s0), (0, .ref a0)]) hx hb dX0_turnAtEnd_20 rfl hl (by decide) rfl (fun ls hl => ?_)
    refine lv_aload_n hx hb dX0_turnAtEnd_21 rfl (lv_at hl 1 rfl) ?_
    obtain ⟨h3, hF⟩ := g_if hF
    refine g_get hx hb hts hiX0 hown hK hP 0 rfl (by decide) h3 2 (by decide) (hts (.fieldLink RX0 49 "CourierBees$Bee" "place" "I") (by decide +kernel)) (fun _ h9 => h9) (gFv_i (Or.inl rfl)) dX0_turnAtEnd_22 ?_
    refine lv_iload_n hx hb dX0_turnAtEnd_25 rfl (lv_at hl 0 rfl) ?_
    refine lv_icmp_ne (tgt := 45) hx hb dX0_turnAtEnd_26 (by decide) (fun c4 => ?_) (fun c4 => ?_)
    · have hF := g_f c4 hF
      exact g_retV hx hb hr hlocks hF hP hS (Nat.le_of_ble_eq_true rfl) (Nat.le_of_ble_eq_true rfl) dX0_turnAtEnd_45
    · have hF := g_t c4 hF
      refine lv_aload_n hx hb dX0_turnAtEnd_29 rfl (lv_at hl 1 rfl) ?_
      refine lv_aload_n hx hb dX0_turnAtEnd_30 rfl (lv_at hl 1 rfl) ?_
      refine g_get hx hb hts hiX0 hown hK hP 0 rfl (by decide) h3 9 (by decide) (hts (.fieldLink RX0 52 "CourierBees$Bee" "onward" "Z") (by decide +kernel)) (fun _ h9 => h9) (gFv_i (Or.inr rfl)) dX0_turnAtEnd_31 ?_
      refine lv_if_ne (tgt := 41) hx hb dX0_turnAtEnd_34 (by decide) (fun c5 => ?_) (fun c5 => ?_)
      · have hF := g_f c5 hF
        refine lv_iconst (v := 0) hx hb dX0_turnAtEnd_41 (by decide) ?_
        refine g_puti hx hb hts hiX0 tyX0 tyX0_ok nmX0 hown hK hP hS 0 rfl (by decide) h3 9 (by decide) (hts (.fieldLink RX0 52 "CourierBees$Bee" "onward" "Z") (by decide +kernel)) (fun _ h9 => h9) (Or.inl rfl) (Or.inr rfl) (g_bz (Or.inl rfl)).1 (g_bz (Or.inl rfl)).2 dX0_turnAtEnd_42 (fun H locs hP hS => ?_)
        exact g_retV hx hb hr hlocks hF hP hS (Nat.le_of_ble_eq_true rfl) (Nat.le_of_ble_eq_true rfl) dX0_turnAtEnd_45
      · have hF := g_t c5 hF
        refine lv_iconst (v := 1) hx hb dX0_turnAtEnd_37 (by decide) ?_
        refine lv_goto (tgt := 42) hx hb dX0_turnAtEnd_38 (by decide) ?_
        refine g_puti hx hb hts hiX0 tyX0 tyX0_ok nmX0 hown hK hP hS 0 rfl (by decide) h3 9 (by decide) (hts (.fieldLink RX0 52 "CourierBees$Bee" "onward" "Z") (by decide +kernel)) (fun _ h9 => h9) (Or.inl rfl) (Or.inr rfl) (g_bz (Or.inr rfl)).1 (g_bz (Or.inr rfl)).2 dX0_turnAtEnd_42 (fun H locs hP hS => ?_)
        exact g_retV hx hb hr hlocks hF hP hS (Nat.le_of_ble_eq_true rfl) (Nat.le_of_ble_eq_true rfl) dX0_turnAtEnd_45
  unfold f0_turnAtEnd at hF
  refine lv_aload_n hx hb dX0_turnAtEnd_0 rfl (lv_at hl 0 rfl) ?_
  obtain ⟨h1, hF⟩ := g_if hF
  refine g_get hx hb hts hiX0 hown hK hP 0 rfl (by decide) h1 9 (by decide) (hts (.fieldLink RX0 52 "CourierBees$Bee" "onward" "Z") (by decide +kernel)) (fun _ h9 => h9) (gFv_i (Or.inr rfl)) dX0_turnAtEnd_1 ?_
  refine lv_if_eq (tgt := 19) hx hb dX0_turnAtEnd_4 (by decide) (fun c2 => ?_) (fun c2 => ?_)
  · have hF := g_t c2 hF
    refine lv_iconst (v := 0) hx hb dX0_turnAtEnd_19 (by decide) ?_
    exact HB20 _ _ _ _ _ _ hF hP hS (lv_sub hl [0] rfl)
  · have hF := g_f c2 hF
    refine lv_aload_n hx hb dX0_turnAtEnd_7 rfl (lv_at hl 0 rfl) ?_
    obtain ⟨q6, hq7, hF⟩ := g_bind hF
    refine g_get hx hb hts hiX0 hown hK hP 0 rfl (by decide) h1 1 (by decide) (hts (.fieldLink RX0 18 "CourierBees$Bee" "route" "LCourierBees$Route;") (by decide +kernel)) (fun _ h9 => h9) ((gFv_r (by decide)).trans (congrArg va_rf hq7)) dX0_turnAtEnd_8 ?_
    obtain ⟨h9, hF⟩ := g_if hF
    obtain ⟨v11, g10, h8, hF⟩ := g_bind2 hF
    refine g_calli (va_runV (As := []) (rest := []) ⟨hx, hb, hml, hown, hts⟩ (k4_length l D base g q6 v11 g10 h8) (cwV 0 hts gX0_turnAtEnd_X4_length rfl rfl rfl (by decide +kernel) ⟨Nat.le_of_ble_eq_true rfl, Nat.le_of_ble_eq_true rfl⟩) (gC.preV hE hP hS 4 rfl (by decide) h9 []) rfl rfl hl.1 rfl (lv_room (Nat.le_of_ble_eq_true rfl)) dX0_turnAtEnd_11 ⟨(Nat.le_of_ble_eq_true rfl), (Nat.le_of_ble_eq_true rfl)⟩) hS (fun H locs hP hS => ?_)
    refine lv_iconst (v := 1) hx hb dX0_turnAtEnd_14 (by decide) ?_
    refine lv_isub hx hb dX0_turnAtEnd_15 ?_
    refine lv_goto (tgt := 20) hx hb dX0_turnAtEnd_16 (by decide) ?_
    exact HB20 _ _ _ _ _ _ hF hP hS (lv_sub hl [0] rfl)
set_option maxHeartbeats 4000000 in
set_option maxRecDepth 100000 in
theorem k0_nextLane (l : Launch) (D : va_G) (base : Nat) (g : g_H) (a0 : Nat) (rr : Int32) (gz : g_H) (hF : f0_nextLane g a0 = some (rr, gz)) : Met l yX0_nextLane wsX0_nextLane ({ frames := 1, cells := 0, slots := 0, locals := 21 } : Room) (va_Pc [.ref a0] (gC base D g)) (gQi base D rr gz) 0 0 (gA base) := by
  refine g_met (cc := cX0_nextLane) (maxL := 1) (ret := (some .int)) (lst := [(0, .ref a0)]) (by decide) rfl (Nat.le_of_ble_eq_true rfl) rfl ?_
  intro p e s m args below meth c ls hx hb hr hml hown hlocks hname hts hE hP hl
  have hown : s.vm.findClass RX0 = some m.cls := hown
  have hK := hE.1
  have hov := hE.2.2.2.2.2.2.2.1
  have hbz := hE.2.2.2.2.2.2.2.2.2.2.2.2
  have hS : va_S (gA base) s.heap s.heap [] := va_S.rf
  have hiX0 : ∀ w ∈ wsX00, w ∈ wsX0_nextLane := by decide +kernel
  unfold f0_nextLane at hF
  refine lv_aload_n hx hb dX0_nextLane_0 rfl (lv_at hl 0 rfl) ?_
  obtain ⟨h1, hF⟩ := g_if hF
  obtain ⟨q2, hq3, hF⟩ := g_bind hF
  refine g_get hx hb hts hiX0 hown hK hP 0 rfl (by decide) h1 1 (by decide) (hts (.fieldLink RX0 18 "CourierBees$Bee" "route" "LCourierBees$Route;") (by decide +kernel)) (fun _ h9 => h9) ((gFv_r (by decide)).trans (congrArg va_rf hq3)) dX0_nextLane_1 ?_
  refine lv_aload_n hx hb dX0_nextLane_4 rfl (lv_at hl 0 rfl) ?_
  refine g_get hx hb hts hiX0 hown hK hP 0 rfl (by decide) h1 9 (by decide) (hts (.fieldLink RX0 52 "CourierBees$Bee" "onward" "Z") (by decide +kernel)) (fun _ h9 => h9) (gFv_i (Or.inr rfl)) dX0_nextLane_5 ?_
  refine lv_if_eq (tgt := 18) hx hb dX0_nextLane_8 (by decide) (fun c4 => ?_) (fun c4 => ?_)
  · have hF := g_t c4 hF
    refine lv_aload_n hx hb dX0_nextLane_18 rfl (lv_at hl 0 rfl) ?_
    refine g_get hx hb hts hiX0 hown hK hP 0 rfl (by decide) h1 2 (by decide) (hts (.fieldLink RX0 49 "CourierBees$Bee" "place" "I") (by decide +kernel)) (fun _ h9 => h9) (gFv_i (Or.inl rfl)) dX0_nextLane_19 ?_
    refine lv_iconst (v := 1) hx hb dX0_nextLane_22 (by decide) ?_
    refine lv_isub hx hb dX0_nextLane_23 ?_
    obtain ⟨h6, hF⟩ := g_if hF
    obtain ⟨v8, g7, h5, hF⟩ := g_bind2 hF
    refine g_calli (va_runV (As := [.int ((gI g a0 2) - ((1 : Int32)))]) (rest := []) ⟨hx, hb, hml, hown, hts⟩ (k4_laneAt l D base g q2 ((gI g a0 2) - ((1 : Int32))) v8 g7 h5) (cwV 1 hts gX0_nextLane_X4_laneAt rfl rfl rfl (by decide +kernel) ⟨Nat.le_of_ble_eq_true rfl, Nat.le_of_ble_eq_true rfl⟩) (gC.preV hE hP hS 4 rfl (by decide) h6 [.int ((gI g a0 2) - ((1 : Int32)))]) rfl rfl hl.1 rfl (lv_room (Nat.le_of_ble_eq_true rfl)) dX0_nextLane_24 ⟨(Nat.le_of_ble_eq_true rfl), (Nat.le_of_ble_eq_true rfl)⟩) hS (fun H locs hP hS => ?_)
    exact g_retI hx hb hr hlocks hF hP hS (Nat.le_of_ble_eq_true rfl) (Nat.le_of_ble_eq_true rfl) dX0_nextLane_27
  · have hF := g_f c4 hF
    refine lv_aload_n hx hb dX0_nextLane_11 rfl (lv_at hl 0 rfl) ?_
    refine g_get hx hb hts hiX0 hown hK hP 0 rfl (by decide) h1 2 (by decide) (hts (.fieldLink RX0 49 "CourierBees$Bee" "place" "I") (by decide +kernel)) (fun _ h9 => h9) (gFv_i (Or.inl rfl)) dX0_nextLane_12 ?_
    refine lv_goto (tgt := 24) hx hb dX0_nextLane_15 (by decide) ?_
    obtain ⟨h10, hF⟩ := g_if hF
    obtain ⟨v12, g11, h9, hF⟩ := g_bind2 hF
    refine g_calli (va_runV (As := [.int (gI g a0 2)]) (rest := []) ⟨hx, hb, hml, hown, hts⟩ (k4_laneAt l D base g q2 (gI g a0 2) v12 g11 h9) (cwV 1 hts gX0_nextLane_X4_laneAt rfl rfl rfl (by decide +kernel) ⟨Nat.le_of_ble_eq_true rfl, Nat.le_of_ble_eq_true rfl⟩) (gC.preV hE hP hS 4 rfl (by decide) h10 [.int (gI g a0 2)]) rfl rfl hl.1 rfl (lv_room (Nat.le_of_ble_eq_true rfl)) dX0_nextLane_24 ⟨(Nat.le_of_ble_eq_true rfl), (Nat.le_of_ble_eq_true rfl)⟩) hS (fun H locs hP hS => ?_)
    exact g_retI hx hb hr hlocks hF hP hS (Nat.le_of_ble_eq_true rfl) (Nat.le_of_ble_eq_true rfl) dX0_nextLane_27
set_option maxHeartbeats 4000000 in
set_option maxRecDepth 100000 in
theorem k0_flyOrStay (l : Launch) (D : va_G) (base : Nat) (g : g_H) (a0 : Nat) (x1 : Int32) (x2 : Int32) (gz : g_H) (hF : f0_flyOrStay g a0 x1 x2 = some gz) : Met l yX0_flyOrStay wsX0_flyOrStay ({ frames := 2, cells := 0, slots := 0, locals := 45 } : Room) (va_Pc [.ref a0, .int x1, .int x2] (gC base D g)) (gQv base D gz) 0 0 (gA base) := by
  refine g_met (cc := cX0_flyOrStay) (maxL := 3) (ret := none) (lst := [(0, .ref a0), (1, .int x1), (2, .int x2)]) (by decide) rfl (Nat.le_of_ble_eq_true rfl) rfl ?_
  intro p e s m args below meth c ls hx hb hr hml hown hlocks hname hts hE hP hl
  have hown : s.vm.findClass RX0 = some m.cls := hown
  have hK := hE.1
  have hov := hE.2.2.2.2.2.2.2.1
  have hbz := hE.2.2.2.2.2.2.2.2.2.2.2.2
  have hS : va_S (gA base) s.heap s.heap [] := va_S.rf
  have hiX0 : ∀ w ∈ wsX00, w ∈ wsX0_flyOrStay := by decide +kernel
  have HB51 : ∀ (g : g_H) (a0 : Nat) (H : Heap) (locs : List Loc) (ls : Array Slot), f0_flyOrStay_51 g a0 = some gz → gP base D s g H → va_S (gA base) s.heap H locs → lv_has ls 3 [(0, .ref a0)] → W p l e ({ frames := 2, cells := 0, slots := 0, locals := 45 } : Room) s m args below meth c H locs 0 0 (MQ below (gQv base D gz) args s 0 0 (gA base)) (F0 m 51 ls []) := by
    intro g a0 H locs ls hF hP hS hl
    unfold f0_flyOrStay_51 at hF
    refine lv_aload_n hx hb dX0_flyOrStay_51 rfl (lv_at hl 0 rfl) ?_
    refine lv_iconst (v := 1) hx hb dX0_flyOrStay_52 (by decide) ?_
    obtain ⟨h3, hF⟩ := g_if hF
    obtain ⟨g4, h2, hF⟩ := g_bind hF
    refine g_callv (va_runV (As := [.int ((1 : Int32))]) (rest := []) ⟨hx, hb, hml, hown, hts⟩ (k0_addStrength l D base g a0 ((1 : Int32)) g4 h2) (cwV 1 hts gX0_flyOrStay_X0_addStrength rfl rfl rfl (by decide +kernel) ⟨Nat.le_of_ble_eq_true rfl, Nat.le_of_ble_eq_true rfl⟩) (gC.preV hE hP hS 0 rfl (by decide) h3 [.int ((1 : Int32))]) rfl rfl hl.1 rfl (lv_room (Nat.le_of_ble_eq_true rfl)) dX0_flyOrStay_53 ⟨(Nat.le_of_ble_eq_true rfl), (Nat.le_of_ble_eq_true rfl)⟩) hS (fun H locs hP hS => ?_)
    exact g_retV hx hb hr hlocks hF hP hS (Nat.le_of_ble_eq_true rfl) (Nat.le_of_ble_eq_true rfl) dX0_flyOrStay_56
  unfold f0_flyOrStay at hF
  refine lv_iload_n hx hb dX0_flyOrStay_0 rfl (lv_at hl 1 rfl) ?_
  refine lv_if_eq (tgt := 51) hx hb dX0_flyOrStay_1 (by decide) (fun c1 => ?_) (fun c1 => ?_)
  · have hF := g_t c1 hF
    exact HB51 _ _ _ _ _ hF hP hS (lv_sub hl [0] rfl)
  · have hF := g_f c1 hF
    refine lv_aload_n hx hb dX0_flyOrStay_4 rfl (lv_at hl 0 rfl) ?_
    obtain ⟨h6, hF⟩ := g_if hF
    refine g_get hx hb hts hiX0 hown hK hP 0 rfl (by decide) h6 4 (by decide) (hts (.fieldLink RX0 25 "CourierBees$Bee" "strength" "I") (by decide +kernel)) (fun _ h9 => h9) (gFv_i (Or.inl rfl)) dX0_flyOrStay_5 ?_
    refine lv_iload_n hx hb dX0_flyOrStay_8 rfl (lv_at hl 2 rfl) ?_
    refine lv_icmp_lt (tgt := 51) hx hb dX0_flyOrStay_9 (by decide) (fun c7 => ?_) (fun c7 => ?_)
    · have hF := g_t c7 hF
      exact HB51 _ _ _ _ _ hF hP hS (lv_sub hl [0] rfl)
    · have hF := g_f c7 hF
      refine lv_aload_n hx hb dX0_flyOrStay_12 rfl (lv_at hl 0 rfl) ?_
      refine lv_dup hx hb dX0_flyOrStay_13 rfl ?_
      refine g_get hx hb hts hiX0 hown hK hP 0 rfl (by decide) h6 4 (by decide) (hts (.fieldLink RX0 25 "CourierBees$Bee" "strength" "I") (by decide +kernel)) (fun _ h9 => h9) (gFv_i (Or.inl rfl)) dX0_flyOrStay_14 ?_
      refine lv_iload_n hx hb dX0_flyOrStay_17 rfl (lv_at hl 2 rfl) ?_
      refine lv_isub hx hb dX0_flyOrStay_18 ?_
      refine g_puti hx hb hts hiX0 tyX0 tyX0_ok nmX0 hown hK hP hS 0 rfl (by decide) h6 4 (by decide) (hts (.fieldLink RX0 25 "CourierBees$Bee" "strength" "I") (by decide +kernel)) (fun _ h9 => h9) (Or.inl rfl) (Or.inl rfl) rfl rfl dX0_flyOrStay_19 (fun H locs hP hS => ?_)
      refine lv_aload_n hx hb dX0_flyOrStay_22 rfl (lv_at hl 0 rfl) ?_
      refine lv_iload_n hx hb dX0_flyOrStay_23 rfl (lv_at hl 2 rfl) ?_
      refine g_puti hx hb hts hiX0 tyX0 tyX0_ok nmX0 hown hK hP hS 0 rfl (by decide) h6 3 (by decide) (hts (.fieldLink RX0 22 "CourierBees$Bee" "left" "I") (by decide +kernel)) (fun _ h9 => h9) (Or.inl rfl) (Or.inl rfl) rfl rfl dX0_flyOrStay_24 (fun H locs hP hS => ?_)
      refine lv_aload_n hx hb dX0_flyOrStay_27 rfl (lv_at hl 0 rfl) ?_
      refine lv_dup hx hb dX0_flyOrStay_28 rfl ?_
      refine g_get hx hb hts hiX0 hown hK hP 0 rfl (by decide) h6 2 (by decide) (hts (.fieldLink RX0 49 "CourierBees$Bee" "place" "I") (by decide +kernel)) (fun _ h9 => h9) (gFv_i (Or.inl rfl)) dX0_flyOrStay_29 ?_
      refine lv_aload_n hx hb dX0_flyOrStay_32 rfl (lv_at hl 0 rfl) ?_
      refine g_get hx hb hts hiX0 hown hK hP 0 rfl (by decide) h6 9 (by decide) (hts (.fieldLink RX0 52 "CourierBees$Bee" "onward" "Z") (by decide +kernel)) (fun _ h9 => h9) (gFv_i (Or.inr rfl)) dX0_flyOrStay_33 ?_
      refine lv_if_eq (tgt := 43) hx hb dX0_flyOrStay_36 (by decide) (fun c8 => ?_) (fun c8 => ?_)
      · have hF := g_t c8 hF
        refine lv_iconst (v := (-1)) hx hb dX0_flyOrStay_43 (by decide) ?_
        refine lv_iadd hx hb dX0_flyOrStay_44 ?_
        obtain ⟨y9, e10, hF⟩ := g_let hF
        rw [e10]
        refine g_puti hx hb hts hiX0 tyX0 tyX0_ok nmX0 hown hK hP hS 0 rfl (by decide) h6 2 (by decide) (hts (.fieldLink RX0 49 "CourierBees$Bee" "place" "I") (by decide +kernel)) (fun _ h9 => h9) (Or.inl rfl) (Or.inl rfl) rfl rfl dX0_flyOrStay_45 (fun H locs hP hS => ?_)
        refine lv_goto (tgt := 56) hx hb dX0_flyOrStay_48 (by decide) ?_
        exact g_retV hx hb hr hlocks hF hP hS (Nat.le_of_ble_eq_true rfl) (Nat.le_of_ble_eq_true rfl) dX0_flyOrStay_56
      · have hF := g_f c8 hF
        refine lv_iconst (v := 1) hx hb dX0_flyOrStay_39 (by decide) ?_
        refine lv_goto (tgt := 44) hx hb dX0_flyOrStay_40 (by decide) ?_
        refine lv_iadd hx hb dX0_flyOrStay_44 ?_
        obtain ⟨y11, e12, hF⟩ := g_let hF
        rw [e12]
        refine g_puti hx hb hts hiX0 tyX0 tyX0_ok nmX0 hown hK hP hS 0 rfl (by decide) h6 2 (by decide) (hts (.fieldLink RX0 49 "CourierBees$Bee" "place" "I") (by decide +kernel)) (fun _ h9 => h9) (Or.inl rfl) (Or.inl rfl) rfl rfl dX0_flyOrStay_45 (fun H locs hP hS => ?_)
        refine lv_goto (tgt := 56) hx hb dX0_flyOrStay_48 (by decide) ?_
        exact g_retV hx hb hr hlocks hF hP hS (Nat.le_of_ble_eq_true rfl) (Nat.le_of_ble_eq_true rfl) dX0_flyOrStay_56
set_option maxHeartbeats 4000000 in
set_option maxRecDepth 100000 in
theorem k0_tell (l : Launch) (D : va_G) (base : Nat) (g : g_H) (a0 : Nat) (x1 : Int32) (rr : Int32) (gz : g_H) (hF : f0_tell g a0 x1 = some (rr, gz)) : Met l yX0_tell wsX0_tell ({ frames := 2, cells := 0, slots := 0, locals := 41 } : Room) (va_Pc [.ref a0, .int x1] (gC base D g)) (gQi base D rr gz) 0 0 (gA base) := by
  refine g_met (cc := cX0_tell) (maxL := 2) (ret := (some .int)) (lst := [(0, .ref a0), (1, .int x1)]) (by decide) rfl (Nat.le_of_ble_eq_true rfl) rfl ?_
  intro p e s m args below meth c ls hx hb hr hml hown hlocks hname hts hE hP hl
  have hown : s.vm.findClass RX0 = some m.cls := hown
  have hK := hE.1
  have hov := hE.2.2.2.2.2.2.2.1
  have hbz := hE.2.2.2.2.2.2.2.2.2.2.2.2
  have hS : va_S (gA base) s.heap s.heap [] := va_S.rf
  have hiX0 : ∀ w ∈ wsX00, w ∈ wsX0_tell := by decide +kernel
  unfold f0_tell at hF
  refine lv_iload_n hx hb dX0_tell_0 rfl (lv_at hl 1 rfl) ?_
  by_cases c1 : x1 = (0 : Int32)
  · have hF := g_t c1 hF
    refine lv_tableIn (off := 47) (tgt := 48) hx hb dX0_tell_1 (by rw [c1]; decide) (by rw [c1]; decide) (by rw [c1]; rfl) (by decide) ?_
    refine lv_aload_n hx hb dX0_tell_48 rfl (lv_at hl 0 rfl) ?_
    obtain ⟨h10, hF⟩ := g_if hF
    obtain ⟨v12, g11, h9, hF⟩ := g_bind2 hF
    refine g_calli (va_runV (As := []) (rest := []) ⟨hx, hb, hml, hown, hts⟩ (k0_house l D base g a0 v12 g11 h9) (cwV 0 hts gX0_tell_X0_house rfl rfl rfl (by decide +kernel) ⟨Nat.le_of_ble_eq_true rfl, Nat.le_of_ble_eq_true rfl⟩) (gC.preV hE hP hS 0 rfl (by decide) h10 []) rfl rfl hl.1 rfl (lv_room (Nat.le_of_ble_eq_true rfl)) dX0_tell_49 ⟨(Nat.le_of_ble_eq_true rfl), (Nat.le_of_ble_eq_true rfl)⟩) hS (fun H locs hP hS => ?_)
    exact g_retI hx hb hr hlocks hF hP hS (Nat.le_of_ble_eq_true rfl) (Nat.le_of_ble_eq_true rfl) dX0_tell_52
  · have hF := g_f c1 hF
    by_cases c2 : x1 = (1 : Int32)
    · have hF := g_t c2 hF
      refine lv_tableIn (off := 52) (tgt := 53) hx hb dX0_tell_1 (by rw [c2]; decide) (by rw [c2]; decide) (by rw [c2]; rfl) (by decide) ?_
      refine lv_aload_n hx hb dX0_tell_53 rfl (lv_at hl 0 rfl) ?_
      obtain ⟨h13, hF⟩ := g_if hF
      refine g_get hx hb hts hiX0 hown hK hP 0 rfl (by decide) h13 3 (by decide) (hts (.fieldLink RX0 22 "CourierBees$Bee" "left" "I") (by decide +kernel)) (fun _ h9 => h9) (gFv_i (Or.inl rfl)) dX0_tell_54 ?_
      exact g_retI hx hb hr hlocks hF hP hS (Nat.le_of_ble_eq_true rfl) (Nat.le_of_ble_eq_true rfl) dX0_tell_57
    · have hF := g_f c2 hF
      by_cases c3 : x1 = (2 : Int32)
      · have hF := g_t c3 hF
        refine lv_tableIn (off := 57) (tgt := 58) hx hb dX0_tell_1 (by rw [c3]; decide) (by rw [c3]; decide) (by rw [c3]; rfl) (by decide) ?_
        refine lv_aload_n hx hb dX0_tell_58 rfl (lv_at hl 0 rfl) ?_
        obtain ⟨h14, hF⟩ := g_if hF
        refine g_get hx hb hts hiX0 hown hK hP 0 rfl (by decide) h14 4 (by decide) (hts (.fieldLink RX0 25 "CourierBees$Bee" "strength" "I") (by decide +kernel)) (fun _ h9 => h9) (gFv_i (Or.inl rfl)) dX0_tell_59 ?_
        exact g_retI hx hb hr hlocks hF hP hS (Nat.le_of_ble_eq_true rfl) (Nat.le_of_ble_eq_true rfl) dX0_tell_62
      · have hF := g_f c3 hF
        by_cases c4 : x1 = (3 : Int32)
        · have hF := g_t c4 hF
          refine lv_tableIn (off := 62) (tgt := 63) hx hb dX0_tell_1 (by rw [c4]; decide) (by rw [c4]; decide) (by rw [c4]; rfl) (by decide) ?_
          refine lv_aload_n hx hb dX0_tell_63 rfl (lv_at hl 0 rfl) ?_
          obtain ⟨h15, hF⟩ := g_if hF
          refine g_get hx hb hts hiX0 hown hK hP 0 rfl (by decide) h15 5 (by decide) (hts (.fieldLink RX0 28 "CourierBees$Bee" "honour" "I") (by decide +kernel)) (fun _ h9 => h9) (gFv_i (Or.inl rfl)) dX0_tell_64 ?_
          exact g_retI hx hb hr hlocks hF hP hS (Nat.le_of_ble_eq_true rfl) (Nat.le_of_ble_eq_true rfl) dX0_tell_67
        · have hF := g_f c4 hF
          by_cases c5 : x1 = (4 : Int32)
          · have hF := g_t c5 hF
            refine lv_tableIn (off := 67) (tgt := 68) hx hb dX0_tell_1 (by rw [c5]; decide) (by rw [c5]; decide) (by rw [c5]; rfl) (by decide) ?_
            refine lv_aload_n hx hb dX0_tell_68 rfl (lv_at hl 0 rfl) ?_
            obtain ⟨h16, hF⟩ := g_if hF
            refine g_get hx hb hts hiX0 hown hK hP 0 rfl (by decide) h16 6 (by decide) (hts (.fieldLink RX0 31 "CourierBees$Bee" "carries" "I") (by decide +kernel)) (fun _ h9 => h9) (gFv_i (Or.inl rfl)) dX0_tell_69 ?_
            exact g_retI hx hb hr hlocks hF hP hS (Nat.le_of_ble_eq_true rfl) (Nat.le_of_ble_eq_true rfl) dX0_tell_72
          · have hF := g_f c5 hF
            by_cases c6 : x1 = (5 : Int32)
            · have hF := g_t c6 hF
              refine lv_tableIn (off := 72) (tgt := 73) hx hb dX0_tell_1 (by rw [c6]; decide) (by rw [c6]; decide) (by rw [c6]; rfl) (by decide) ?_
              refine lv_aload_n hx hb dX0_tell_73 rfl (lv_at hl 0 rfl) ?_
              obtain ⟨h17, hF⟩ := g_if hF
              refine g_get hx hb hts hiX0 hown hK hP 0 rfl (by decide) h17 7 (by decide) (hts (.fieldLink RX0 34 "CourierBees$Bee" "rests" "Z") (by decide +kernel)) (fun _ h9 => h9) (gFv_i (Or.inr rfl)) dX0_tell_74 ?_
              refine lv_if_eq (tgt := 84) hx hb dX0_tell_77 (by decide) (fun c18 => ?_) (fun c18 => ?_)
              · have hF := g_t c18 hF
                refine lv_iconst (v := 0) hx hb dX0_tell_84 (by decide) ?_
                exact g_retI hx hb hr hlocks hF hP hS (Nat.le_of_ble_eq_true rfl) (Nat.le_of_ble_eq_true rfl) dX0_tell_85
              · have hF := g_f c18 hF
                refine lv_iconst (v := 1) hx hb dX0_tell_80 (by decide) ?_
                refine lv_goto (tgt := 85) hx hb dX0_tell_81 (by decide) ?_
                exact g_retI hx hb hr hlocks hF hP hS (Nat.le_of_ble_eq_true rfl) (Nat.le_of_ble_eq_true rfl) dX0_tell_85
            · have hF := g_f c6 hF
              by_cases c7 : x1 = (6 : Int32)
              · have hF := g_t c7 hF
                refine lv_tableIn (off := 85) (tgt := 86) hx hb dX0_tell_1 (by rw [c7]; decide) (by rw [c7]; decide) (by rw [c7]; rfl) (by decide) ?_
                refine lv_aload_n hx hb dX0_tell_86 rfl (lv_at hl 0 rfl) ?_
                obtain ⟨h19, hF⟩ := g_if hF
                obtain ⟨q20, hq21, hF⟩ := g_bind hF
                refine g_get hx hb hts hiX0 hown hK hP 0 rfl (by decide) h19 1 (by decide) (hts (.fieldLink RX0 18 "CourierBees$Bee" "route" "LCourierBees$Route;") (by decide +kernel)) (fun _ h9 => h9) ((gFv_r (by decide)).trans (congrArg va_rf hq21)) dX0_tell_87 ?_
                obtain ⟨h23, hF⟩ := g_if hF
                obtain ⟨v25, g24, h22, hF⟩ := g_bind2 hF
                refine g_calli (va_runV (As := []) (rest := []) ⟨hx, hb, hml, hown, hts⟩ (k4_length l D base g q20 v25 g24 h22) (cwV 0 hts gX0_tell_X4_length rfl rfl rfl (by decide +kernel) ⟨Nat.le_of_ble_eq_true rfl, Nat.le_of_ble_eq_true rfl⟩) (gC.preV hE hP hS 4 rfl (by decide) h23 []) rfl rfl hl.1 rfl (lv_room (Nat.le_of_ble_eq_true rfl)) dX0_tell_90 ⟨(Nat.le_of_ble_eq_true rfl), (Nat.le_of_ble_eq_true rfl)⟩) hS (fun H locs hP hS => ?_)
                exact g_retI hx hb hr hlocks hF hP hS (Nat.le_of_ble_eq_true rfl) (Nat.le_of_ble_eq_true rfl) dX0_tell_93
              · have hF := g_f c7 hF
                by_cases c8 : x1 = (7 : Int32)
                · have hF := g_t c8 hF
                  refine lv_tableIn (off := 93) (tgt := 94) hx hb dX0_tell_1 (by rw [c8]; decide) (by rw [c8]; decide) (by rw [c8]; rfl) (by decide) ?_
                  refine lv_aload_n hx hb dX0_tell_94 rfl (lv_at hl 0 rfl) ?_
                  obtain ⟨h26, hF⟩ := g_if hF
                  refine g_get hx hb hts hiX0 hown hK hP 0 rfl (by decide) h26 8 (by decide) (hts (.fieldLink RX0 38 "CourierBees$Bee" "delivered" "I") (by decide +kernel)) (fun _ h9 => h9) (gFv_i (Or.inl rfl)) dX0_tell_95 ?_
                  exact g_retI hx hb hr hlocks hF hP hS (Nat.le_of_ble_eq_true rfl) (Nat.le_of_ble_eq_true rfl) dX0_tell_98
                · have hF := g_f c8 hF
                  refine lv_tableOut (tgt := 99) hx hb dX0_tell_1 (by have h9 := g_out x1 7 (by decide) (fun k hk => by rcases (show k = 0 ∨ k = 1 ∨ k = 2 ∨ k = 3 ∨ k = 4 ∨ k = 5 ∨ k = 6 ∨ k = 7 by omega) with rfl | rfl | rfl | rfl | rfl | rfl | rfl | rfl <;> assumption); omega) (by decide) ?_
                  refine lv_aload_n hx hb dX0_tell_99 rfl (lv_at hl 0 rfl) ?_
                  obtain ⟨h27, hF⟩ := g_if hF
                  refine g_get hx hb hts hiX0 hown hK hP 0 rfl (by decide) h27 9 (by decide) (hts (.fieldLink RX0 52 "CourierBees$Bee" "onward" "Z") (by decide +kernel)) (fun _ h9 => h9) (gFv_i (Or.inr rfl)) dX0_tell_100 ?_
                  refine lv_if_eq (tgt := 110) hx hb dX0_tell_103 (by decide) (fun c28 => ?_) (fun c28 => ?_)
                  · have hF := g_t c28 hF
                    refine lv_iconst (v := 0) hx hb dX0_tell_110 (by decide) ?_
                    exact g_retI hx hb hr hlocks hF hP hS (Nat.le_of_ble_eq_true rfl) (Nat.le_of_ble_eq_true rfl) dX0_tell_111
                  · have hF := g_f c28 hF
                    refine lv_iconst (v := 1) hx hb dX0_tell_106 (by decide) ?_
                    refine lv_goto (tgt := 111) hx hb dX0_tell_107 (by decide) ?_
                    exact g_retI hx hb hr hlocks hF hP hS (Nat.le_of_ble_eq_true rfl) (Nat.le_of_ble_eq_true rfl) dX0_tell_111
set_option maxHeartbeats 4000000 in
set_option maxRecDepth 100000 in
theorem k0_digestFrom (l : Launch) (D : va_G) (base : Nat) (g : g_H) (a0 : Nat) (j1 : Int64) (rr : Int64) (gz : g_H) (hF : f0_digestFrom g a0 j1 = some (rr, gz)) : Met l yX0_digestFrom wsX0_digestFrom ({ frames := 3, cells := 0, slots := 0, locals := 62 } : Room) (va_Pc [.ref a0, .long j1] (gC base D g)) (gQl base D rr gz) 0 0 (gA base) := by
  refine g_met (cc := cX0_digestFrom) (maxL := 6) (ret := (some .long)) (lst := [(0, .ref a0), (1, .long j1)]) (by decide) rfl (Nat.le_of_ble_eq_true rfl) rfl ?_
  intro p e s m args below meth c ls hx hb hr hml hown hlocks hname hts hE hP hl
  have hown : s.vm.findClass RX0 = some m.cls := hown
  have hK := hE.1
  have hov := hE.2.2.2.2.2.2.2.1
  have hbz := hE.2.2.2.2.2.2.2.2.2.2.2.2
  have hS : va_S (gA base) s.heap s.heap [] := va_S.rf
  have hiX0 : ∀ w ∈ wsX00, w ∈ wsX0_digestFrom := by decide +kernel
  have HL35 : ∀ (n35 : Nat), ∀ (g : g_H) (a0 : Nat) (j3 : Int64) (x5 : Int32) (H : Heap) (locs : List Loc) (ls : Array Slot), f0_digestFrom_35 n35 g a0 j3 x5 = some (rr, gz) → gP base D s g H → va_S (gA base) s.heap H locs → lv_has ls 6 [(0, .ref a0), (3, .long j3), (5, .int x5)] → W p l e ({ frames := 3, cells := 0, slots := 0, locals := 62 } : Room) s m args below meth c H locs 0 0 (MQ below (gQl base D rr gz) args s 0 0 (gA base)) (F0 m 35 ls []) := by
    intro n35
    induction n35 with
    | zero => intro g a0 j3 x5 H locs ls hF hP hS hl; exact g_no hF
    | succ n35 ih35 =>
      intro g a0 j3 x5 H locs ls hF hP hS hl
      have hF : f0_digestFrom_35b (f0_digestFrom_35 n35) g a0 j3 x5 = some (rr, gz) := hF
      unfold f0_digestFrom_35b at hF
      refine lv_iload hx hb dX0_digestFrom_35 (lv_at hl 2 rfl) ?_
      refine lv_aload_n hx hb dX0_digestFrom_37 rfl (lv_at hl 0 rfl) ?_
      obtain ⟨h2, hF⟩ := g_if hF
      obtain ⟨q3, hq4, hF⟩ := g_bind hF
      refine g_get hx hb hts hiX0 hown hK hP 0 rfl (by decide) h2 1 (by decide) (hts (.fieldLink RX0 18 "CourierBees$Bee" "route" "LCourierBees$Route;") (by decide +kernel)) (fun _ h9 => h9) ((gFv_r (by decide)).trans (congrArg va_rf hq4)) dX0_digestFrom_38 ?_
      obtain ⟨h6, hF⟩ := g_if hF
      obtain ⟨v8, g7, h5, hF⟩ := g_bind2 hF
      refine g_calli (va_runV (As := []) (rest := [.int x5]) ⟨hx, hb, hml, hown, hts⟩ (k4_length l D base g q3 v8 g7 h5) (cwV 0 hts gX0_digestFrom_X4_length rfl rfl rfl (by decide +kernel) ⟨Nat.le_of_ble_eq_true rfl, Nat.le_of_ble_eq_true rfl⟩) (gC.preV hE hP hS 4 rfl (by decide) h6 []) rfl rfl hl.1 rfl (lv_room (Nat.le_of_ble_eq_true rfl)) dX0_digestFrom_41 ⟨(Nat.le_of_ble_eq_true rfl), (Nat.le_of_ble_eq_true rfl)⟩) hS (fun H locs hP hS => ?_)
      refine lv_icmp_ge (tgt := 70) hx hb dX0_digestFrom_44 (by decide) (fun c9 => ?_) (fun c9 => ?_)
      · have hF := g_t c9 hF
        refine lv_lload_n hx hb dX0_digestFrom_70 rfl (lv_at hl 1 rfl) ?_
        exact g_retJ hx hb hr hlocks hF hP hS (Nat.le_of_ble_eq_true rfl) (Nat.le_of_ble_eq_true rfl) dX0_digestFrom_71
      · have hF := g_f c9 hF
        refine lv_lload_n hx hb dX0_digestFrom_47 rfl (lv_at hl 1 rfl) ?_
        refine lv_ldc2 (v := 31) hx hb hown (hts (.constantLong RX0 99 (31)) (by decide +kernel)) dX0_digestFrom_48 ?_
        refine lv_lmul hx hb dX0_digestFrom_51 ?_
        refine lv_aload_n hx hb dX0_digestFrom_52 rfl (lv_at hl 0 rfl) ?_
        obtain ⟨h10, hF⟩ := g_if hF
        obtain ⟨q11, hq12, hF⟩ := g_bind hF
        refine g_get hx hb hts hiX0 hown hK hP 0 rfl (by decide) h10 1 (by decide) (hts (.fieldLink RX0 18 "CourierBees$Bee" "route" "LCourierBees$Route;") (by decide +kernel)) (fun _ h9 => h9) ((gFv_r (by decide)).trans (congrArg va_rf hq12)) dX0_digestFrom_53 ?_
        refine lv_iload hx hb dX0_digestFrom_56 (lv_at hl 2 rfl) ?_
        obtain ⟨h14, hF⟩ := g_if hF
        obtain ⟨v16, g15, h13, hF⟩ := g_bind2 hF
        refine g_calli (va_runV (As := [.int x5]) (rest := [.long (j3 * ((31 : Int64)))]) ⟨hx, hb, hml, hown, hts⟩ (k4_houseAt l D base g7 q11 x5 v16 g15 h13) (cwV 1 hts gX0_digestFrom_X4_houseAt rfl rfl rfl (by decide +kernel) ⟨Nat.le_of_ble_eq_true rfl, Nat.le_of_ble_eq_true rfl⟩) (gC.preV hE hP hS 4 rfl (by decide) h14 [.int x5]) rfl rfl hl.1 rfl (lv_room (Nat.le_of_ble_eq_true rfl)) dX0_digestFrom_58 ⟨(Nat.le_of_ble_eq_true rfl), (Nat.le_of_ble_eq_true rfl)⟩) hS (fun H locs hP hS => ?_)
        refine lv_i2l hx hb dX0_digestFrom_61 rfl ?_
        refine lv_ladd hx hb dX0_digestFrom_62 ?_
        refine lv_lstore_n (lv' := [(3, .long ((j3 * ((31 : Int64))) + (Int32.toInt64 v16))), (0, .ref a0), (5, .int x5)]) hx hb dX0_digestFrom_63 rfl hl (by decide) rfl (fun ls hl => ?_)
        refine lv_iinc (v := x5 + (1 : Int32)) (lv' := [(5, .int (x5 + (1 : Int32))), (3, .long ((j3 * ((31 : Int64))) + (Int32.toInt64 v16))), (0, .ref a0)]) hx hb dX0_digestFrom_64 hl (k := 2) rfl rfl (by decide) rfl (fun ls hl => ?_)
        refine lv_goto (tgt := 35) hx hb dX0_digestFrom_67 (by decide) ?_
        exact ih35 _ _ _ _ _ _ _ hF hP hS (lv_sub hl [2, 1, 0] rfl)
  have HL5 : ∀ (n5 : Nat), ∀ (g : g_H) (a0 : Nat) (j3 : Int64) (x5 : Int32) (H : Heap) (locs : List Loc) (ls : Array Slot), f0_digestFrom_5 n5 g a0 j3 x5 = some (rr, gz) → gP base D s g H → va_S (gA base) s.heap H locs → lv_has ls 6 [(0, .ref a0), (3, .long j3), (5, .int x5)] → W p l e ({ frames := 3, cells := 0, slots := 0, locals := 62 } : Room) s m args below meth c H locs 0 0 (MQ below (gQl base D rr gz) args s 0 0 (gA base)) (F0 m 5 ls []) := by
    intro n5
    induction n5 with
    | zero => intro g a0 j3 x5 H locs ls hF hP hS hl; exact g_no hF
    | succ n5 ih5 =>
      intro g a0 j3 x5 H locs ls hF hP hS hl
      have hF : f0_digestFrom_5b (f0_digestFrom_5 n5) g a0 j3 x5 = some (rr, gz) := hF
      unfold f0_digestFrom_5b at hF
      refine lv_iload hx hb dX0_digestFrom_5 (lv_at hl 2 rfl) ?_
      refine lv_bipush (v := 9) hx hb dX0_digestFrom_7 (by decide) ?_
      refine lv_icmp_ge (tgt := 32) hx hb dX0_digestFrom_9 (by decide) (fun c1 => ?_) (fun c1 => ?_)
      · have hF := g_t c1 hF
        refine lv_iconst (v := 0) hx hb dX0_digestFrom_32 (by decide) ?_
        refine lv_istore (lv' := [(5, .int ((0 : Int32))), (0, .ref a0), (3, .long j3)]) hx hb dX0_digestFrom_33 hl (by decide) rfl (fun ls hl => ?_)
        exact HL35 300 _ _ _ _ _ _ _ hF hP hS (lv_sub hl [1, 2, 0] rfl)
      · have hF := g_f c1 hF
        refine lv_lload_n hx hb dX0_digestFrom_12 rfl (lv_at hl 1 rfl) ?_
        refine lv_ldc2 (v := 31) hx hb hown (hts (.constantLong RX0 99 (31)) (by decide +kernel)) dX0_digestFrom_13 ?_
        refine lv_lmul hx hb dX0_digestFrom_16 ?_
        refine lv_aload_n hx hb dX0_digestFrom_17 rfl (lv_at hl 0 rfl) ?_
        refine lv_iload hx hb dX0_digestFrom_18 (lv_at hl 2 rfl) ?_
        obtain ⟨h18, hF⟩ := g_if hF
        obtain ⟨v20, g19, h17, hF⟩ := g_bind2 hF
        refine g_calli (va_runV (As := [.int x5]) (rest := [.long (j3 * ((31 : Int64)))]) ⟨hx, hb, hml, hown, hts⟩ (k0_tell l D base g a0 x5 v20 g19 h17) (cwV 1 hts gX0_digestFrom_X0_tell rfl rfl rfl (by decide +kernel) ⟨Nat.le_of_ble_eq_true rfl, Nat.le_of_ble_eq_true rfl⟩) (gC.preV hE hP hS 0 rfl (by decide) h18 [.int x5]) rfl rfl hl.1 rfl (lv_room (Nat.le_of_ble_eq_true rfl)) dX0_digestFrom_20 ⟨(Nat.le_of_ble_eq_true rfl), (Nat.le_of_ble_eq_true rfl)⟩) hS (fun H locs hP hS => ?_)
        refine lv_i2l hx hb dX0_digestFrom_23 rfl ?_
        refine lv_ladd hx hb dX0_digestFrom_24 ?_
        refine lv_lstore_n (lv' := [(3, .long ((j3 * ((31 : Int64))) + (Int32.toInt64 v20))), (0, .ref a0), (5, .int x5)]) hx hb dX0_digestFrom_25 rfl hl (by decide) rfl (fun ls hl => ?_)
        refine lv_iinc (v := x5 + (1 : Int32)) (lv' := [(5, .int (x5 + (1 : Int32))), (3, .long ((j3 * ((31 : Int64))) + (Int32.toInt64 v20))), (0, .ref a0)]) hx hb dX0_digestFrom_26 hl (k := 2) rfl rfl (by decide) rfl (fun ls hl => ?_)
        refine lv_goto (tgt := 5) hx hb dX0_digestFrom_29 (by decide) ?_
        exact ih5 _ _ _ _ _ _ _ hF hP hS (lv_sub hl [2, 1, 0] rfl)
  unfold f0_digestFrom at hF
  refine lv_lload_n hx hb dX0_digestFrom_0 rfl (lv_at hl 1 rfl) ?_
  refine lv_lstore_n (lv' := [(3, .long j1), (0, .ref a0), (1, .long j1)]) hx hb dX0_digestFrom_1 rfl hl (by decide) rfl (fun ls hl => ?_)
  refine lv_iconst (v := 0) hx hb dX0_digestFrom_2 (by decide) ?_
  refine lv_istore (lv' := [(5, .int ((0 : Int32))), (3, .long j1), (0, .ref a0), (1, .long j1)]) hx hb dX0_digestFrom_3 hl (by decide) rfl (fun ls hl => ?_)
  exact HL5 300 _ _ _ _ _ _ _ hF hP hS (lv_sub hl [2, 1, 0] rfl)
set_option maxHeartbeats 4000000 in
set_option maxRecDepth 100000 in
theorem k0_copyFrom (l : Launch) (D : va_G) (base : Nat) (g : g_H) (a0 : Nat) (a1 : Nat) (gz : g_H) (hF : f0_copyFrom g a0 a1 = some gz) : Met l yX0_copyFrom wsX0_copyFrom ({ frames := 0, cells := 0, slots := 0, locals := 0 } : Room) (va_Pc [.ref a0, .ref a1] (gC base D g)) (gQv base D gz) 0 0 (gA base) := by
  refine g_met (cc := cX0_copyFrom) (maxL := 2) (ret := none) (lst := [(0, .ref a0), (1, .ref a1)]) (by decide) rfl (Nat.le_of_ble_eq_true rfl) rfl ?_
  intro p e s m args below meth c ls hx hb hr hml hown hlocks hname hts hE hP hl
  have hown : s.vm.findClass RX0 = some m.cls := hown
  have hK := hE.1
  have hov := hE.2.2.2.2.2.2.2.1
  have hbz := hE.2.2.2.2.2.2.2.2.2.2.2.2
  have hS : va_S (gA base) s.heap s.heap [] := va_S.rf
  have hiX0 : ∀ w ∈ wsX00, w ∈ wsX0_copyFrom := by decide +kernel
  unfold f0_copyFrom at hF
  refine lv_aload_n hx hb dX0_copyFrom_0 rfl (lv_at hl 0 rfl) ?_
  refine lv_aload_n hx hb dX0_copyFrom_1 rfl (lv_at hl 1 rfl) ?_
  obtain ⟨h1, hF⟩ := g_if hF
  obtain ⟨q2, hq3, hF⟩ := g_bind hF
  refine g_get hx hb hts hiX0 hown hK hP 0 rfl (by decide) h1 1 (by decide) (hts (.fieldLink RX0 18 "CourierBees$Bee" "route" "LCourierBees$Route;") (by decide +kernel)) (fun _ h9 => h9) ((gFv_r (by decide)).trans (congrArg va_rf hq3)) dX0_copyFrom_2 ?_
  obtain ⟨h4, hF⟩ := g_if hF
  refine g_putr hx hb hts hiX0 tyX0 tyX0_ok nmX0 hown hK hP hS 0 rfl (by decide) h4 1 (by decide) (hts (.fieldLink RX0 18 "CourierBees$Bee" "route" "LCourierBees$Route;") (by decide +kernel)) (fun _ h9 => h9) (Or.inl rfl) (by decide) rfl rfl dX0_copyFrom_5 (fun H locs hP hS => ?_)
  refine lv_aload_n hx hb dX0_copyFrom_8 rfl (lv_at hl 0 rfl) ?_
  refine lv_aload_n hx hb dX0_copyFrom_9 rfl (lv_at hl 1 rfl) ?_
  refine g_get hx hb hts hiX0 hown hK hP 0 rfl (by decide) h1 2 (by decide) (hts (.fieldLink RX0 49 "CourierBees$Bee" "place" "I") (by decide +kernel)) (fun _ h9 => h9) (gFv_i (Or.inl rfl)) dX0_copyFrom_10 ?_
  obtain ⟨y5, e6, hF⟩ := g_let hF
  rw [e6]
  refine g_puti hx hb hts hiX0 tyX0 tyX0_ok nmX0 hown hK hP hS 0 rfl (by decide) h4 2 (by decide) (hts (.fieldLink RX0 49 "CourierBees$Bee" "place" "I") (by decide +kernel)) (fun _ h9 => h9) (Or.inl rfl) (Or.inl rfl) rfl rfl dX0_copyFrom_13 (fun H locs hP hS => ?_)
  refine lv_aload_n hx hb dX0_copyFrom_16 rfl (lv_at hl 0 rfl) ?_
  refine lv_aload_n hx hb dX0_copyFrom_17 rfl (lv_at hl 1 rfl) ?_
  refine g_get hx hb hts hiX0 hown hK hP 0 rfl (by decide) h1 3 (by decide) (hts (.fieldLink RX0 22 "CourierBees$Bee" "left" "I") (by decide +kernel)) (fun _ h9 => h9) (gFv_i (Or.inl rfl)) dX0_copyFrom_18 ?_
  obtain ⟨y7, e8, hF⟩ := g_let hF
  rw [e8]
  refine g_puti hx hb hts hiX0 tyX0 tyX0_ok nmX0 hown hK hP hS 0 rfl (by decide) h4 3 (by decide) (hts (.fieldLink RX0 22 "CourierBees$Bee" "left" "I") (by decide +kernel)) (fun _ h9 => h9) (Or.inl rfl) (Or.inl rfl) rfl rfl dX0_copyFrom_21 (fun H locs hP hS => ?_)
  refine lv_aload_n hx hb dX0_copyFrom_24 rfl (lv_at hl 0 rfl) ?_
  refine lv_aload_n hx hb dX0_copyFrom_25 rfl (lv_at hl 1 rfl) ?_
  refine g_get hx hb hts hiX0 hown hK hP 0 rfl (by decide) h1 4 (by decide) (hts (.fieldLink RX0 25 "CourierBees$Bee" "strength" "I") (by decide +kernel)) (fun _ h9 => h9) (gFv_i (Or.inl rfl)) dX0_copyFrom_26 ?_
  obtain ⟨y9, e10, hF⟩ := g_let hF
  rw [e10]
  refine g_puti hx hb hts hiX0 tyX0 tyX0_ok nmX0 hown hK hP hS 0 rfl (by decide) h4 4 (by decide) (hts (.fieldLink RX0 25 "CourierBees$Bee" "strength" "I") (by decide +kernel)) (fun _ h9 => h9) (Or.inl rfl) (Or.inl rfl) rfl rfl dX0_copyFrom_29 (fun H locs hP hS => ?_)
  refine lv_aload_n hx hb dX0_copyFrom_32 rfl (lv_at hl 0 rfl) ?_
  refine lv_aload_n hx hb dX0_copyFrom_33 rfl (lv_at hl 1 rfl) ?_
  refine g_get hx hb hts hiX0 hown hK hP 0 rfl (by decide) h1 5 (by decide) (hts (.fieldLink RX0 28 "CourierBees$Bee" "honour" "I") (by decide +kernel)) (fun _ h9 => h9) (gFv_i (Or.inl rfl)) dX0_copyFrom_34 ?_
  obtain ⟨y11, e12, hF⟩ := g_let hF
  rw [e12]
  refine g_puti hx hb hts hiX0 tyX0 tyX0_ok nmX0 hown hK hP hS 0 rfl (by decide) h4 5 (by decide) (hts (.fieldLink RX0 28 "CourierBees$Bee" "honour" "I") (by decide +kernel)) (fun _ h9 => h9) (Or.inl rfl) (Or.inl rfl) rfl rfl dX0_copyFrom_37 (fun H locs hP hS => ?_)
  refine lv_aload_n hx hb dX0_copyFrom_40 rfl (lv_at hl 0 rfl) ?_
  refine lv_aload_n hx hb dX0_copyFrom_41 rfl (lv_at hl 1 rfl) ?_
  refine g_get hx hb hts hiX0 hown hK hP 0 rfl (by decide) h1 6 (by decide) (hts (.fieldLink RX0 31 "CourierBees$Bee" "carries" "I") (by decide +kernel)) (fun _ h9 => h9) (gFv_i (Or.inl rfl)) dX0_copyFrom_42 ?_
  obtain ⟨y13, e14, hF⟩ := g_let hF
  rw [e14]
  refine g_puti hx hb hts hiX0 tyX0 tyX0_ok nmX0 hown hK hP hS 0 rfl (by decide) h4 6 (by decide) (hts (.fieldLink RX0 31 "CourierBees$Bee" "carries" "I") (by decide +kernel)) (fun _ h9 => h9) (Or.inl rfl) (Or.inl rfl) rfl rfl dX0_copyFrom_45 (fun H locs hP hS => ?_)
  refine lv_aload_n hx hb dX0_copyFrom_48 rfl (lv_at hl 0 rfl) ?_
  refine lv_aload_n hx hb dX0_copyFrom_49 rfl (lv_at hl 1 rfl) ?_
  refine g_get hx hb hts hiX0 hown hK hP 0 rfl (by decide) h1 7 (by decide) (hts (.fieldLink RX0 34 "CourierBees$Bee" "rests" "Z") (by decide +kernel)) (fun _ h9 => h9) (gFv_i (Or.inr rfl)) dX0_copyFrom_50 ?_
  obtain ⟨y15, e16, hF⟩ := g_let hF
  rw [e16]
  obtain ⟨h17, hF⟩ := g_if hF
  refine g_puti hx hb hts hiX0 tyX0 tyX0_ok nmX0 hown hK hP hS 0 rfl (by decide) h4 7 (by decide) (hts (.fieldLink RX0 34 "CourierBees$Bee" "rests" "Z") (by decide +kernel)) (fun _ h9 => h9) (Or.inl rfl) (Or.inr rfl) (g_bz h17).1 (g_bz h17).2 dX0_copyFrom_53 (fun H locs hP hS => ?_)
  refine lv_aload_n hx hb dX0_copyFrom_56 rfl (lv_at hl 0 rfl) ?_
  refine lv_aload_n hx hb dX0_copyFrom_57 rfl (lv_at hl 1 rfl) ?_
  refine g_get hx hb hts hiX0 hown hK hP 0 rfl (by decide) h1 8 (by decide) (hts (.fieldLink RX0 38 "CourierBees$Bee" "delivered" "I") (by decide +kernel)) (fun _ h9 => h9) (gFv_i (Or.inl rfl)) dX0_copyFrom_58 ?_
  obtain ⟨y18, e19, hF⟩ := g_let hF
  rw [e19]
  refine g_puti hx hb hts hiX0 tyX0 tyX0_ok nmX0 hown hK hP hS 0 rfl (by decide) h4 8 (by decide) (hts (.fieldLink RX0 38 "CourierBees$Bee" "delivered" "I") (by decide +kernel)) (fun _ h9 => h9) (Or.inl rfl) (Or.inl rfl) rfl rfl dX0_copyFrom_61 (fun H locs hP hS => ?_)
  refine lv_aload_n hx hb dX0_copyFrom_64 rfl (lv_at hl 0 rfl) ?_
  refine lv_aload_n hx hb dX0_copyFrom_65 rfl (lv_at hl 1 rfl) ?_
  refine g_get hx hb hts hiX0 hown hK hP 0 rfl (by decide) h1 9 (by decide) (hts (.fieldLink RX0 52 "CourierBees$Bee" "onward" "Z") (by decide +kernel)) (fun _ h9 => h9) (gFv_i (Or.inr rfl)) dX0_copyFrom_66 ?_
  obtain ⟨y20, e21, hF⟩ := g_let hF
  rw [e21]
  obtain ⟨h22, hF⟩ := g_if hF
  refine g_puti hx hb hts hiX0 tyX0 tyX0_ok nmX0 hown hK hP hS 0 rfl (by decide) h4 9 (by decide) (hts (.fieldLink RX0 52 "CourierBees$Bee" "onward" "Z") (by decide +kernel)) (fun _ h9 => h9) (Or.inl rfl) (Or.inr rfl) (g_bz h22).1 (g_bz h22).2 dX0_copyFrom_69 (fun H locs hP hS => ?_)
  exact g_retV hx hb hr hlocks hF hP hS (Nat.le_of_ble_eq_true rfl) (Nat.le_of_ble_eq_true rfl) dX0_copyFrom_72
end
section
set_option maxHeartbeats 4000000 in
set_option maxRecDepth 100000 in
theorem k1_init (l : Launch) (D : va_G) (base : Nat) (g : g_H) (a0 : Nat) (a1 : Nat) (gz : g_H) (hF : f1_init g a0 a1 = some gz) : Met l yX1_init wsX1_init ({ frames := 3, cells := 59, slots := 430, locals := 63 } : Room) (va_Pc [.ref a0, .ref a1] (gC base D g)) (gQv base D gz) 59 430 (gA base) := by
  refine g_met (cc := cX1_init) (maxL := 3) (ret := none) (lst := [(0, .ref a0), (1, .ref a1)]) (by decide) rfl (Nat.le_of_ble_eq_true rfl) rfl ?_
  intro p e s m args below meth c ls hx hb hr hml hown hlocks hname hts hE hP hl
  have hown : s.vm.findClass RX1 = some m.cls := hown
  have hK := hE.1
  have hov := hE.2.2.2.2.2.2.2.1
  have hbz := hE.2.2.2.2.2.2.2.2.2.2.2.2
  have hS : va_S (gA base) s.heap s.heap [] := va_S.rf
  have hiX0 : ∀ w ∈ wsX00, w ∈ wsX1_init := by decide +kernel
  have hiX1 : ∀ w ∈ wsX10, w ∈ wsX1_init := by decide +kernel
  have hiX3 : ∀ w ∈ wsX30, w ∈ wsX1_init := by decide +kernel
  have HL57 : ∀ (n57 : Nat), n57 ≤ 21 → ∀ (g : g_H) (a0 : Nat) (x2 : Int32) (H : Heap) (locs : List Loc) (ls : Array Slot), f1_init_57 n57 g a0 x2 = some gz → gP base D s g H → va_S (gA base) s.heap H locs → lv_has ls 3 [(0, .ref a0), (2, .int x2)] → W p l e ({ frames := 3, cells := 59, slots := 430, locals := 63 } : Room) s m args below meth c H locs (37 + (21 - n57) * 1) (320 + (21 - n57) * 5) (MQ below (gQv base D gz) args s 59 430 (gA base)) (F0 m 57 ls []) := by
    intro n57
    induction n57 with
    | zero => intro hle57 g a0 x2 H locs ls hF hP hS hl; exact g_no hF
    | succ n57 ih57 =>
      intro hle57
      intro g a0 x2 H locs ls hF hP hS hl
      have hF : f1_init_57b (f1_init_57 n57) g a0 x2 = some gz := hF
      unfold f1_init_57b at hF
      refine lv_iload_n hx hb dX1_init_57 rfl (lv_at hl 1 rfl) ?_
      refine lv_bipush (v := 20) hx hb dX1_init_58 (by decide) ?_
      refine lv_icmp_ge (tgt := 82) hx hb dX1_init_60 (by decide) (fun c15 => ?_) (fun c15 => ?_)
      · have hF := g_t c15 hF
        refine W.widen (k := 58) (n := 425) (by omega) (by omega) ?_
        refine lv_aload_n hx hb dX1_init_82 rfl (lv_at hl 0 rfl) ?_
        refine lv_iconst (v := (-1)) hx hb dX1_init_83 (by decide) ?_
        obtain ⟨h16, hF⟩ := g_if hF
        refine g_puti hx hb hts hiX1 tyX1 tyX1_ok nmX1 hown hK hP hS 1 rfl (by decide) h16 7 (by decide) (hts (.fieldLink RX1 31 "CourierBees$Flight" "openLane" "I") (by decide +kernel)) (fun _ h9 => h9) (Or.inl rfl) (Or.inl rfl) rfl rfl dX1_init_84 (fun H locs hP hS => ?_)
        exact g_retV hx hb hr hlocks hF hP hS (Nat.le_of_ble_eq_true rfl) (Nat.le_of_ble_eq_true rfl) dX1_init_87
      · have hF := g_f c15 hF
        refine lv_aload_n hx hb dX1_init_63 rfl (lv_at hl 0 rfl) ?_
        obtain ⟨h17, hF⟩ := g_if hF
        obtain ⟨q18, hq19, hF⟩ := g_bind hF
        refine g_get hx hb hts hiX1 hown hK hP 1 rfl (by decide) h17 2 (by decide) (hts (.fieldLink RX1 26 "CourierBees$Flight" "letters" "[LCourierBees$Letter;") (by decide +kernel)) (fun _ h9 => h9) ((gFv_r (by decide)).trans (congrArg va_rf hq19)) dX1_init_64 ?_
        refine lv_iload_n hx hb dX1_init_67 rfl (lv_at hl 1 rfl) ?_
        obtain ⟨q20, g21, e22, e23, h24, hF⟩ := g_nw hF
        refine g_new hx hb hts hiX3 tyX3 tyX3_ok hown (hts (.classLink RX1 24 RX3) (by decide +kernel)) (hts (.instantiable RX3 5) (by decide +kernel)) (hts (.initialized RX3) (by decide +kernel)) hK hP hS hbz 3 rfl (by decide) dfX3 (by show _ ≤ (59 : Nat); omega) (by show _ ≤ (430 : Nat); omega) dX1_init_68 (fun H hP hS => ?_)
        rw [e23] at hP
        rw [e22]
        refine lv_dup hx hb dX1_init_71 rfl ?_
        obtain ⟨g26, h25, hF⟩ := g_bind hF
        refine g_callv (va_runIN (As := []) (rest := [.ref q20, .int x2, .ref q18]) ⟨hx, hb, hml, hown, hts⟩ (k3_init l D base g21 q20 g26 h25) ⟨va_cnB 0 hts gX1_init_X3_init_n30 rfl rfl rfl (hE.2.2.2.2.2.2.2.2.2.2.2.1 (RX1, 30, yX3_init) (by decide)) (hts (.initialized RX3) (by decide +kernel)) (by decide +kernel) ⟨Nat.le_of_ble_eq_true rfl, Nat.le_of_ble_eq_true rfl⟩, rfl, hts (.instanceMethod yX3_init) (by decide +kernel)⟩ (gC.preS hE hP hS (.ref q20 :: [])) rfl rfl hl.1 rfl (lv_room (Nat.le_of_ble_eq_true rfl)) dX1_init_72 ⟨(by show _ ≤ (59 : Nat); omega), (by show _ ≤ (430 : Nat); omega)⟩) hS (fun H locs hP hS => ?_)
        obtain ⟨h28, hF⟩ := g_if hF
        obtain ⟨h29, hF⟩ := g_if hF
        obtain ⟨h30, hF⟩ := g_if hF
        refine g_aast hx hb hK hP hS (g_pr h28) (by decide) 3 rfl rfl (by decide) h30 h29 dX1_init_75 (fun H locs hP hS => ?_)
        refine lv_iinc (v := x2 + (1 : Int32)) (lv' := [(2, .int (x2 + (1 : Int32))), (0, .ref a0)]) hx hb dX1_init_76 hl (k := 1) rfl rfl (by decide) rfl (fun ls hl => ?_)
        refine lv_goto (tgt := 57) hx hb dX1_init_79 (by decide) ?_
        refine W.widen (k := 37 + (21 - n57) * 1) (n := 320 + (21 - n57) * 5) (by omega) (by omega) ?_
        exact ih57 (by omega) _ _ _ _ _ _ hF hP hS (lv_sub hl [1, 0] rfl)
  have HL20 : ∀ (n20 : Nat), n20 ≤ 7 → ∀ (g : g_H) (a0 : Nat) (x2 : Int32) (H : Heap) (locs : List Loc) (ls : Array Slot), f1_init_20 n20 g a0 x2 = some gz → gP base D s g H → va_S (gA base) s.heap H locs → lv_has ls 3 [(0, .ref a0), (2, .int x2)] → W p l e ({ frames := 3, cells := 59, slots := 430, locals := 63 } : Room) s m args below meth c H locs (1 + (7 - n20) * 5) (6 + (7 - n20) * 42) (MQ below (gQv base D gz) args s 59 430 (gA base)) (F0 m 20 ls []) := by
    intro n20
    induction n20 with
    | zero => intro hle20 g a0 x2 H locs ls hF hP hS hl; exact g_no hF
    | succ n20 ih20 =>
      intro hle20
      intro g a0 x2 H locs ls hF hP hS hl
      have hF : f1_init_20b (f1_init_20 n20) g a0 x2 = some gz := hF
      unfold f1_init_20b at hF
      refine lv_iload_n hx hb dX1_init_20 rfl (lv_at hl 1 rfl) ?_
      refine lv_bipush (v := 6) hx hb dX1_init_21 (by decide) ?_
      refine lv_icmp_ge (tgt := 46) hx hb dX1_init_23 (by decide) (fun c8 => ?_) (fun c8 => ?_)
      · have hF := g_t c8 hF
        refine W.widen (k := 36) (n := 300) (by omega) (by omega) ?_
        refine lv_aload_n hx hb dX1_init_46 rfl (lv_at hl 0 rfl) ?_
        refine lv_bipush (v := 20) hx hb dX1_init_47 (by decide) ?_
        obtain ⟨q9, g10, e11, e12, h13, hF⟩ := g_nw hF
        refine g_newq hx hb hown (hts (.classLink RX1 24 "CourierBees$Letter") (by decide +kernel)) hE.2.2.2.2.2.2.1 17 rfl (by decide) hP hS hbz (n := 20) (N' := 20) (by decide) (by decide) (Nat.le_of_ble_eq_true rfl) (Nat.le_of_ble_eq_true rfl) (Nat.le_of_ble_eq_true rfl) dX1_init_49 (fun H hP hS => ?_)
        rw [e12] at hP
        rw [e11]
        obtain ⟨h14, hF⟩ := g_if hF
        refine g_putr hx hb hts hiX1 tyX1 tyX1_ok nmX1 hown hK hP hS 1 rfl (by decide) h14 2 (by decide) (hts (.fieldLink RX1 26 "CourierBees$Flight" "letters" "[LCourierBees$Letter;") (by decide +kernel)) (fun _ h9 => h9) (Or.inr ⟨rfl, hname, rfl⟩) (by decide) rfl rfl dX1_init_52 (fun H locs hP hS => ?_)
        refine lv_iconst (v := 0) hx hb dX1_init_55 (by decide) ?_
        refine lv_istore_n (lv' := [(2, .int ((0 : Int32))), (0, .ref a0)]) hx hb dX1_init_56 rfl hl (by decide) rfl (fun ls hl => ?_)
        refine W.widen (k := 37 + (21 - 21) * 1) (n := 320 + (21 - 21) * 5) (by omega) (by omega) ?_
        exact HL57 21 (Nat.le_refl _) _ _ _ _ _ _ hF hP hS (lv_sub hl [1, 0] rfl)
      · have hF := g_f c8 hF
        refine lv_aload_n hx hb dX1_init_26 rfl (lv_at hl 0 rfl) ?_
        obtain ⟨h31, hF⟩ := g_if hF
        obtain ⟨q32, hq33, hF⟩ := g_bind hF
        refine g_get hx hb hts hiX1 hown hK hP 1 rfl (by decide) h31 1 (by decide) (hts (.fieldLink RX1 17 "CourierBees$Flight" "bees" "[LCourierBees$Bee;") (by decide +kernel)) (fun _ h9 => h9) ((gFv_r (by decide)).trans (congrArg va_rf hq33)) dX1_init_27 ?_
        refine lv_iload_n hx hb dX1_init_30 rfl (lv_at hl 1 rfl) ?_
        obtain ⟨q34, g35, e36, e37, h38, hF⟩ := g_nw hF
        refine g_new hx hb hts hiX0 tyX0 tyX0_ok hown (hts (.classLink RX1 15 RX0) (by decide +kernel)) (hts (.instantiable RX0 10) (by decide +kernel)) (hts (.initialized RX0) (by decide +kernel)) hK hP hS hbz 0 rfl (by decide) dfX0 (by show _ ≤ (59 : Nat); omega) (by show _ ≤ (430 : Nat); omega) dX1_init_31 (fun H hP hS => ?_)
        rw [e37] at hP
        rw [e36]
        refine lv_dup hx hb dX1_init_34 rfl ?_
        refine lv_iload_n hx hb dX1_init_35 rfl (lv_at hl 1 rfl) ?_
        obtain ⟨g40, h39, hF⟩ := g_bind hF
        refine g_callv (va_runI (As := [.int x2]) (rest := [.ref q34, .int x2, .ref q32]) ⟨hx, hb, hml, hown, hts⟩ (k0_init l D base g35 q34 x2 g40 h39) (cwI 1 hts gX1_init_X0_init rfl rfl rfl (hts (.initialized RX0) (by decide +kernel)) (hts (.methodLink RX1 21 yX0_init) (by decide +kernel)) (hts (.instanceMethod yX0_init) (by decide +kernel)) rfl (by decide +kernel) ⟨Nat.le_of_ble_eq_true rfl, Nat.le_of_ble_eq_true rfl⟩) (gC.preS hE hP hS (.ref q34 :: [.int x2])) rfl rfl hl.1 rfl (lv_room (Nat.le_of_ble_eq_true rfl)) dX1_init_36 ⟨(by show _ ≤ (59 : Nat); omega), (by show _ ≤ (430 : Nat); omega)⟩) hS (fun H locs hP hS => ?_)
        obtain ⟨h42, hF⟩ := g_if hF
        obtain ⟨h43, hF⟩ := g_if hF
        obtain ⟨h44, hF⟩ := g_if hF
        refine g_aast hx hb hK hP hS (g_pr h42) (by decide) 0 rfl rfl (by decide) h44 h43 dX1_init_39 (fun H locs hP hS => ?_)
        refine lv_iinc (v := x2 + (1 : Int32)) (lv' := [(2, .int (x2 + (1 : Int32))), (0, .ref a0)]) hx hb dX1_init_40 hl (k := 1) rfl rfl (by decide) rfl (fun ls hl => ?_)
        refine lv_goto (tgt := 20) hx hb dX1_init_43 (by decide) ?_
        refine W.widen (k := 1 + (7 - n20) * 5) (n := 6 + (7 - n20) * 42) (by omega) (by omega) ?_
        exact ih20 (by omega) _ _ _ _ _ _ hF hP hS (lv_sub hl [1, 0] rfl)
  unfold f1_init at hF
  refine lv_aload_n hx hb dX1_init_0 rfl (lv_at hl 0 rfl) ?_
  refine W.objInit hx hb hown (hts (.methodLink RX1 3 objectInit) (by decide +kernel)) (hts (.instanceMethod objectInit) (by decide +kernel)) (hts (.code objectInit ⟨#[0xb1]⟩ 1 none) (by decide +kernel)) rfl (by rw [hml]; exact hl.1) rfl dX1_init_1 (Nat.le_of_ble_eq_true rfl) (Nat.le_of_ble_eq_true rfl) ?_
  refine W.eq (g2 := F0 m 4 ls []) rfl ?_
  refine lv_aload_n hx hb dX1_init_4 rfl (lv_at hl 0 rfl) ?_
  refine lv_aload_n hx hb dX1_init_5 rfl (lv_at hl 1 rfl) ?_
  obtain ⟨h1, hF⟩ := g_if hF
  refine g_putr hx hb hts hiX1 tyX1 tyX1_ok nmX1 hown hK hP hS 1 rfl (by decide) h1 0 (by decide) (hts (.fieldLink RX1 9 "CourierBees$Flight" "town" "LCourierBees$Town;") (by decide +kernel)) (fun _ h9 => h9) (Or.inr ⟨rfl, hname, rfl⟩) (by decide) rfl rfl dX1_init_6 (fun H locs hP hS => ?_)
  refine lv_aload_n hx hb dX1_init_9 rfl (lv_at hl 0 rfl) ?_
  refine lv_bipush (v := 6) hx hb dX1_init_10 (by decide) ?_
  obtain ⟨q2, g3, e4, e5, h6, hF⟩ := g_nw hF
  refine g_newq hx hb hown (hts (.classLink RX1 15 "CourierBees$Bee") (by decide +kernel)) hE.2.2.2.2.1 15 rfl (by decide) hP hS hbz (n := 6) (N' := 6) (by decide) (by decide) (Nat.le_of_ble_eq_true rfl) (Nat.le_of_ble_eq_true rfl) (Nat.le_of_ble_eq_true rfl) dX1_init_12 (fun H hP hS => ?_)
  rw [e5] at hP
  rw [e4]
  obtain ⟨h7, hF⟩ := g_if hF
  refine g_putr hx hb hts hiX1 tyX1 tyX1_ok nmX1 hown hK hP hS 1 rfl (by decide) h7 1 (by decide) (hts (.fieldLink RX1 17 "CourierBees$Flight" "bees" "[LCourierBees$Bee;") (by decide +kernel)) (fun _ h9 => h9) (Or.inr ⟨rfl, hname, rfl⟩) (by decide) rfl rfl dX1_init_15 (fun H locs hP hS => ?_)
  refine lv_iconst (v := 0) hx hb dX1_init_18 (by decide) ?_
  refine lv_istore_n (lv' := [(2, .int ((0 : Int32))), (0, .ref a0), (1, .ref a1)]) hx hb dX1_init_19 rfl hl (by decide) rfl (fun ls hl => ?_)
  refine W.widen (k := 1 + (7 - 7) * 5) (n := 6 + (7 - 7) * 42) (by omega) (by omega) ?_
  exact HL20 7 (Nat.le_refl _) _ _ _ _ _ _ hF hP hS (lv_sub hl [1, 0] rfl)
set_option maxHeartbeats 4000000 in
set_option maxRecDepth 100000 in
theorem k1_copyFrom (l : Launch) (D : va_G) (base : Nat) (g : g_H) (a0 : Nat) (a1 : Nat) (gz : g_H) (hF : f1_copyFrom g a0 a1 = some gz) : Met l yX1_copyFrom wsX1_copyFrom ({ frames := 1, cells := 0, slots := 0, locals := 21 } : Room) (va_Pc [.ref a0, .ref a1] (gC base D g)) (gQv base D gz) 0 0 (gA base) := by
  refine g_met (cc := cX1_copyFrom) (maxL := 3) (ret := none) (lst := [(0, .ref a0), (1, .ref a1)]) (by decide) rfl (Nat.le_of_ble_eq_true rfl) rfl ?_
  intro p e s m args below meth c ls hx hb hr hml hown hlocks hname hts hE hP hl
  have hown : s.vm.findClass RX1 = some m.cls := hown
  have hK := hE.1
  have hov := hE.2.2.2.2.2.2.2.1
  have hbz := hE.2.2.2.2.2.2.2.2.2.2.2.2
  have hS : va_S (gA base) s.heap s.heap [] := va_S.rf
  have hiX1 : ∀ w ∈ wsX10, w ∈ wsX1_copyFrom := by decide +kernel
  have HL49 : ∀ (n49 : Nat), ∀ (g : g_H) (a0 : Nat) (a1 : Nat) (x2 : Int32) (H : Heap) (locs : List Loc) (ls : Array Slot), f1_copyFrom_49 n49 g a0 a1 x2 = some gz → gP base D s g H → va_S (gA base) s.heap H locs → lv_has ls 3 [(0, .ref a0), (1, .ref a1), (2, .int x2)] → W p l e ({ frames := 1, cells := 0, slots := 0, locals := 21 } : Room) s m args below meth c H locs 0 0 (MQ below (gQv base D gz) args s 0 0 (gA base)) (F0 m 49 ls []) := by
    intro n49
    induction n49 with
    | zero => intro g a0 a1 x2 H locs ls hF hP hS hl; exact g_no hF
    | succ n49 ih49 =>
      intro g a0 a1 x2 H locs ls hF hP hS hl
      have hF : f1_copyFrom_49b (f1_copyFrom_49 n49) g a0 a1 x2 = some gz := hF
      unfold f1_copyFrom_49b at hF
      refine lv_iload_n hx hb dX1_copyFrom_49 rfl (lv_at hl 2 rfl) ?_
      refine lv_aload_n hx hb dX1_copyFrom_50 rfl (lv_at hl 0 rfl) ?_
      obtain ⟨h6, hF⟩ := g_if hF
      refine g_get hx hb hts hiX1 hown hK hP 1 rfl (by decide) h6 4 (by decide) (hts (.fieldLink RX1 42 "CourierBees$Flight" "letterCount" "I") (by decide +kernel)) (fun _ h9 => h9) (gFv_i (Or.inl rfl)) dX1_copyFrom_51 ?_
      refine lv_icmp_ge (tgt := 78) hx hb dX1_copyFrom_54 (by decide) (fun c7 => ?_) (fun c7 => ?_)
      · have hF := g_t c7 hF
        refine lv_aload_n hx hb dX1_copyFrom_78 rfl (lv_at hl 0 rfl) ?_
        refine lv_aload_n hx hb dX1_copyFrom_79 rfl (lv_at hl 1 rfl) ?_
        obtain ⟨h8, hF⟩ := g_if hF
        refine g_get hx hb hts hiX1 hown hK hP 1 rfl (by decide) h8 5 (by decide) (hts (.fieldLink RX1 48 "CourierBees$Flight" "quarter" "I") (by decide +kernel)) (fun _ h9 => h9) (gFv_i (Or.inl rfl)) dX1_copyFrom_80 ?_
        refine g_puti hx hb hts hiX1 tyX1 tyX1_ok nmX1 hown hK hP hS 1 rfl (by decide) h6 5 (by decide) (hts (.fieldLink RX1 48 "CourierBees$Flight" "quarter" "I") (by decide +kernel)) (fun _ h9 => h9) (Or.inl rfl) (Or.inl rfl) rfl rfl dX1_copyFrom_83 (fun H locs hP hS => ?_)
        refine lv_aload_n hx hb dX1_copyFrom_86 rfl (lv_at hl 0 rfl) ?_
        refine lv_aload_n hx hb dX1_copyFrom_87 rfl (lv_at hl 1 rfl) ?_
        refine g_get hx hb hts hiX1 hown hK hP 1 rfl (by decide) h8 6 (by decide) (hts (.fieldLink RX1 51 "CourierBees$Flight" "arrivals" "I") (by decide +kernel)) (fun _ h9 => h9) (gFv_i (Or.inl rfl)) dX1_copyFrom_88 ?_
        obtain ⟨y9, e10, hF⟩ := g_let hF
        rw [e10]
        refine g_puti hx hb hts hiX1 tyX1 tyX1_ok nmX1 hown hK hP hS 1 rfl (by decide) h6 6 (by decide) (hts (.fieldLink RX1 51 "CourierBees$Flight" "arrivals" "I") (by decide +kernel)) (fun _ h9 => h9) (Or.inl rfl) (Or.inl rfl) rfl rfl dX1_copyFrom_91 (fun H locs hP hS => ?_)
        refine lv_aload_n hx hb dX1_copyFrom_94 rfl (lv_at hl 0 rfl) ?_
        refine lv_aload_n hx hb dX1_copyFrom_95 rfl (lv_at hl 1 rfl) ?_
        refine g_get hx hb hts hiX1 hown hK hP 1 rfl (by decide) h8 7 (by decide) (hts (.fieldLink RX1 31 "CourierBees$Flight" "openLane" "I") (by decide +kernel)) (fun _ h9 => h9) (gFv_i (Or.inl rfl)) dX1_copyFrom_96 ?_
        obtain ⟨y11, e12, hF⟩ := g_let hF
        rw [e12]
        refine g_puti hx hb hts hiX1 tyX1 tyX1_ok nmX1 hown hK hP hS 1 rfl (by decide) h6 7 (by decide) (hts (.fieldLink RX1 31 "CourierBees$Flight" "openLane" "I") (by decide +kernel)) (fun _ h9 => h9) (Or.inl rfl) (Or.inl rfl) rfl rfl dX1_copyFrom_99 (fun H locs hP hS => ?_)
        exact g_retV hx hb hr hlocks hF hP hS (Nat.le_of_ble_eq_true rfl) (Nat.le_of_ble_eq_true rfl) dX1_copyFrom_102
      · have hF := g_f c7 hF
        refine lv_aload_n hx hb dX1_copyFrom_57 rfl (lv_at hl 0 rfl) ?_
        obtain ⟨q13, hq14, hF⟩ := g_bind hF
        refine g_get hx hb hts hiX1 hown hK hP 1 rfl (by decide) h6 2 (by decide) (hts (.fieldLink RX1 26 "CourierBees$Flight" "letters" "[LCourierBees$Letter;") (by decide +kernel)) (fun _ h9 => h9) ((gFv_r (by decide)).trans (congrArg va_rf hq14)) dX1_copyFrom_58 ?_
        refine lv_iload_n hx hb dX1_copyFrom_61 rfl (lv_at hl 2 rfl) ?_
        obtain ⟨h15, hF⟩ := g_if hF
        obtain ⟨h16, hF⟩ := g_if hF
        obtain ⟨q17, hq18, hF⟩ := g_bind hF
        refine g_aald hx hb hP (g_pr h15) (by decide) h16 hq18 dX1_copyFrom_62 ?_
        refine lv_aload_n hx hb dX1_copyFrom_63 rfl (lv_at hl 1 rfl) ?_
        obtain ⟨h19, hF⟩ := g_if hF
        obtain ⟨q20, hq21, hF⟩ := g_bind hF
        refine g_get hx hb hts hiX1 hown hK hP 1 rfl (by decide) h19 2 (by decide) (hts (.fieldLink RX1 26 "CourierBees$Flight" "letters" "[LCourierBees$Letter;") (by decide +kernel)) (fun _ h9 => h9) ((gFv_r (by decide)).trans (congrArg va_rf hq21)) dX1_copyFrom_64 ?_
        refine lv_iload_n hx hb dX1_copyFrom_67 rfl (lv_at hl 2 rfl) ?_
        obtain ⟨h22, hF⟩ := g_if hF
        obtain ⟨h23, hF⟩ := g_if hF
        obtain ⟨q24, hq25, hF⟩ := g_bind hF
        refine g_aald hx hb hP (g_pr h22) (by decide) h23 hq25 dX1_copyFrom_68 ?_
        obtain ⟨h27, hF⟩ := g_if hF
        obtain ⟨g28, h26, hF⟩ := g_bind hF
        refine g_callv (va_runV (As := [.ref q24]) (rest := []) ⟨hx, hb, hml, hown, hts⟩ (k3_copyFrom l D base g q17 q24 g28 h26) (cwV 1 hts gX1_copyFrom_X3_copyFrom rfl rfl rfl (by decide +kernel) ⟨Nat.le_of_ble_eq_true rfl, Nat.le_of_ble_eq_true rfl⟩) (gC.preV hE hP hS 3 rfl (by decide) h27 [.ref q24]) rfl rfl hl.1 rfl (lv_room (Nat.le_of_ble_eq_true rfl)) dX1_copyFrom_69 ⟨(Nat.le_of_ble_eq_true rfl), (Nat.le_of_ble_eq_true rfl)⟩) hS (fun H locs hP hS => ?_)
        refine lv_iinc (v := x2 + (1 : Int32)) (lv' := [(2, .int (x2 + (1 : Int32))), (0, .ref a0), (1, .ref a1)]) hx hb dX1_copyFrom_72 hl (k := 2) rfl rfl (by decide) rfl (fun ls hl => ?_)
        refine lv_goto (tgt := 49) hx hb dX1_copyFrom_75 (by decide) ?_
        exact ih49 _ _ _ _ _ _ _ hF hP hS (lv_sub hl [1, 2, 0] rfl)
  have HL10 : ∀ (n10 : Nat), ∀ (g : g_H) (a0 : Nat) (a1 : Nat) (x2 : Int32) (H : Heap) (locs : List Loc) (ls : Array Slot), f1_copyFrom_10 n10 g a0 a1 x2 = some gz → gP base D s g H → va_S (gA base) s.heap H locs → lv_has ls 3 [(0, .ref a0), (1, .ref a1), (2, .int x2)] → W p l e ({ frames := 1, cells := 0, slots := 0, locals := 21 } : Room) s m args below meth c H locs 0 0 (MQ below (gQv base D gz) args s 0 0 (gA base)) (F0 m 10 ls []) := by
    intro n10
    induction n10 with
    | zero => intro g a0 a1 x2 H locs ls hF hP hS hl; exact g_no hF
    | succ n10 ih10 =>
      intro g a0 a1 x2 H locs ls hF hP hS hl
      have hF : f1_copyFrom_10b (f1_copyFrom_10 n10) g a0 a1 x2 = some gz := hF
      unfold f1_copyFrom_10b at hF
      refine lv_iload_n hx hb dX1_copyFrom_10 rfl (lv_at hl 2 rfl) ?_
      refine lv_aload_n hx hb dX1_copyFrom_11 rfl (lv_at hl 0 rfl) ?_
      obtain ⟨h3, hF⟩ := g_if hF
      refine g_get hx hb hts hiX1 hown hK hP 1 rfl (by decide) h3 3 (by decide) (hts (.fieldLink RX1 35 "CourierBees$Flight" "beeCount" "I") (by decide +kernel)) (fun _ h9 => h9) (gFv_i (Or.inl rfl)) dX1_copyFrom_12 ?_
      refine lv_icmp_ge (tgt := 39) hx hb dX1_copyFrom_15 (by decide) (fun c4 => ?_) (fun c4 => ?_)
      · have hF := g_t c4 hF
        refine lv_aload_n hx hb dX1_copyFrom_39 rfl (lv_at hl 0 rfl) ?_
        refine lv_aload_n hx hb dX1_copyFrom_40 rfl (lv_at hl 1 rfl) ?_
        obtain ⟨h5, hF⟩ := g_if hF
        refine g_get hx hb hts hiX1 hown hK hP 1 rfl (by decide) h5 4 (by decide) (hts (.fieldLink RX1 42 "CourierBees$Flight" "letterCount" "I") (by decide +kernel)) (fun _ h9 => h9) (gFv_i (Or.inl rfl)) dX1_copyFrom_41 ?_
        refine g_puti hx hb hts hiX1 tyX1 tyX1_ok nmX1 hown hK hP hS 1 rfl (by decide) h3 4 (by decide) (hts (.fieldLink RX1 42 "CourierBees$Flight" "letterCount" "I") (by decide +kernel)) (fun _ h9 => h9) (Or.inl rfl) (Or.inl rfl) rfl rfl dX1_copyFrom_44 (fun H locs hP hS => ?_)
        refine lv_iconst (v := 0) hx hb dX1_copyFrom_47 (by decide) ?_
        refine lv_istore_n (lv' := [(2, .int ((0 : Int32))), (0, .ref a0), (1, .ref a1)]) hx hb dX1_copyFrom_48 rfl hl (by decide) rfl (fun ls hl => ?_)
        exact HL49 300 _ _ _ _ _ _ _ hF hP hS (lv_sub hl [1, 2, 0] rfl)
      · have hF := g_f c4 hF
        refine lv_aload_n hx hb dX1_copyFrom_18 rfl (lv_at hl 0 rfl) ?_
        obtain ⟨q30, hq31, hF⟩ := g_bind hF
        refine g_get hx hb hts hiX1 hown hK hP 1 rfl (by decide) h3 1 (by decide) (hts (.fieldLink RX1 17 "CourierBees$Flight" "bees" "[LCourierBees$Bee;") (by decide +kernel)) (fun _ h9 => h9) ((gFv_r (by decide)).trans (congrArg va_rf hq31)) dX1_copyFrom_19 ?_
        refine lv_iload_n hx hb dX1_copyFrom_22 rfl (lv_at hl 2 rfl) ?_
        obtain ⟨h32, hF⟩ := g_if hF
        obtain ⟨h33, hF⟩ := g_if hF
        obtain ⟨q34, hq35, hF⟩ := g_bind hF
        refine g_aald hx hb hP (g_pr h32) (by decide) h33 hq35 dX1_copyFrom_23 ?_
        refine lv_aload_n hx hb dX1_copyFrom_24 rfl (lv_at hl 1 rfl) ?_
        obtain ⟨h36, hF⟩ := g_if hF
        obtain ⟨q37, hq38, hF⟩ := g_bind hF
        refine g_get hx hb hts hiX1 hown hK hP 1 rfl (by decide) h36 1 (by decide) (hts (.fieldLink RX1 17 "CourierBees$Flight" "bees" "[LCourierBees$Bee;") (by decide +kernel)) (fun _ h9 => h9) ((gFv_r (by decide)).trans (congrArg va_rf hq38)) dX1_copyFrom_25 ?_
        refine lv_iload_n hx hb dX1_copyFrom_28 rfl (lv_at hl 2 rfl) ?_
        obtain ⟨h39, hF⟩ := g_if hF
        obtain ⟨h40, hF⟩ := g_if hF
        obtain ⟨q41, hq42, hF⟩ := g_bind hF
        refine g_aald hx hb hP (g_pr h39) (by decide) h40 hq42 dX1_copyFrom_29 ?_
        obtain ⟨h44, hF⟩ := g_if hF
        obtain ⟨g45, h43, hF⟩ := g_bind hF
        refine g_callv (va_runV (As := [.ref q41]) (rest := []) ⟨hx, hb, hml, hown, hts⟩ (k0_copyFrom l D base g q34 q41 g45 h43) (cwV 1 hts gX1_copyFrom_X0_copyFrom rfl rfl rfl (by decide +kernel) ⟨Nat.le_of_ble_eq_true rfl, Nat.le_of_ble_eq_true rfl⟩) (gC.preV hE hP hS 0 rfl (by decide) h44 [.ref q41]) rfl rfl hl.1 rfl (lv_room (Nat.le_of_ble_eq_true rfl)) dX1_copyFrom_30 ⟨(Nat.le_of_ble_eq_true rfl), (Nat.le_of_ble_eq_true rfl)⟩) hS (fun H locs hP hS => ?_)
        refine lv_iinc (v := x2 + (1 : Int32)) (lv' := [(2, .int (x2 + (1 : Int32))), (0, .ref a0), (1, .ref a1)]) hx hb dX1_copyFrom_33 hl (k := 2) rfl rfl (by decide) rfl (fun ls hl => ?_)
        refine lv_goto (tgt := 10) hx hb dX1_copyFrom_36 (by decide) ?_
        exact ih10 _ _ _ _ _ _ _ hF hP hS (lv_sub hl [1, 2, 0] rfl)
  unfold f1_copyFrom at hF
  refine lv_aload_n hx hb dX1_copyFrom_0 rfl (lv_at hl 0 rfl) ?_
  refine lv_aload_n hx hb dX1_copyFrom_1 rfl (lv_at hl 1 rfl) ?_
  obtain ⟨h1, hF⟩ := g_if hF
  refine g_get hx hb hts hiX1 hown hK hP 1 rfl (by decide) h1 3 (by decide) (hts (.fieldLink RX1 35 "CourierBees$Flight" "beeCount" "I") (by decide +kernel)) (fun _ h9 => h9) (gFv_i (Or.inl rfl)) dX1_copyFrom_2 ?_
  obtain ⟨h2, hF⟩ := g_if hF
  refine g_puti hx hb hts hiX1 tyX1 tyX1_ok nmX1 hown hK hP hS 1 rfl (by decide) h2 3 (by decide) (hts (.fieldLink RX1 35 "CourierBees$Flight" "beeCount" "I") (by decide +kernel)) (fun _ h9 => h9) (Or.inl rfl) (Or.inl rfl) rfl rfl dX1_copyFrom_5 (fun H locs hP hS => ?_)
  refine lv_iconst (v := 0) hx hb dX1_copyFrom_8 (by decide) ?_
  refine lv_istore_n (lv' := [(2, .int ((0 : Int32))), (0, .ref a0), (1, .ref a1)]) hx hb dX1_copyFrom_9 rfl hl (by decide) rfl (fun ls hl => ?_)
  exact HL10 300 _ _ _ _ _ _ _ hF hP hS (lv_sub hl [1, 2, 0] rfl)
set_option maxHeartbeats 4000000 in
set_option maxRecDepth 100000 in
theorem k1_carriedLetters (l : Launch) (D : va_G) (base : Nat) (g : g_H) (a0 : Nat) (rr : Int32) (gz : g_H) (hF : f1_carriedLetters g a0 = some (rr, gz)) : Met l yX1_carriedLetters wsX1_carriedLetters ({ frames := 0, cells := 0, slots := 0, locals := 0 } : Room) (va_Pc [.ref a0] (gC base D g)) (gQi base D rr gz) 0 0 (gA base) := by
  refine g_met (cc := cX1_carriedLetters) (maxL := 3) (ret := (some .int)) (lst := [(0, .ref a0)]) (by decide) rfl (Nat.le_of_ble_eq_true rfl) rfl ?_
  intro p e s m args below meth c ls hx hb hr hml hown hlocks hname hts hE hP hl
  have hown : s.vm.findClass RX1 = some m.cls := hown
  have hK := hE.1
  have hov := hE.2.2.2.2.2.2.2.1
  have hbz := hE.2.2.2.2.2.2.2.2.2.2.2.2
  have hS : va_S (gA base) s.heap s.heap [] := va_S.rf
  have hiX0 : ∀ w ∈ wsX00, w ∈ wsX1_carriedLetters := by decide +kernel
  have hiX1 : ∀ w ∈ wsX10, w ∈ wsX1_carriedLetters := by decide +kernel
  have HL4 : ∀ (n4 : Nat), ∀ (g : g_H) (a0 : Nat) (x1 : Int32) (x2 : Int32) (H : Heap) (locs : List Loc) (ls : Array Slot), f1_carriedLetters_4 n4 g a0 x1 x2 = some (rr, gz) → gP base D s g H → va_S (gA base) s.heap H locs → lv_has ls 3 [(0, .ref a0), (1, .int x1), (2, .int x2)] → W p l e ({ frames := 0, cells := 0, slots := 0, locals := 0 } : Room) s m args below meth c H locs 0 0 (MQ below (gQi base D rr gz) args s 0 0 (gA base)) (F0 m 4 ls []) := by
    intro n4
    induction n4 with
    | zero => intro g a0 x1 x2 H locs ls hF hP hS hl; exact g_no hF
    | succ n4 ih4 =>
      intro g a0 x1 x2 H locs ls hF hP hS hl
      have hF : f1_carriedLetters_4b (f1_carriedLetters_4 n4) g a0 x1 x2 = some (rr, gz) := hF
      unfold f1_carriedLetters_4b at hF
      refine lv_iload_n hx hb dX1_carriedLetters_4 rfl (lv_at hl 2 rfl) ?_
      refine lv_aload_n hx hb dX1_carriedLetters_5 rfl (lv_at hl 0 rfl) ?_
      obtain ⟨h1, hF⟩ := g_if hF
      refine g_get hx hb hts hiX1 hown hK hP 1 rfl (by decide) h1 3 (by decide) (hts (.fieldLink RX1 35 "CourierBees$Flight" "beeCount" "I") (by decide +kernel)) (fun _ h9 => h9) (gFv_i (Or.inl rfl)) dX1_carriedLetters_6 ?_
      refine lv_icmp_ge (tgt := 30) hx hb dX1_carriedLetters_9 (by decide) (fun c2 => ?_) (fun c2 => ?_)
      · have hF := g_t c2 hF
        refine lv_iload_n hx hb dX1_carriedLetters_30 rfl (lv_at hl 1 rfl) ?_
        exact g_retI hx hb hr hlocks hF hP hS (Nat.le_of_ble_eq_true rfl) (Nat.le_of_ble_eq_true rfl) dX1_carriedLetters_31
      · have hF := g_f c2 hF
        refine lv_iload_n hx hb dX1_carriedLetters_12 rfl (lv_at hl 1 rfl) ?_
        refine lv_aload_n hx hb dX1_carriedLetters_13 rfl (lv_at hl 0 rfl) ?_
        obtain ⟨q3, hq4, hF⟩ := g_bind hF
        refine g_get hx hb hts hiX1 hown hK hP 1 rfl (by decide) h1 1 (by decide) (hts (.fieldLink RX1 17 "CourierBees$Flight" "bees" "[LCourierBees$Bee;") (by decide +kernel)) (fun _ h9 => h9) ((gFv_r (by decide)).trans (congrArg va_rf hq4)) dX1_carriedLetters_14 ?_
        refine lv_iload_n hx hb dX1_carriedLetters_17 rfl (lv_at hl 2 rfl) ?_
        obtain ⟨h5, hF⟩ := g_if hF
        obtain ⟨h6, hF⟩ := g_if hF
        obtain ⟨q7, hq8, hF⟩ := g_bind hF
        refine g_aald hx hb hP (g_pr h5) (by decide) h6 hq8 dX1_carriedLetters_18 ?_
        obtain ⟨h9, hF⟩ := g_if hF
        refine g_get hx hb hts hiX0 hown hK hP 0 rfl (by decide) h9 6 (by decide) (hts (.fieldLink RX1 54 "CourierBees$Bee" "carries" "I") (by decide +kernel)) (fun _ h9 => h9) (gFv_i (Or.inl rfl)) dX1_carriedLetters_19 ?_
        refine lv_iadd hx hb dX1_carriedLetters_22 ?_
        refine lv_istore_n (lv' := [(1, .int (x1 + (gI g q7 6))), (0, .ref a0), (2, .int x2)]) hx hb dX1_carriedLetters_23 rfl hl (by decide) rfl (fun ls hl => ?_)
        refine lv_iinc (v := x2 + (1 : Int32)) (lv' := [(2, .int (x2 + (1 : Int32))), (1, .int (x1 + (gI g q7 6))), (0, .ref a0)]) hx hb dX1_carriedLetters_24 hl (k := 2) rfl rfl (by decide) rfl (fun ls hl => ?_)
        refine lv_goto (tgt := 4) hx hb dX1_carriedLetters_27 (by decide) ?_
        exact ih4 _ _ _ _ _ _ _ hF hP hS (lv_sub hl [2, 1, 0] rfl)
  unfold f1_carriedLetters at hF
  refine lv_iconst (v := 0) hx hb dX1_carriedLetters_0 (by decide) ?_
  refine lv_istore_n (lv' := [(1, .int ((0 : Int32))), (0, .ref a0)]) hx hb dX1_carriedLetters_1 rfl hl (by decide) rfl (fun ls hl => ?_)
  refine lv_iconst (v := 0) hx hb dX1_carriedLetters_2 (by decide) ?_
  refine lv_istore_n (lv' := [(2, .int ((0 : Int32))), (1, .int ((0 : Int32))), (0, .ref a0)]) hx hb dX1_carriedLetters_3 rfl hl (by decide) rfl (fun ls hl => ?_)
  exact HL4 300 _ _ _ _ _ _ _ hF hP hS (lv_sub hl [2, 1, 0] rfl)
set_option maxHeartbeats 4000000 in
set_option maxRecDepth 100000 in
theorem k1_restingBees (l : Launch) (D : va_G) (base : Nat) (g : g_H) (a0 : Nat) (rr : Int32) (gz : g_H) (hF : f1_restingBees g a0 = some (rr, gz)) : Met l yX1_restingBees wsX1_restingBees ({ frames := 0, cells := 0, slots := 0, locals := 0 } : Room) (va_Pc [.ref a0] (gC base D g)) (gQi base D rr gz) 0 0 (gA base) := by
  refine g_met (cc := cX1_restingBees) (maxL := 3) (ret := (some .int)) (lst := [(0, .ref a0)]) (by decide) rfl (Nat.le_of_ble_eq_true rfl) rfl ?_
  intro p e s m args below meth c ls hx hb hr hml hown hlocks hname hts hE hP hl
  have hown : s.vm.findClass RX1 = some m.cls := hown
  have hK := hE.1
  have hov := hE.2.2.2.2.2.2.2.1
  have hbz := hE.2.2.2.2.2.2.2.2.2.2.2.2
  have hS : va_S (gA base) s.heap s.heap [] := va_S.rf
  have hiX0 : ∀ w ∈ wsX00, w ∈ wsX1_restingBees := by decide +kernel
  have hiX1 : ∀ w ∈ wsX10, w ∈ wsX1_restingBees := by decide +kernel
  have HL4 : ∀ (n4 : Nat), ∀ (g : g_H) (a0 : Nat) (x1 : Int32) (x2 : Int32) (H : Heap) (locs : List Loc) (ls : Array Slot), f1_restingBees_4 n4 g a0 x1 x2 = some (rr, gz) → gP base D s g H → va_S (gA base) s.heap H locs → lv_has ls 3 [(0, .ref a0), (1, .int x1), (2, .int x2)] → W p l e ({ frames := 0, cells := 0, slots := 0, locals := 0 } : Room) s m args below meth c H locs 0 0 (MQ below (gQi base D rr gz) args s 0 0 (gA base)) (F0 m 4 ls []) := by
    intro n4
    induction n4 with
    | zero => intro g a0 x1 x2 H locs ls hF hP hS hl; exact g_no hF
    | succ n4 ih4 =>
      have HB27 : ∀ (g : g_H) (a0 : Nat) (x1 : Int32) (x2 : Int32) (H : Heap) (locs : List Loc) (ls : Array Slot), f1_restingBees_27 (f1_restingBees_4 n4) g a0 x1 x2 = some (rr, gz) → gP base D s g H → va_S (gA base) s.heap H locs → lv_has ls 3 [(0, .ref a0), (1, .int x1), (2, .int x2)] → W p l e ({ frames := 0, cells := 0, slots := 0, locals := 0 } : Room) s m args below meth c H locs 0 0 (MQ below (gQi base D rr gz) args s 0 0 (gA base)) (F0 m 27 ls []) := by
        intro g a0 x1 x2 H locs ls hF hP hS hl
        unfold f1_restingBees_27 at hF
        refine lv_iinc (v := x2 + (1 : Int32)) (lv' := [(2, .int (x2 + (1 : Int32))), (0, .ref a0), (1, .int x1)]) hx hb dX1_restingBees_27 hl (k := 2) rfl rfl (by decide) rfl (fun ls hl => ?_)
        refine lv_goto (tgt := 4) hx hb dX1_restingBees_30 (by decide) ?_
        exact ih4 _ _ _ _ _ _ _ hF hP hS (lv_sub hl [1, 2, 0] rfl)
      intro g a0 x1 x2 H locs ls hF hP hS hl
      have hF : f1_restingBees_4b (f1_restingBees_4 n4) g a0 x1 x2 = some (rr, gz) := hF
      unfold f1_restingBees_4b at hF
      refine lv_iload_n hx hb dX1_restingBees_4 rfl (lv_at hl 2 rfl) ?_
      refine lv_aload_n hx hb dX1_restingBees_5 rfl (lv_at hl 0 rfl) ?_
      obtain ⟨h1, hF⟩ := g_if hF
      refine g_get hx hb hts hiX1 hown hK hP 1 rfl (by decide) h1 3 (by decide) (hts (.fieldLink RX1 35 "CourierBees$Flight" "beeCount" "I") (by decide +kernel)) (fun _ h9 => h9) (gFv_i (Or.inl rfl)) dX1_restingBees_6 ?_
      refine lv_icmp_ge (tgt := 33) hx hb dX1_restingBees_9 (by decide) (fun c2 => ?_) (fun c2 => ?_)
      · have hF := g_t c2 hF
        refine lv_iload_n hx hb dX1_restingBees_33 rfl (lv_at hl 1 rfl) ?_
        exact g_retI hx hb hr hlocks hF hP hS (Nat.le_of_ble_eq_true rfl) (Nat.le_of_ble_eq_true rfl) dX1_restingBees_34
      · have hF := g_f c2 hF
        refine lv_aload_n hx hb dX1_restingBees_12 rfl (lv_at hl 0 rfl) ?_
        obtain ⟨q3, hq4, hF⟩ := g_bind hF
        refine g_get hx hb hts hiX1 hown hK hP 1 rfl (by decide) h1 1 (by decide) (hts (.fieldLink RX1 17 "CourierBees$Flight" "bees" "[LCourierBees$Bee;") (by decide +kernel)) (fun _ h9 => h9) ((gFv_r (by decide)).trans (congrArg va_rf hq4)) dX1_restingBees_13 ?_
        refine lv_iload_n hx hb dX1_restingBees_16 rfl (lv_at hl 2 rfl) ?_
        obtain ⟨h5, hF⟩ := g_if hF
        obtain ⟨h6, hF⟩ := g_if hF
        obtain ⟨q7, hq8, hF⟩ := g_bind hF
        refine g_aald hx hb hP (g_pr h5) (by decide) h6 hq8 dX1_restingBees_17 ?_
        obtain ⟨h9, hF⟩ := g_if hF
        refine g_get hx hb hts hiX0 hown hK hP 0 rfl (by decide) h9 7 (by decide) (hts (.fieldLink RX1 57 "CourierBees$Bee" "rests" "Z") (by decide +kernel)) (fun _ h9 => h9) (gFv_i (Or.inr rfl)) dX1_restingBees_18 ?_
        refine lv_if_eq (tgt := 27) hx hb dX1_restingBees_21 (by decide) (fun c10 => ?_) (fun c10 => ?_)
        · have hF := g_t c10 hF
          exact HB27 _ _ _ _ _ _ _ hF hP hS (lv_sub hl [0, 1, 2] rfl)
        · have hF := g_f c10 hF
          refine lv_iinc (v := x1 + (1 : Int32)) (lv' := [(1, .int (x1 + (1 : Int32))), (0, .ref a0), (2, .int x2)]) hx hb dX1_restingBees_24 hl (k := 1) rfl rfl (by decide) rfl (fun ls hl => ?_)
          exact HB27 _ _ _ _ _ _ _ hF hP hS (lv_sub hl [1, 0, 2] rfl)
  unfold f1_restingBees at hF
  refine lv_iconst (v := 0) hx hb dX1_restingBees_0 (by decide) ?_
  refine lv_istore_n (lv' := [(1, .int ((0 : Int32))), (0, .ref a0)]) hx hb dX1_restingBees_1 rfl hl (by decide) rfl (fun ls hl => ?_)
  refine lv_iconst (v := 0) hx hb dX1_restingBees_2 (by decide) ?_
  refine lv_istore_n (lv' := [(2, .int ((0 : Int32))), (1, .int ((0 : Int32))), (0, .ref a0)]) hx hb dX1_restingBees_3 rfl hl (by decide) rfl (fun ls hl => ?_)
  exact HL4 300 _ _ _ _ _ _ _ hF hP hS (lv_sub hl [2, 1, 0] rfl)
set_option maxHeartbeats 4000000 in
set_option maxRecDepth 100000 in
theorem k1_handOver (l : Launch) (D : va_G) (base : Nat) (g : g_H) (a0 : Nat) (a1 : Nat) (x2 : Int32) (gz : g_H) (hF : f1_handOver g a0 a1 x2 = some gz) : Met l yX1_handOver wsX1_handOver ({ frames := 3, cells := 0, slots := 0, locals := 67 } : Room) (va_Pc [.ref a0, .ref a1, .int x2] (gC base D g)) (gQv base D gz) 0 0 (gA base) := by
  refine g_met (cc := cX1_handOver) (maxL := 5) (ret := none) (lst := [(0, .ref a0), (1, .ref a1), (2, .int x2)]) (by decide) rfl (Nat.le_of_ble_eq_true rfl) rfl ?_
  intro p e s m args below meth c ls hx hb hr hml hown hlocks hname hts hE hP hl
  have hown : s.vm.findClass RX1 = some m.cls := hown
  have hK := hE.1
  have hov := hE.2.2.2.2.2.2.2.1
  have hbz := hE.2.2.2.2.2.2.2.2.2.2.2.2
  have hS : va_S (gA base) s.heap s.heap [] := va_S.rf
  have hiX0 : ∀ w ∈ wsX00, w ∈ wsX1_handOver := by decide +kernel
  have hiX1 : ∀ w ∈ wsX10, w ∈ wsX1_handOver := by decide +kernel
  have hiX3 : ∀ w ∈ wsX30, w ∈ wsX1_handOver := by decide +kernel
  have HL2 : ∀ (n2 : Nat), ∀ (g : g_H) (a0 : Nat) (a1 : Nat) (x2 : Int32) (x3 : Int32) (H : Heap) (locs : List Loc) (ls : Array Slot), f1_handOver_2 n2 g a0 a1 x2 x3 = some gz → gP base D s g H → va_S (gA base) s.heap H locs → lv_has ls 5 [(0, .ref a0), (1, .ref a1), (2, .int x2), (3, .int x3)] → W p l e ({ frames := 3, cells := 0, slots := 0, locals := 67 } : Room) s m args below meth c H locs 0 0 (MQ below (gQv base D gz) args s 0 0 (gA base)) (F0 m 2 ls []) := by
    intro n2
    induction n2 with
    | zero => intro g a0 a1 x2 x3 H locs ls hF hP hS hl; exact g_no hF
    | succ n2 ih2 =>
      have HB91 : ∀ (g : g_H) (a0 : Nat) (a1 : Nat) (x2 : Int32) (x3 : Int32) (H : Heap) (locs : List Loc) (ls : Array Slot), f1_handOver_91 (f1_handOver_2 n2) g a0 a1 x2 x3 = some gz → gP base D s g H → va_S (gA base) s.heap H locs → lv_has ls 5 [(0, .ref a0), (1, .ref a1), (2, .int x2), (3, .int x3)] → W p l e ({ frames := 3, cells := 0, slots := 0, locals := 67 } : Room) s m args below meth c H locs 0 0 (MQ below (gQv base D gz) args s 0 0 (gA base)) (F0 m 91 ls []) := by
        intro g a0 a1 x2 x3 H locs ls hF hP hS hl
        unfold f1_handOver_91 at hF
        refine lv_iinc (v := x3 + (1 : Int32)) (lv' := [(3, .int (x3 + (1 : Int32))), (0, .ref a0), (1, .ref a1), (2, .int x2)]) hx hb dX1_handOver_91 hl (k := 3) rfl rfl (by decide) rfl (fun ls hl => ?_)
        refine lv_goto (tgt := 2) hx hb dX1_handOver_94 (by decide) ?_
        exact ih2 _ _ _ _ _ _ _ _ hF hP hS (lv_sub hl [1, 2, 3, 0] rfl)
      intro g a0 a1 x2 x3 H locs ls hF hP hS hl
      have hF : f1_handOver_2b (f1_handOver_2 n2) g a0 a1 x2 x3 = some gz := hF
      unfold f1_handOver_2b at hF
      refine lv_iload_n hx hb dX1_handOver_2 rfl (lv_at hl 3 rfl) ?_
      refine lv_aload_n hx hb dX1_handOver_3 rfl (lv_at hl 0 rfl) ?_
      obtain ⟨h1, hF⟩ := g_if hF
      refine g_get hx hb hts hiX1 hown hK hP 1 rfl (by decide) h1 4 (by decide) (hts (.fieldLink RX1 42 "CourierBees$Flight" "letterCount" "I") (by decide +kernel)) (fun _ h9 => h9) (gFv_i (Or.inl rfl)) dX1_handOver_4 ?_
      refine lv_icmp_ge (tgt := 97) hx hb dX1_handOver_7 (by decide) (fun c2 => ?_) (fun c2 => ?_)
      · have hF := g_t c2 hF
        exact g_retV hx hb hr hlocks hF hP hS (Nat.le_of_ble_eq_true rfl) (Nat.le_of_ble_eq_true rfl) dX1_handOver_97
      · have hF := g_f c2 hF
        refine lv_aload_n hx hb dX1_handOver_10 rfl (lv_at hl 1 rfl) ?_
        obtain ⟨h3, hF⟩ := g_if hF
        refine g_get hx hb hts hiX0 hown hK hP 0 rfl (by decide) h3 6 (by decide) (hts (.fieldLink RX1 54 "CourierBees$Bee" "carries" "I") (by decide +kernel)) (fun _ h9 => h9) (gFv_i (Or.inl rfl)) dX1_handOver_11 ?_
        refine lv_if_le (tgt := 97) hx hb dX1_handOver_14 (by decide) (fun c4 => ?_) (fun c4 => ?_)
        · have hF := g_t c4 hF
          exact g_retV hx hb hr hlocks hF hP hS (Nat.le_of_ble_eq_true rfl) (Nat.le_of_ble_eq_true rfl) dX1_handOver_97
        · have hF := g_f c4 hF
          refine lv_aload_n hx hb dX1_handOver_17 rfl (lv_at hl 0 rfl) ?_
          obtain ⟨q5, hq6, hF⟩ := g_bind hF
          refine g_get hx hb hts hiX1 hown hK hP 1 rfl (by decide) h1 2 (by decide) (hts (.fieldLink RX1 26 "CourierBees$Flight" "letters" "[LCourierBees$Letter;") (by decide +kernel)) (fun _ h9 => h9) ((gFv_r (by decide)).trans (congrArg va_rf hq6)) dX1_handOver_18 ?_
          refine lv_iload_n hx hb dX1_handOver_21 rfl (lv_at hl 3 rfl) ?_
          obtain ⟨h7, hF⟩ := g_if hF
          obtain ⟨h8, hF⟩ := g_if hF
          obtain ⟨q9, hq10, hF⟩ := g_bind hF
          refine g_aald hx hb hP (g_pr h7) (by decide) h8 hq10 dX1_handOver_22 ?_
          refine lv_astore (lv' := [(4, .ref q9), (0, .ref a0), (1, .ref a1), (2, .int x2), (3, .int x3)]) hx hb dX1_handOver_23 hl (by decide) rfl (fun ls hl => ?_)
          refine lv_aload hx hb dX1_handOver_25 (lv_at hl 0 rfl) ?_
          obtain ⟨h11, hF⟩ := g_if hF
          refine g_get hx hb hts hiX3 hown hK hP 3 rfl (by decide) h11 2 (by decide) (hts (.fieldLink RX1 81 "CourierBees$Letter" "carrier" "I") (by decide +kernel)) (fun _ h9 => h9) (gFv_i (Or.inl rfl)) dX1_handOver_27 ?_
          refine lv_aload_n hx hb dX1_handOver_30 rfl (lv_at hl 2 rfl) ?_
          refine g_get hx hb hts hiX0 hown hK hP 0 rfl (by decide) h3 0 (by decide) (hts (.fieldLink RX1 84 "CourierBees$Bee" "number" "I") (by decide +kernel)) (fun _ h9 => h9) (gFv_i (Or.inl rfl)) dX1_handOver_31 ?_
          refine lv_icmp_ne (tgt := 91) hx hb dX1_handOver_34 (by decide) (fun c12 => ?_) (fun c12 => ?_)
          · have hF := g_f c12 hF
            exact HB91 _ _ _ _ _ _ _ _ hF hP hS (lv_sub hl [1, 2, 3, 4] rfl)
          · have hF := g_t c12 hF
            refine lv_aload hx hb dX1_handOver_37 (lv_at hl 0 rfl) ?_
            refine g_get hx hb hts hiX3 hown hK hP 3 rfl (by decide) h11 0 (by decide) (hts (.fieldLink RX1 87 "CourierBees$Letter" "to" "I") (by decide +kernel)) (fun _ h9 => h9) (gFv_i (Or.inl rfl)) dX1_handOver_39 ?_
            refine lv_iload_n hx hb dX1_handOver_42 rfl (lv_at hl 3 rfl) ?_
            refine lv_icmp_ne (tgt := 69) hx hb dX1_handOver_43 (by decide) (fun c13 => ?_) (fun c13 => ?_)
            · have hF := g_f c13 hF
              refine lv_aload_n hx hb dX1_handOver_69 rfl (lv_at hl 2 rfl) ?_
              obtain ⟨q14, hq15, hF⟩ := g_bind hF
              refine g_get hx hb hts hiX0 hown hK hP 0 rfl (by decide) h3 1 (by decide) (hts (.fieldLink RX1 94 "CourierBees$Bee" "route" "LCourierBees$Route;") (by decide +kernel)) (fun _ h9 => h9) ((gFv_r (by decide)).trans (congrArg va_rf hq15)) dX1_handOver_70 ?_
              refine lv_aload hx hb dX1_handOver_73 (lv_at hl 0 rfl) ?_
              refine g_get hx hb hts hiX3 hown hK hP 3 rfl (by decide) h11 0 (by decide) (hts (.fieldLink RX1 87 "CourierBees$Letter" "to" "I") (by decide +kernel)) (fun _ h9 => h9) (gFv_i (Or.inl rfl)) dX1_handOver_75 ?_
              obtain ⟨h17, hF⟩ := g_if hF
              obtain ⟨v19, g18, h16, hF⟩ := g_bind2 hF
              refine g_calli (va_runV (As := [.int (gI g q9 0)]) (rest := []) ⟨hx, hb, hml, hown, hts⟩ (k4_targetFor l D base g q14 (gI g q9 0) v19 g18 h16) (cwV 1 hts gX1_handOver_X4_targetFor rfl rfl rfl (by decide +kernel) ⟨Nat.le_of_ble_eq_true rfl, Nat.le_of_ble_eq_true rfl⟩) (gC.preV hE hP hS 4 rfl (by decide) h17 [.int (gI g q9 0)]) rfl rfl hl.1 rfl (lv_room (Nat.le_of_ble_eq_true rfl)) dX1_handOver_78 ⟨(Nat.le_of_ble_eq_true rfl), (Nat.le_of_ble_eq_true rfl)⟩) hS (fun H locs hP hS => ?_)
              refine lv_iload_n hx hb dX1_handOver_81 rfl (lv_at hl 3 rfl) ?_
              refine lv_icmp_ne (tgt := 91) hx hb dX1_handOver_82 (by decide) (fun c20 => ?_) (fun c20 => ?_)
              · have hF := g_f c20 hF
                exact HB91 _ _ _ _ _ _ _ _ hF hP hS (lv_sub hl [1, 2, 3, 4] rfl)
              · have hF := g_t c20 hF
                refine lv_aload_n hx hb dX1_handOver_85 rfl (lv_at hl 2 rfl) ?_
                refine lv_aload hx hb dX1_handOver_86 (lv_at hl 0 rfl) ?_
                obtain ⟨h22, hF⟩ := g_if hF
                obtain ⟨g23, h21, hF⟩ := g_bind hF
                refine g_callv (va_runV (As := [.ref q9]) (rest := []) ⟨hx, hb, hml, hown, hts⟩ (k0_layDown l D base g18 a1 q9 g23 h21) (cwV 1 hts gX1_handOver_X0_layDown rfl rfl rfl (by decide +kernel) ⟨Nat.le_of_ble_eq_true rfl, Nat.le_of_ble_eq_true rfl⟩) (gC.preV hE hP hS 0 rfl (by decide) h22 [.ref q9]) rfl rfl hl.1 rfl (lv_room (Nat.le_of_ble_eq_true rfl)) dX1_handOver_88 ⟨(Nat.le_of_ble_eq_true rfl), (Nat.le_of_ble_eq_true rfl)⟩) hS (fun H locs hP hS => ?_)
                exact HB91 _ _ _ _ _ _ _ _ hF hP hS (lv_sub hl [1, 2, 3, 4] rfl)
            · have hF := g_t c13 hF
              refine lv_aload_n hx hb dX1_handOver_46 rfl (lv_at hl 2 rfl) ?_
              refine lv_aload hx hb dX1_handOver_47 (lv_at hl 0 rfl) ?_
              refine lv_aload_n hx hb dX1_handOver_49 rfl (lv_at hl 1 rfl) ?_
              refine g_get hx hb hts hiX1 hown hK hP 1 rfl (by decide) h1 5 (by decide) (hts (.fieldLink RX1 48 "CourierBees$Flight" "quarter" "I") (by decide +kernel)) (fun _ h9 => h9) (gFv_i (Or.inl rfl)) dX1_handOver_50 ?_
              obtain ⟨g26, h25, hF⟩ := g_bind hF
              refine g_callv (va_runV (As := [.ref q9, .int (gI g a0 5)]) (rest := []) ⟨hx, hb, hml, hown, hts⟩ (k0_deliver l D base g a1 q9 (gI g a0 5) g26 h25) (cwV 2 hts gX1_handOver_X0_deliver rfl rfl rfl (by decide +kernel) ⟨Nat.le_of_ble_eq_true rfl, Nat.le_of_ble_eq_true rfl⟩) (gC.preV hE hP hS 0 rfl (by decide) h3 [.ref q9, .int (gI g a0 5)]) rfl rfl hl.1 rfl (lv_room (Nat.le_of_ble_eq_true rfl)) dX1_handOver_53 ⟨(Nat.le_of_ble_eq_true rfl), (Nat.le_of_ble_eq_true rfl)⟩) hS (fun H locs hP hS => ?_)
              refine lv_aload_n hx hb dX1_handOver_56 rfl (lv_at hl 1 rfl) ?_
              refine lv_dup hx hb dX1_handOver_57 rfl ?_
              obtain ⟨h28, hF⟩ := g_if hF
              refine g_get hx hb hts hiX1 hown hK hP 1 rfl (by decide) h28 6 (by decide) (hts (.fieldLink RX1 51 "CourierBees$Flight" "arrivals" "I") (by decide +kernel)) (fun _ h9 => h9) (gFv_i (Or.inl rfl)) dX1_handOver_58 ?_
              refine lv_iconst (v := 1) hx hb dX1_handOver_61 (by decide) ?_
              refine lv_iadd hx hb dX1_handOver_62 ?_
              obtain ⟨y29, e30, hF⟩ := g_let hF
              rw [e30]
              refine g_puti hx hb hts hiX1 tyX1 tyX1_ok nmX1 hown hK hP hS 1 rfl (by decide) h28 6 (by decide) (hts (.fieldLink RX1 51 "CourierBees$Flight" "arrivals" "I") (by decide +kernel)) (fun _ h9 => h9) (Or.inl rfl) (Or.inl rfl) rfl rfl dX1_handOver_63 (fun H locs hP hS => ?_)
              refine lv_goto (tgt := 91) hx hb dX1_handOver_66 (by decide) ?_
              exact HB91 _ _ _ _ _ _ _ _ hF hP hS (lv_sub hl [1, 2, 3, 4] rfl)
  unfold f1_handOver at hF
  refine lv_iconst (v := 0) hx hb dX1_handOver_0 (by decide) ?_
  refine lv_istore_n (lv' := [(3, .int ((0 : Int32))), (0, .ref a0), (1, .ref a1), (2, .int x2)]) hx hb dX1_handOver_1 rfl hl (by decide) rfl (fun ls hl => ?_)
  exact HL2 300 _ _ _ _ _ _ _ _ hF hP hS (lv_sub hl [1, 2, 3, 0] rfl)
set_option maxHeartbeats 4000000 in
set_option maxRecDepth 100000 in
theorem k1_collect (l : Launch) (D : va_G) (base : Nat) (g : g_H) (a0 : Nat) (a1 : Nat) (x2 : Int32) (gz : g_H) (hF : f1_collect g a0 a1 x2 = some gz) : Met l yX1_collect wsX1_collect ({ frames := 2, cells := 0, slots := 0, locals := 43 } : Room) (va_Pc [.ref a0, .ref a1, .int x2] (gC base D g)) (gQv base D gz) 0 0 (gA base) := by
  refine g_met (cc := cX1_collect) (maxL := 6) (ret := none) (lst := [(0, .ref a0), (1, .ref a1), (2, .int x2)]) (by decide) rfl (Nat.le_of_ble_eq_true rfl) rfl ?_
  intro p e s m args below meth c ls hx hb hr hml hown hlocks hname hts hE hP hl
  have hown : s.vm.findClass RX1 = some m.cls := hown
  have hK := hE.1
  have hov := hE.2.2.2.2.2.2.2.1
  have hbz := hE.2.2.2.2.2.2.2.2.2.2.2.2
  have hS : va_S (gA base) s.heap s.heap [] := va_S.rf
  have hiX0 : ∀ w ∈ wsX00, w ∈ wsX1_collect := by decide +kernel
  have hiX1 : ∀ w ∈ wsX10, w ∈ wsX1_collect := by decide +kernel
  have hiX3 : ∀ w ∈ wsX30, w ∈ wsX1_collect := by decide +kernel
  have HL2 : ∀ (n2 : Nat), ∀ (g : g_H) (a0 : Nat) (a1 : Nat) (x2 : Int32) (x3 : Int32) (H : Heap) (locs : List Loc) (ls : Array Slot), f1_collect_2 n2 g a0 a1 x2 x3 = some gz → gP base D s g H → va_S (gA base) s.heap H locs → lv_has ls 6 [(0, .ref a0), (1, .ref a1), (2, .int x2), (3, .int x3)] → W p l e ({ frames := 2, cells := 0, slots := 0, locals := 43 } : Room) s m args below meth c H locs 0 0 (MQ below (gQv base D gz) args s 0 0 (gA base)) (F0 m 2 ls []) := by
    intro n2
    induction n2 with
    | zero => intro g a0 a1 x2 x3 H locs ls hF hP hS hl; exact g_no hF
    | succ n2 ih2 =>
      have HB85 : ∀ (g : g_H) (a0 : Nat) (a1 : Nat) (x2 : Int32) (x3 : Int32) (H : Heap) (locs : List Loc) (ls : Array Slot), f1_collect_85 (f1_collect_2 n2) g a0 a1 x2 x3 = some gz → gP base D s g H → va_S (gA base) s.heap H locs → lv_has ls 6 [(0, .ref a0), (1, .ref a1), (2, .int x2), (3, .int x3)] → W p l e ({ frames := 2, cells := 0, slots := 0, locals := 43 } : Room) s m args below meth c H locs 0 0 (MQ below (gQv base D gz) args s 0 0 (gA base)) (F0 m 85 ls []) := by
        intro g a0 a1 x2 x3 H locs ls hF hP hS hl
        unfold f1_collect_85 at hF
        refine lv_iinc (v := x3 + (1 : Int32)) (lv' := [(3, .int (x3 + (1 : Int32))), (0, .ref a0), (1, .ref a1), (2, .int x2)]) hx hb dX1_collect_85 hl (k := 3) rfl rfl (by decide) rfl (fun ls hl => ?_)
        refine lv_goto (tgt := 2) hx hb dX1_collect_88 (by decide) ?_
        exact ih2 _ _ _ _ _ _ _ _ hF hP hS (lv_sub hl [1, 2, 3, 0] rfl)
      intro g a0 a1 x2 x3 H locs ls hF hP hS hl
      have hF : f1_collect_2b (f1_collect_2 n2) g a0 a1 x2 x3 = some gz := hF
      unfold f1_collect_2b at hF
      refine lv_iload_n hx hb dX1_collect_2 rfl (lv_at hl 3 rfl) ?_
      refine lv_aload_n hx hb dX1_collect_3 rfl (lv_at hl 0 rfl) ?_
      obtain ⟨h1, hF⟩ := g_if hF
      refine g_get hx hb hts hiX1 hown hK hP 1 rfl (by decide) h1 4 (by decide) (hts (.fieldLink RX1 42 "CourierBees$Flight" "letterCount" "I") (by decide +kernel)) (fun _ h9 => h9) (gFv_i (Or.inl rfl)) dX1_collect_4 ?_
      refine lv_icmp_ge (tgt := 91) hx hb dX1_collect_7 (by decide) (fun c2 => ?_) (fun c2 => ?_)
      · have hF := g_t c2 hF
        exact g_retV hx hb hr hlocks hF hP hS (Nat.le_of_ble_eq_true rfl) (Nat.le_of_ble_eq_true rfl) dX1_collect_91
      · have hF := g_f c2 hF
        refine lv_aload_n hx hb dX1_collect_10 rfl (lv_at hl 1 rfl) ?_
        obtain ⟨h3, hF⟩ := g_if hF
        refine g_get hx hb hts hiX0 hown hK hP 0 rfl (by decide) h3 6 (by decide) (hts (.fieldLink RX1 54 "CourierBees$Bee" "carries" "I") (by decide +kernel)) (fun _ h9 => h9) (gFv_i (Or.inl rfl)) dX1_collect_11 ?_
        refine lv_iconst (v := 3) hx hb dX1_collect_14 (by decide) ?_
        refine lv_icmp_ge (tgt := 91) hx hb dX1_collect_15 (by decide) (fun c4 => ?_) (fun c4 => ?_)
        · have hF := g_t c4 hF
          exact g_retV hx hb hr hlocks hF hP hS (Nat.le_of_ble_eq_true rfl) (Nat.le_of_ble_eq_true rfl) dX1_collect_91
        · have hF := g_f c4 hF
          refine lv_aload_n hx hb dX1_collect_18 rfl (lv_at hl 0 rfl) ?_
          obtain ⟨q5, hq6, hF⟩ := g_bind hF
          refine g_get hx hb hts hiX1 hown hK hP 1 rfl (by decide) h1 2 (by decide) (hts (.fieldLink RX1 26 "CourierBees$Flight" "letters" "[LCourierBees$Letter;") (by decide +kernel)) (fun _ h9 => h9) ((gFv_r (by decide)).trans (congrArg va_rf hq6)) dX1_collect_19 ?_
          refine lv_iload_n hx hb dX1_collect_22 rfl (lv_at hl 3 rfl) ?_
          obtain ⟨h7, hF⟩ := g_if hF
          obtain ⟨h8, hF⟩ := g_if hF
          obtain ⟨q9, hq10, hF⟩ := g_bind hF
          refine g_aald hx hb hP (g_pr h7) (by decide) h8 hq10 dX1_collect_23 ?_
          refine lv_astore (lv' := [(4, .ref q9), (0, .ref a0), (1, .ref a1), (2, .int x2), (3, .int x3)]) hx hb dX1_collect_24 hl (by decide) rfl (fun ls hl => ?_)
          refine lv_aload hx hb dX1_collect_26 (lv_at hl 0 rfl) ?_
          obtain ⟨h11, hF⟩ := g_if hF
          refine g_get hx hb hts hiX3 hown hK hP 3 rfl (by decide) h11 1 (by decide) (hts (.fieldLink RX1 107 "CourierBees$Letter" "lies" "I") (by decide +kernel)) (fun _ h9 => h9) (gFv_i (Or.inl rfl)) dX1_collect_28 ?_
          refine lv_iload_n hx hb dX1_collect_31 rfl (lv_at hl 3 rfl) ?_
          refine lv_icmp_ne (tgt := 85) hx hb dX1_collect_32 (by decide) (fun c12 => ?_) (fun c12 => ?_)
          · have hF := g_f c12 hF
            exact HB85 _ _ _ _ _ _ _ _ hF hP hS (lv_sub hl [1, 2, 3, 4] rfl)
          · have hF := g_t c12 hF
            refine lv_aload_n hx hb dX1_collect_35 rfl (lv_at hl 2 rfl) ?_
            obtain ⟨q13, hq14, hF⟩ := g_bind hF
            refine g_get hx hb hts hiX0 hown hK hP 0 rfl (by decide) h3 1 (by decide) (hts (.fieldLink RX1 94 "CourierBees$Bee" "route" "LCourierBees$Route;") (by decide +kernel)) (fun _ h9 => h9) ((gFv_r (by decide)).trans (congrArg va_rf hq14)) dX1_collect_36 ?_
            refine lv_aload hx hb dX1_collect_39 (lv_at hl 0 rfl) ?_
            refine g_get hx hb hts hiX3 hown hK hP 3 rfl (by decide) h11 0 (by decide) (hts (.fieldLink RX1 87 "CourierBees$Letter" "to" "I") (by decide +kernel)) (fun _ h9 => h9) (gFv_i (Or.inl rfl)) dX1_collect_41 ?_
            obtain ⟨h16, hF⟩ := g_if hF
            obtain ⟨v18, g17, h15, hF⟩ := g_bind2 hF
            refine g_calli (va_runV (As := [.int (gI g q9 0)]) (rest := []) ⟨hx, hb, hml, hown, hts⟩ (k4_targetFor l D base g q13 (gI g q9 0) v18 g17 h15) (cwV 1 hts gX1_collect_X4_targetFor rfl rfl rfl (by decide +kernel) ⟨Nat.le_of_ble_eq_true rfl, Nat.le_of_ble_eq_true rfl⟩) (gC.preV hE hP hS 4 rfl (by decide) h16 [.int (gI g q9 0)]) rfl rfl hl.1 rfl (lv_room (Nat.le_of_ble_eq_true rfl)) dX1_collect_44 ⟨(Nat.le_of_ble_eq_true rfl), (Nat.le_of_ble_eq_true rfl)⟩) hS (fun H locs hP hS => ?_)
            refine lv_istore (lv' := [(5, .int v18), (4, .ref q9), (0, .ref a0), (1, .ref a1), (2, .int x2), (3, .int x3)]) hx hb dX1_collect_47 hl (by decide) rfl (fun ls hl => ?_)
            refine lv_aload_n hx hb dX1_collect_49 rfl (lv_at hl 2 rfl) ?_
            obtain ⟨h19, hF⟩ := g_if hF
            obtain ⟨q20, hq21, hF⟩ := g_bind hF
            refine g_get hx hb hts hiX1 hown hK hP 1 rfl (by decide) h19 0 (by decide) (hts (.fieldLink RX1 9 "CourierBees$Flight" "town" "LCourierBees$Town;") (by decide +kernel)) (fun _ h9 => h9) ((gFv_r (by decide)).trans (congrArg va_rf hq21)) dX1_collect_50 ?_
            refine lv_iload hx hb dX1_collect_53 (lv_at hl 0 rfl) ?_
            refine lv_aload hx hb dX1_collect_55 (lv_at hl 1 rfl) ?_
            obtain ⟨h22, hF⟩ := g_if hF
            refine g_get hx hb hts hiX3 hown hK hP 3 rfl (by decide) h22 0 (by decide) (hts (.fieldLink RX1 87 "CourierBees$Letter" "to" "I") (by decide +kernel)) (fun _ h9 => h9) (gFv_i (Or.inl rfl)) dX1_collect_57 ?_
            obtain ⟨h24, hF⟩ := g_if hF
            obtain ⟨v26, g25, h23, hF⟩ := g_bind2 hF
            refine g_calli (va_runV (As := [.int v18, .int (gI g17 q9 0)]) (rest := []) ⟨hx, hb, hml, hown, hts⟩ (k5_wayBetween l D base g17 q20 v18 (gI g17 q9 0) v26 g25 h23) (cwV 2 hts gX1_collect_X5_wayBetween rfl rfl rfl (by decide +kernel) ⟨Nat.le_of_ble_eq_true rfl, Nat.le_of_ble_eq_true rfl⟩) (gC.preV hE hP hS 5 rfl (by decide) h24 [.int v18, .int (gI g17 q9 0)]) rfl rfl hl.1 rfl (lv_room (Nat.le_of_ble_eq_true rfl)) dX1_collect_60 ⟨(Nat.le_of_ble_eq_true rfl), (Nat.le_of_ble_eq_true rfl)⟩) hS (fun H locs hP hS => ?_)
            refine lv_aload_n hx hb dX1_collect_63 rfl (lv_at hl 2 rfl) ?_
            obtain ⟨h27, hF⟩ := g_if hF
            obtain ⟨q28, hq29, hF⟩ := g_bind hF
            refine g_get hx hb hts hiX1 hown hK hP 1 rfl (by decide) h27 0 (by decide) (hts (.fieldLink RX1 9 "CourierBees$Flight" "town" "LCourierBees$Town;") (by decide +kernel)) (fun _ h9 => h9) ((gFv_r (by decide)).trans (congrArg va_rf hq29)) dX1_collect_64 ?_
            refine lv_iload_n hx hb dX1_collect_67 rfl (lv_at hl 4 rfl) ?_
            refine lv_aload hx hb dX1_collect_68 (lv_at hl 1 rfl) ?_
            obtain ⟨h30, hF⟩ := g_if hF
            refine g_get hx hb hts hiX3 hown hK hP 3 rfl (by decide) h30 0 (by decide) (hts (.fieldLink RX1 87 "CourierBees$Letter" "to" "I") (by decide +kernel)) (fun _ h9 => h9) (gFv_i (Or.inl rfl)) dX1_collect_70 ?_
            obtain ⟨h32, hF⟩ := g_if hF
            obtain ⟨v34, g33, h31, hF⟩ := g_bind2 hF
            refine g_calli (va_runV (As := [.int x2, .int (gI g25 q9 0)]) (rest := [.int v26]) ⟨hx, hb, hml, hown, hts⟩ (k5_wayBetween l D base g25 q28 x2 (gI g25 q9 0) v34 g33 h31) (cwV 2 hts gX1_collect_X5_wayBetween rfl rfl rfl (by decide +kernel) ⟨Nat.le_of_ble_eq_true rfl, Nat.le_of_ble_eq_true rfl⟩) (gC.preV hE hP hS 5 rfl (by decide) h32 [.int x2, .int (gI g25 q9 0)]) rfl rfl hl.1 rfl (lv_room (Nat.le_of_ble_eq_true rfl)) dX1_collect_73 ⟨(Nat.le_of_ble_eq_true rfl), (Nat.le_of_ble_eq_true rfl)⟩) hS (fun H locs hP hS => ?_)
            refine lv_icmp_ge (tgt := 85) hx hb dX1_collect_76 (by decide) (fun c35 => ?_) (fun c35 => ?_)
            · have hF := g_t c35 hF
              exact HB85 _ _ _ _ _ _ _ _ hF hP hS (lv_sub hl [2, 3, 4, 5] rfl)
            · have hF := g_f c35 hF
              refine lv_aload_n hx hb dX1_collect_79 rfl (lv_at hl 3 rfl) ?_
              refine lv_aload hx hb dX1_collect_80 (lv_at hl 1 rfl) ?_
              obtain ⟨h37, hF⟩ := g_if hF
              obtain ⟨g38, h36, hF⟩ := g_bind hF
              refine g_callv (va_runV (As := [.ref q9]) (rest := []) ⟨hx, hb, hml, hown, hts⟩ (k0_take l D base g33 a1 q9 g38 h36) (cwV 1 hts gX1_collect_X0_take rfl rfl rfl (by decide +kernel) ⟨Nat.le_of_ble_eq_true rfl, Nat.le_of_ble_eq_true rfl⟩) (gC.preV hE hP hS 0 rfl (by decide) h37 [.ref q9]) rfl rfl hl.1 rfl (lv_room (Nat.le_of_ble_eq_true rfl)) dX1_collect_82 ⟨(Nat.le_of_ble_eq_true rfl), (Nat.le_of_ble_eq_true rfl)⟩) hS (fun H locs hP hS => ?_)
              exact HB85 _ _ _ _ _ _ _ _ hF hP hS (lv_sub hl [2, 3, 4, 5] rfl)
  unfold f1_collect at hF
  refine lv_iconst (v := 0) hx hb dX1_collect_0 (by decide) ?_
  refine lv_istore_n (lv' := [(3, .int ((0 : Int32))), (0, .ref a0), (1, .ref a1), (2, .int x2)]) hx hb dX1_collect_1 rfl hl (by decide) rfl (fun ls hl => ?_)
  exact HL2 300 _ _ _ _ _ _ _ _ hF hP hS (lv_sub hl [1, 2, 3, 0] rfl)
set_option maxHeartbeats 4000000 in
set_option maxRecDepth 100000 in
theorem k1_moveOn (l : Launch) (D : va_G) (base : Nat) (g : g_H) (a0 : Nat) (a1 : Nat) (x2 : Int32) (gz : g_H) (hF : f1_moveOn g a0 a1 x2 = some gz) : Met l yX1_moveOn wsX1_moveOn ({ frames := 3, cells := 0, slots := 0, locals := 67 } : Room) (va_Pc [.ref a0, .ref a1, .int x2] (gC base D g)) (gQv base D gz) 0 0 (gA base) := by
  refine g_met (cc := cX1_moveOn) (maxL := 4) (ret := none) (lst := [(0, .ref a0), (1, .ref a1), (2, .int x2)]) (by decide) rfl (Nat.le_of_ble_eq_true rfl) rfl ?_
  intro p e s m args below meth c ls hx hb hr hml hown hlocks hname hts hE hP hl
  have hown : s.vm.findClass RX1 = some m.cls := hown
  have hK := hE.1
  have hov := hE.2.2.2.2.2.2.2.1
  have hbz := hE.2.2.2.2.2.2.2.2.2.2.2.2
  have hS : va_S (gA base) s.heap s.heap [] := va_S.rf
  have hiX0 : ∀ w ∈ wsX00, w ∈ wsX1_moveOn := by decide +kernel
  have hiX1 : ∀ w ∈ wsX10, w ∈ wsX1_moveOn := by decide +kernel
  have HB65 : ∀ (g : g_H) (a0 : Nat) (x3 : Int32) (s0 : Nat) (s1 : Int32) (H : Heap) (locs : List Loc) (ls : Array Slot), f1_moveOn_65 g a0 x3 s0 s1 = some gz → gP base D s g H → va_S (gA base) s.heap H locs → lv_has ls 4 [(0, .ref a0), (3, .int x3)] → W p l e ({ frames := 3, cells := 0, slots := 0, locals := 67 } : Room) s m args below meth c H locs 0 0 (MQ below (gQv base D gz) args s 0 0 (gA base)) (F0 m 65 ls [.int s1, .ref s0]) := by
    intro g a0 x3 s0 s1 H locs ls hF hP hS hl
    unfold f1_moveOn_65 at hF
    refine lv_aload_n hx hb dX1_moveOn_65 rfl (lv_at hl 0 rfl) ?_
    obtain ⟨h31, hF⟩ := g_if hF
    obtain ⟨q32, hq33, hF⟩ := g_bind hF
    refine g_get hx hb hts hiX1 hown hK hP 1 rfl (by decide) h31 0 (by decide) (hts (.fieldLink RX1 9 "CourierBees$Flight" "town" "LCourierBees$Town;") (by decide +kernel)) (fun _ h9 => h9) ((gFv_r (by decide)).trans (congrArg va_rf hq33)) dX1_moveOn_66 ?_
    refine lv_iload_n hx hb dX1_moveOn_69 rfl (lv_at hl 1 rfl) ?_
    obtain ⟨h35, hF⟩ := g_if hF
    obtain ⟨v37, g36, h34, hF⟩ := g_bind2 hF
    refine g_calli (va_runV (As := [.int x3]) (rest := [.int s1, .ref s0]) ⟨hx, hb, hml, hown, hts⟩ (k5_lengthOf l D base g q32 x3 v37 g36 h34) (cwV 1 hts gX1_moveOn_X5_lengthOf rfl rfl rfl (by decide +kernel) ⟨Nat.le_of_ble_eq_true rfl, Nat.le_of_ble_eq_true rfl⟩) (gC.preV hE hP hS 5 rfl (by decide) h35 [.int x3]) rfl rfl hl.1 rfl (lv_room (Nat.le_of_ble_eq_true rfl)) dX1_moveOn_70 ⟨(Nat.le_of_ble_eq_true rfl), (Nat.le_of_ble_eq_true rfl)⟩) hS (fun H locs hP hS => ?_)
    obtain ⟨h39, hF⟩ := g_if hF
    obtain ⟨g40, h38, hF⟩ := g_bind hF
    refine g_callv (va_runV (As := [.int s1, .int v37]) (rest := []) ⟨hx, hb, hml, hown, hts⟩ (k0_flyOrStay l D base g36 s0 s1 v37 g40 h38) (cwV 2 hts gX1_moveOn_X0_flyOrStay rfl rfl rfl (by decide +kernel) ⟨Nat.le_of_ble_eq_true rfl, Nat.le_of_ble_eq_true rfl⟩) (gC.preV hE hP hS 0 rfl (by decide) h39 [.int s1, .int v37]) rfl rfl hl.1 rfl (lv_room (Nat.le_of_ble_eq_true rfl)) dX1_moveOn_73 ⟨(Nat.le_of_ble_eq_true rfl), (Nat.le_of_ble_eq_true rfl)⟩) hS (fun H locs hP hS => ?_)
    exact g_retV hx hb hr hlocks hF hP hS (Nat.le_of_ble_eq_true rfl) (Nat.le_of_ble_eq_true rfl) dX1_moveOn_76
  have HB60 : ∀ (g : g_H) (a0 : Nat) (x3 : Int32) (s0 : Nat) (H : Heap) (locs : List Loc) (ls : Array Slot), f1_moveOn_60 g a0 x3 s0 = some gz → gP base D s g H → va_S (gA base) s.heap H locs → lv_has ls 4 [(0, .ref a0), (3, .int x3)] → W p l e ({ frames := 3, cells := 0, slots := 0, locals := 67 } : Room) s m args below meth c H locs 0 0 (MQ below (gQv base D gz) args s 0 0 (gA base)) (F0 m 60 ls [.ref s0]) := by
    intro g a0 x3 s0 H locs ls hF hP hS hl
    unfold f1_moveOn_60 at hF
    refine lv_iconst (v := 1) hx hb dX1_moveOn_60 (by decide) ?_
    refine lv_goto (tgt := 65) hx hb dX1_moveOn_61 (by decide) ?_
    exact HB65 _ _ _ _ _ _ _ _ hF hP hS (lv_sub hl [0, 1] rfl)
  unfold f1_moveOn at hF
  refine lv_aload_n hx hb dX1_moveOn_0 rfl (lv_at hl 1 rfl) ?_
  refine lv_aload_n hx hb dX1_moveOn_1 rfl (lv_at hl 0 rfl) ?_
  obtain ⟨h1, hF⟩ := g_if hF
  obtain ⟨q2, hq3, hF⟩ := g_bind hF
  refine g_get hx hb hts hiX1 hown hK hP 1 rfl (by decide) h1 0 (by decide) (hts (.fieldLink RX1 9 "CourierBees$Flight" "town" "LCourierBees$Town;") (by decide +kernel)) (fun _ h9 => h9) ((gFv_r (by decide)).trans (congrArg va_rf hq3)) dX1_moveOn_2 ?_
  refine lv_iload_n hx hb dX1_moveOn_5 rfl (lv_at hl 2 rfl) ?_
  obtain ⟨h5, hF⟩ := g_if hF
  obtain ⟨v7, g6, h4, hF⟩ := g_bind2 hF
  refine g_calli (va_runV (As := [.int x2]) (rest := [.ref a1]) ⟨hx, hb, hml, hown, hts⟩ (k5_hasHive l D base g q2 x2 v7 g6 h4) (cwV 1 hts gX1_moveOn_X5_hasHive rfl rfl rfl (by decide +kernel) ⟨Nat.le_of_ble_eq_true rfl, Nat.le_of_ble_eq_true rfl⟩) (gC.preV hE hP hS 5 rfl (by decide) h5 [.int x2]) rfl rfl hl.1 rfl (lv_room (Nat.le_of_ble_eq_true rfl)) dX1_moveOn_6 ⟨(Nat.le_of_ble_eq_true rfl), (Nat.le_of_ble_eq_true rfl)⟩) hS (fun H locs hP hS => ?_)
  obtain ⟨h9, hF⟩ := g_if hF
  obtain ⟨v11, g10, h8, hF⟩ := g_bind2 hF
  refine g_calli (va_runV (As := [.int v7]) (rest := []) ⟨hx, hb, hml, hown, hts⟩ (k0_restsNow l D base g6 a1 v7 v11 g10 h8) (cwV 1 hts gX1_moveOn_X0_restsNow rfl rfl rfl (by decide +kernel) ⟨Nat.le_of_ble_eq_true rfl, Nat.le_of_ble_eq_true rfl⟩) (gC.preV hE hP hS 0 rfl (by decide) h9 [.int v7]) rfl rfl hl.1 rfl (lv_room (Nat.le_of_ble_eq_true rfl)) dX1_moveOn_9 ⟨(Nat.le_of_ble_eq_true rfl), (Nat.le_of_ble_eq_true rfl)⟩) hS (fun H locs hP hS => ?_)
  refine lv_if_ne (tgt := 26) hx hb dX1_moveOn_12 (by decide) (fun c12 => ?_) (fun c12 => ?_)
  · have hF := g_f c12 hF
    exact g_retV hx hb hr hlocks hF hP hS (Nat.le_of_ble_eq_true rfl) (Nat.le_of_ble_eq_true rfl) dX1_moveOn_26
  · have hF := g_t c12 hF
    refine lv_aload_n hx hb dX1_moveOn_15 rfl (lv_at hl 1 rfl) ?_
    obtain ⟨h13, hF⟩ := g_if hF
    obtain ⟨q14, hq15, hF⟩ := g_bind hF
    refine g_get hx hb hts hiX0 hown hK hP 0 rfl (by decide) h13 1 (by decide) (hts (.fieldLink RX1 94 "CourierBees$Bee" "route" "LCourierBees$Route;") (by decide +kernel)) (fun _ h9 => h9) ((gFv_r (by decide)).trans (congrArg va_rf hq15)) dX1_moveOn_16 ?_
    obtain ⟨h17, hF⟩ := g_if hF
    obtain ⟨v19, g18, h16, hF⟩ := g_bind2 hF
    refine g_calli (va_runV (As := []) (rest := []) ⟨hx, hb, hml, hown, hts⟩ (k4_length l D base g10 q14 v19 g18 h16) (cwV 0 hts gX1_moveOn_X4_length rfl rfl rfl (by decide +kernel) ⟨Nat.le_of_ble_eq_true rfl, Nat.le_of_ble_eq_true rfl⟩) (gC.preV hE hP hS 4 rfl (by decide) h17 []) rfl rfl hl.1 rfl (lv_room (Nat.le_of_ble_eq_true rfl)) dX1_moveOn_19 ⟨(Nat.le_of_ble_eq_true rfl), (Nat.le_of_ble_eq_true rfl)⟩) hS (fun H locs hP hS => ?_)
    refine lv_iconst (v := 1) hx hb dX1_moveOn_22 (by decide) ?_
    refine lv_icmp_gt (tgt := 27) hx hb dX1_moveOn_23 (by decide) (fun c20 => ?_) (fun c20 => ?_)
    · have hF := g_t c20 hF
      refine lv_aload_n hx hb dX1_moveOn_27 rfl (lv_at hl 1 rfl) ?_
      obtain ⟨h22, hF⟩ := g_if hF
      obtain ⟨g23, h21, hF⟩ := g_bind hF
      refine g_callv (va_runV (As := []) (rest := []) ⟨hx, hb, hml, hown, hts⟩ (k0_turnAtEnd l D base g18 a1 g23 h21) (cwV 0 hts gX1_moveOn_X0_turnAtEnd rfl rfl rfl (by decide +kernel) ⟨Nat.le_of_ble_eq_true rfl, Nat.le_of_ble_eq_true rfl⟩) (gC.preV hE hP hS 0 rfl (by decide) h22 []) rfl rfl hl.1 rfl (lv_room (Nat.le_of_ble_eq_true rfl)) dX1_moveOn_28 ⟨(Nat.le_of_ble_eq_true rfl), (Nat.le_of_ble_eq_true rfl)⟩) hS (fun H locs hP hS => ?_)
      refine lv_aload_n hx hb dX1_moveOn_31 rfl (lv_at hl 1 rfl) ?_
      obtain ⟨h26, hF⟩ := g_if hF
      obtain ⟨v28, g27, h25, hF⟩ := g_bind2 hF
      refine g_calli (va_runV (As := []) (rest := []) ⟨hx, hb, hml, hown, hts⟩ (k0_nextLane l D base g23 a1 v28 g27 h25) (cwV 0 hts gX1_moveOn_X0_nextLane rfl rfl rfl (by decide +kernel) ⟨Nat.le_of_ble_eq_true rfl, Nat.le_of_ble_eq_true rfl⟩) (gC.preV hE hP hS 0 rfl (by decide) h26 []) rfl rfl hl.1 rfl (lv_room (Nat.le_of_ble_eq_true rfl)) dX1_moveOn_32 ⟨(Nat.le_of_ble_eq_true rfl), (Nat.le_of_ble_eq_true rfl)⟩) hS (fun H locs hP hS => ?_)
      refine lv_istore_n (lv' := [(3, .int v28), (0, .ref a0), (1, .ref a1), (2, .int x2)]) hx hb dX1_moveOn_35 rfl hl (by decide) rfl (fun ls hl => ?_)
      refine lv_aload_n hx hb dX1_moveOn_36 rfl (lv_at hl 2 rfl) ?_
      refine lv_iload_n hx hb dX1_moveOn_37 rfl (lv_at hl 0 rfl) ?_
      refine lv_aload_n hx hb dX1_moveOn_38 rfl (lv_at hl 1 rfl) ?_
      obtain ⟨h29, hF⟩ := g_if hF
      refine g_get hx hb hts hiX1 hown hK hP 1 rfl (by decide) h29 7 (by decide) (hts (.fieldLink RX1 31 "CourierBees$Flight" "openLane" "I") (by decide +kernel)) (fun _ h9 => h9) (gFv_i (Or.inl rfl)) dX1_moveOn_39 ?_
      refine lv_icmp_eq (tgt := 60) hx hb dX1_moveOn_42 (by decide) (fun c30 => ?_) (fun c30 => ?_)
      · have hF := g_t c30 hF
        exact HB60 _ _ _ _ _ _ _ hF hP hS (lv_sub hl [1, 0] rfl)
      · have hF := g_f c30 hF
        refine lv_aload_n hx hb dX1_moveOn_45 rfl (lv_at hl 1 rfl) ?_
        obtain ⟨q42, hq43, hF⟩ := g_bind hF
        refine g_get hx hb hts hiX1 hown hK hP 1 rfl (by decide) h29 0 (by decide) (hts (.fieldLink RX1 9 "CourierBees$Flight" "town" "LCourierBees$Town;") (by decide +kernel)) (fun _ h9 => h9) ((gFv_r (by decide)).trans (congrArg va_rf hq43)) dX1_moveOn_46 ?_
        refine lv_iload_n hx hb dX1_moveOn_49 rfl (lv_at hl 0 rfl) ?_
        refine lv_aload_n hx hb dX1_moveOn_50 rfl (lv_at hl 1 rfl) ?_
        refine g_get hx hb hts hiX1 hown hK hP 1 rfl (by decide) h29 5 (by decide) (hts (.fieldLink RX1 48 "CourierBees$Flight" "quarter" "I") (by decide +kernel)) (fun _ h9 => h9) (gFv_i (Or.inl rfl)) dX1_moveOn_51 ?_
        obtain ⟨h45, hF⟩ := g_if hF
        obtain ⟨v47, g46, h44, hF⟩ := g_bind2 hF
        refine g_calli (va_runV (As := [.int v28, .int (gI g27 a0 5)]) (rest := [.ref a1]) ⟨hx, hb, hml, hown, hts⟩ (k5_isOpen l D base g27 q42 v28 (gI g27 a0 5) v47 g46 h44) (cwV 2 hts gX1_moveOn_X5_isOpen rfl rfl rfl (by decide +kernel) ⟨Nat.le_of_ble_eq_true rfl, Nat.le_of_ble_eq_true rfl⟩) (gC.preV hE hP hS 5 rfl (by decide) h45 [.int v28, .int (gI g27 a0 5)]) rfl rfl hl.1 rfl (lv_room (Nat.le_of_ble_eq_true rfl)) dX1_moveOn_54 ⟨(Nat.le_of_ble_eq_true rfl), (Nat.le_of_ble_eq_true rfl)⟩) hS (fun H locs hP hS => ?_)
        refine lv_if_eq (tgt := 64) hx hb dX1_moveOn_57 (by decide) (fun c48 => ?_) (fun c48 => ?_)
        · have hF := g_t c48 hF
          refine lv_iconst (v := 0) hx hb dX1_moveOn_64 (by decide) ?_
          exact HB65 _ _ _ _ _ _ _ _ hF hP hS (lv_sub hl [1, 0] rfl)
        · have hF := g_f c48 hF
          exact HB60 _ _ _ _ _ _ _ hF hP hS (lv_sub hl [1, 0] rfl)
    · have hF := g_f c20 hF
      exact g_retV hx hb hr hlocks hF hP hS (Nat.le_of_ble_eq_true rfl) (Nat.le_of_ble_eq_true rfl) dX1_moveOn_26
set_option maxHeartbeats 4000000 in
set_option maxRecDepth 100000 in
theorem k1_passQuarter (l : Launch) (D : va_G) (base : Nat) (g : g_H) (a0 : Nat) (gz : g_H) (hF : f1_passQuarter g a0 = some gz) : Met l yX1_passQuarter wsX1_passQuarter ({ frames := 4, cells := 0, slots := 0, locals := 91 } : Room) (va_Pc [.ref a0] (gC base D g)) (gQv base D gz) 0 0 (gA base) := by
  refine g_met (cc := cX1_passQuarter) (maxL := 4) (ret := none) (lst := [(0, .ref a0)]) (by decide) rfl (Nat.le_of_ble_eq_true rfl) rfl ?_
  intro p e s m args below meth c ls hx hb hr hml hown hlocks hname hts hE hP hl
  have hown : s.vm.findClass RX1 = some m.cls := hown
  have hK := hE.1
  have hov := hE.2.2.2.2.2.2.2.1
  have hbz := hE.2.2.2.2.2.2.2.2.2.2.2.2
  have hS : va_S (gA base) s.heap s.heap [] := va_S.rf
  have hiX0 : ∀ w ∈ wsX00, w ∈ wsX1_passQuarter := by decide +kernel
  have hiX1 : ∀ w ∈ wsX10, w ∈ wsX1_passQuarter := by decide +kernel
  have HL2 : ∀ (n2 : Nat), ∀ (g : g_H) (a0 : Nat) (x1 : Int32) (H : Heap) (locs : List Loc) (ls : Array Slot), f1_passQuarter_2 n2 g a0 x1 = some gz → gP base D s g H → va_S (gA base) s.heap H locs → lv_has ls 4 [(0, .ref a0), (1, .int x1)] → W p l e ({ frames := 4, cells := 0, slots := 0, locals := 91 } : Room) s m args below meth c H locs 0 0 (MQ below (gQv base D gz) args s 0 0 (gA base)) (F0 m 2 ls []) := by
    intro n2
    induction n2 with
    | zero => intro g a0 x1 H locs ls hF hP hS hl; exact g_no hF
    | succ n2 ih2 =>
      have HB64 : ∀ (g : g_H) (a0 : Nat) (x1 : Int32) (H : Heap) (locs : List Loc) (ls : Array Slot), f1_passQuarter_64 (f1_passQuarter_2 n2) g a0 x1 = some gz → gP base D s g H → va_S (gA base) s.heap H locs → lv_has ls 4 [(0, .ref a0), (1, .int x1)] → W p l e ({ frames := 4, cells := 0, slots := 0, locals := 91 } : Room) s m args below meth c H locs 0 0 (MQ below (gQv base D gz) args s 0 0 (gA base)) (F0 m 64 ls []) := by
        intro g a0 x1 H locs ls hF hP hS hl
        unfold f1_passQuarter_64 at hF
        refine lv_iinc (v := x1 + (1 : Int32)) (lv' := [(1, .int (x1 + (1 : Int32))), (0, .ref a0)]) hx hb dX1_passQuarter_64 hl (k := 1) rfl rfl (by decide) rfl (fun ls hl => ?_)
        refine lv_goto (tgt := 2) hx hb dX1_passQuarter_67 (by decide) ?_
        exact ih2 _ _ _ _ _ _ hF hP hS (lv_sub hl [1, 0] rfl)
      have HB34 : ∀ (g : g_H) (a0 : Nat) (x1 : Int32) (a2 : Nat) (H : Heap) (locs : List Loc) (ls : Array Slot), f1_passQuarter_34 (f1_passQuarter_2 n2) g a0 x1 a2 = some gz → gP base D s g H → va_S (gA base) s.heap H locs → lv_has ls 4 [(0, .ref a0), (1, .int x1), (2, .ref a2)] → W p l e ({ frames := 4, cells := 0, slots := 0, locals := 91 } : Room) s m args below meth c H locs 0 0 (MQ below (gQv base D gz) args s 0 0 (gA base)) (F0 m 34 ls []) := by
        intro g a0 x1 a2 H locs ls hF hP hS hl
        unfold f1_passQuarter_34 at hF
        refine lv_aload_n hx hb dX1_passQuarter_34 rfl (lv_at hl 2 rfl) ?_
        obtain ⟨h11, hF⟩ := g_if hF
        refine g_get hx hb hts hiX0 hown hK hP 0 rfl (by decide) h11 3 (by decide) (hts (.fieldLink RX1 64 "CourierBees$Bee" "left" "I") (by decide +kernel)) (fun _ h9 => h9) (gFv_i (Or.inl rfl)) dX1_passQuarter_35 ?_
        refine lv_if_ne (tgt := 64) hx hb dX1_passQuarter_38 (by decide) (fun c12 => ?_) (fun c12 => ?_)
        · have hF := g_f c12 hF
          exact HB64 _ _ _ _ _ _ hF hP hS (lv_sub hl [0, 1] rfl)
        · have hF := g_t c12 hF
          refine lv_aload_n hx hb dX1_passQuarter_41 rfl (lv_at hl 2 rfl) ?_
          obtain ⟨v15, g14, h13, hF⟩ := g_bind2 hF
          refine g_calli (va_runV (As := []) (rest := []) ⟨hx, hb, hml, hown, hts⟩ (k0_house l D base g a2 v15 g14 h13) (cwV 0 hts gX1_passQuarter_X0_house rfl rfl rfl (by decide +kernel) ⟨Nat.le_of_ble_eq_true rfl, Nat.le_of_ble_eq_true rfl⟩) (gC.preV hE hP hS 0 rfl (by decide) h11 []) rfl rfl hl.1 rfl (lv_room (Nat.le_of_ble_eq_true rfl)) dX1_passQuarter_42 ⟨(Nat.le_of_ble_eq_true rfl), (Nat.le_of_ble_eq_true rfl)⟩) hS (fun H locs hP hS => ?_)
          refine lv_istore_n (lv' := [(3, .int v15), (0, .ref a0), (1, .int x1), (2, .ref a2)]) hx hb dX1_passQuarter_45 rfl hl (by decide) rfl (fun ls hl => ?_)
          refine lv_aload_n hx hb dX1_passQuarter_46 rfl (lv_at hl 1 rfl) ?_
          refine lv_aload_n hx hb dX1_passQuarter_47 rfl (lv_at hl 3 rfl) ?_
          refine lv_iload_n hx hb dX1_passQuarter_48 rfl (lv_at hl 0 rfl) ?_
          obtain ⟨h17, hF⟩ := g_if hF
          obtain ⟨g18, h16, hF⟩ := g_bind hF
          refine g_callv (va_runV (As := [.ref a2, .int v15]) (rest := []) ⟨hx, hb, hml, hown, hts⟩ (k1_handOver l D base g14 a0 a2 v15 g18 h16) (cwV 2 hts gX1_passQuarter_X1_handOver rfl rfl rfl (by decide +kernel) ⟨Nat.le_of_ble_eq_true rfl, Nat.le_of_ble_eq_true rfl⟩) (gC.preV hE hP hS 1 rfl (by decide) h17 [.ref a2, .int v15]) rfl rfl hl.1 rfl (lv_room (Nat.le_of_ble_eq_true rfl)) dX1_passQuarter_49 ⟨(Nat.le_of_ble_eq_true rfl), (Nat.le_of_ble_eq_true rfl)⟩) hS (fun H locs hP hS => ?_)
          refine lv_aload_n hx hb dX1_passQuarter_52 rfl (lv_at hl 1 rfl) ?_
          refine lv_aload_n hx hb dX1_passQuarter_53 rfl (lv_at hl 3 rfl) ?_
          refine lv_iload_n hx hb dX1_passQuarter_54 rfl (lv_at hl 0 rfl) ?_
          obtain ⟨h21, hF⟩ := g_if hF
          obtain ⟨g22, h20, hF⟩ := g_bind hF
          refine g_callv (va_runV (As := [.ref a2, .int v15]) (rest := []) ⟨hx, hb, hml, hown, hts⟩ (k1_collect l D base g18 a0 a2 v15 g22 h20) (cwV 2 hts gX1_passQuarter_X1_collect rfl rfl rfl (by decide +kernel) ⟨Nat.le_of_ble_eq_true rfl, Nat.le_of_ble_eq_true rfl⟩) (gC.preV hE hP hS 1 rfl (by decide) h21 [.ref a2, .int v15]) rfl rfl hl.1 rfl (lv_room (Nat.le_of_ble_eq_true rfl)) dX1_passQuarter_55 ⟨(Nat.le_of_ble_eq_true rfl), (Nat.le_of_ble_eq_true rfl)⟩) hS (fun H locs hP hS => ?_)
          refine lv_aload_n hx hb dX1_passQuarter_58 rfl (lv_at hl 1 rfl) ?_
          refine lv_aload_n hx hb dX1_passQuarter_59 rfl (lv_at hl 3 rfl) ?_
          refine lv_iload_n hx hb dX1_passQuarter_60 rfl (lv_at hl 0 rfl) ?_
          obtain ⟨h25, hF⟩ := g_if hF
          obtain ⟨g26, h24, hF⟩ := g_bind hF
          refine g_callv (va_runV (As := [.ref a2, .int v15]) (rest := []) ⟨hx, hb, hml, hown, hts⟩ (k1_moveOn l D base g22 a0 a2 v15 g26 h24) (cwV 2 hts gX1_passQuarter_X1_moveOn rfl rfl rfl (by decide +kernel) ⟨Nat.le_of_ble_eq_true rfl, Nat.le_of_ble_eq_true rfl⟩) (gC.preV hE hP hS 1 rfl (by decide) h25 [.ref a2, .int v15]) rfl rfl hl.1 rfl (lv_room (Nat.le_of_ble_eq_true rfl)) dX1_passQuarter_61 ⟨(Nat.le_of_ble_eq_true rfl), (Nat.le_of_ble_eq_true rfl)⟩) hS (fun H locs hP hS => ?_)
          exact HB64 _ _ _ _ _ _ hF hP hS (lv_sub hl [1, 2] rfl)
      intro g a0 x1 H locs ls hF hP hS hl
      have hF : f1_passQuarter_2b (f1_passQuarter_2 n2) g a0 x1 = some gz := hF
      unfold f1_passQuarter_2b at hF
      refine lv_iload_n hx hb dX1_passQuarter_2 rfl (lv_at hl 1 rfl) ?_
      refine lv_aload_n hx hb dX1_passQuarter_3 rfl (lv_at hl 0 rfl) ?_
      obtain ⟨h1, hF⟩ := g_if hF
      refine g_get hx hb hts hiX1 hown hK hP 1 rfl (by decide) h1 3 (by decide) (hts (.fieldLink RX1 35 "CourierBees$Flight" "beeCount" "I") (by decide +kernel)) (fun _ h9 => h9) (gFv_i (Or.inl rfl)) dX1_passQuarter_4 ?_
      refine lv_icmp_ge (tgt := 70) hx hb dX1_passQuarter_7 (by decide) (fun c2 => ?_) (fun c2 => ?_)
      · have hF := g_t c2 hF
        refine lv_aload_n hx hb dX1_passQuarter_70 rfl (lv_at hl 0 rfl) ?_
        refine lv_dup hx hb dX1_passQuarter_71 rfl ?_
        refine g_get hx hb hts hiX1 hown hK hP 1 rfl (by decide) h1 5 (by decide) (hts (.fieldLink RX1 48 "CourierBees$Flight" "quarter" "I") (by decide +kernel)) (fun _ h9 => h9) (gFv_i (Or.inl rfl)) dX1_passQuarter_72 ?_
        refine lv_iconst (v := 1) hx hb dX1_passQuarter_75 (by decide) ?_
        refine lv_iadd hx hb dX1_passQuarter_76 ?_
        refine g_puti hx hb hts hiX1 tyX1 tyX1_ok nmX1 hown hK hP hS 1 rfl (by decide) h1 5 (by decide) (hts (.fieldLink RX1 48 "CourierBees$Flight" "quarter" "I") (by decide +kernel)) (fun _ h9 => h9) (Or.inl rfl) (Or.inl rfl) rfl rfl dX1_passQuarter_77 (fun H locs hP hS => ?_)
        exact g_retV hx hb hr hlocks hF hP hS (Nat.le_of_ble_eq_true rfl) (Nat.le_of_ble_eq_true rfl) dX1_passQuarter_80
      · have hF := g_f c2 hF
        refine lv_aload_n hx hb dX1_passQuarter_10 rfl (lv_at hl 0 rfl) ?_
        obtain ⟨q3, hq4, hF⟩ := g_bind hF
        refine g_get hx hb hts hiX1 hown hK hP 1 rfl (by decide) h1 1 (by decide) (hts (.fieldLink RX1 17 "CourierBees$Flight" "bees" "[LCourierBees$Bee;") (by decide +kernel)) (fun _ h9 => h9) ((gFv_r (by decide)).trans (congrArg va_rf hq4)) dX1_passQuarter_11 ?_
        refine lv_iload_n hx hb dX1_passQuarter_14 rfl (lv_at hl 1 rfl) ?_
        obtain ⟨h5, hF⟩ := g_if hF
        obtain ⟨h6, hF⟩ := g_if hF
        obtain ⟨q7, hq8, hF⟩ := g_bind hF
        refine g_aald hx hb hP (g_pr h5) (by decide) h6 hq8 dX1_passQuarter_15 ?_
        refine lv_astore_n (lv' := [(2, .ref q7), (0, .ref a0), (1, .int x1)]) hx hb dX1_passQuarter_16 rfl hl (by decide) rfl (fun ls hl => ?_)
        refine lv_aload_n hx hb dX1_passQuarter_17 rfl (lv_at hl 0 rfl) ?_
        obtain ⟨h9, hF⟩ := g_if hF
        refine g_get hx hb hts hiX0 hown hK hP 0 rfl (by decide) h9 3 (by decide) (hts (.fieldLink RX1 64 "CourierBees$Bee" "left" "I") (by decide +kernel)) (fun _ h9 => h9) (gFv_i (Or.inl rfl)) dX1_passQuarter_18 ?_
        refine lv_if_le (tgt := 34) hx hb dX1_passQuarter_21 (by decide) (fun c10 => ?_) (fun c10 => ?_)
        · have hF := g_t c10 hF
          exact HB34 _ _ _ _ _ _ _ hF hP hS (lv_sub hl [1, 2, 0] rfl)
        · have hF := g_f c10 hF
          refine lv_aload_n hx hb dX1_passQuarter_24 rfl (lv_at hl 0 rfl) ?_
          refine lv_dup hx hb dX1_passQuarter_25 rfl ?_
          refine g_get hx hb hts hiX0 hown hK hP 0 rfl (by decide) h9 3 (by decide) (hts (.fieldLink RX1 64 "CourierBees$Bee" "left" "I") (by decide +kernel)) (fun _ h9 => h9) (gFv_i (Or.inl rfl)) dX1_passQuarter_26 ?_
          refine lv_iconst (v := 1) hx hb dX1_passQuarter_29 (by decide) ?_
          refine lv_isub hx hb dX1_passQuarter_30 ?_
          refine g_puti hx hb hts hiX0 tyX0 tyX0_ok nmX0 hown hK hP hS 0 rfl (by decide) h9 3 (by decide) (hts (.fieldLink RX1 64 "CourierBees$Bee" "left" "I") (by decide +kernel)) (fun _ h9 => h9) (Or.inl rfl) (Or.inl rfl) rfl rfl dX1_passQuarter_31 (fun H locs hP hS => ?_)
          exact HB34 _ _ _ _ _ _ _ hF hP hS (lv_sub hl [1, 2, 0] rfl)
  unfold f1_passQuarter at hF
  refine lv_iconst (v := 0) hx hb dX1_passQuarter_0 (by decide) ?_
  refine lv_istore_n (lv' := [(1, .int ((0 : Int32))), (0, .ref a0)]) hx hb dX1_passQuarter_1 rfl hl (by decide) rfl (fun ls hl => ?_)
  exact HL2 300 _ _ _ _ _ _ hF hP hS (lv_sub hl [1, 0] rfl)
set_option maxHeartbeats 4000000 in
set_option maxRecDepth 100000 in
theorem k1_passQuarters (l : Launch) (D : va_G) (base : Nat) (g : g_H) (a0 : Nat) (x1 : Int32) (rr : Int32) (gz : g_H) (hF : f1_passQuarters g a0 x1 = some (rr, gz)) : Met l yX1_passQuarters wsX1_passQuarters ({ frames := 5, cells := 0, slots := 0, locals := 114 } : Room) (va_Pc [.ref a0, .int x1] (gC base D g)) (gQi base D rr gz) 0 0 (gA base) := by
  refine g_met (cc := cX1_passQuarters) (maxL := 4) (ret := (some .int)) (lst := [(0, .ref a0), (1, .int x1)]) (by decide) rfl (Nat.le_of_ble_eq_true rfl) rfl ?_
  intro p e s m args below meth c ls hx hb hr hml hown hlocks hname hts hE hP hl
  have hown : s.vm.findClass RX1 = some m.cls := hown
  have hK := hE.1
  have hov := hE.2.2.2.2.2.2.2.1
  have hbz := hE.2.2.2.2.2.2.2.2.2.2.2.2
  have hS : va_S (gA base) s.heap s.heap [] := va_S.rf
  have hiX1 : ∀ w ∈ wsX10, w ∈ wsX1_passQuarters := by decide +kernel
  have HL7 : ∀ (n7 : Nat), ∀ (g : g_H) (a0 : Nat) (x1 : Int32) (x2 : Int32) (x3 : Int32) (H : Heap) (locs : List Loc) (ls : Array Slot), f1_passQuarters_7 n7 g a0 x1 x2 x3 = some (rr, gz) → gP base D s g H → va_S (gA base) s.heap H locs → lv_has ls 4 [(0, .ref a0), (1, .int x1), (2, .int x2), (3, .int x3)] → W p l e ({ frames := 5, cells := 0, slots := 0, locals := 114 } : Room) s m args below meth c H locs 0 0 (MQ below (gQi base D rr gz) args s 0 0 (gA base)) (F0 m 7 ls []) := by
    intro n7
    induction n7 with
    | zero => intro g a0 x1 x2 x3 H locs ls hF hP hS hl; exact g_no hF
    | succ n7 ih7 =>
      intro g a0 x1 x2 x3 H locs ls hF hP hS hl
      have hF : f1_passQuarters_7b (f1_passQuarters_7 n7) g a0 x1 x2 x3 = some (rr, gz) := hF
      unfold f1_passQuarters_7b at hF
      refine lv_iload_n hx hb dX1_passQuarters_7 rfl (lv_at hl 3 rfl) ?_
      refine lv_iload_n hx hb dX1_passQuarters_8 rfl (lv_at hl 1 rfl) ?_
      refine lv_icmp_ge (tgt := 22) hx hb dX1_passQuarters_9 (by decide) (fun c2 => ?_) (fun c2 => ?_)
      · have hF := g_t c2 hF
        refine lv_aload_n hx hb dX1_passQuarters_22 rfl (lv_at hl 0 rfl) ?_
        obtain ⟨h3, hF⟩ := g_if hF
        refine g_get hx hb hts hiX1 hown hK hP 1 rfl (by decide) h3 6 (by decide) (hts (.fieldLink RX1 51 "CourierBees$Flight" "arrivals" "I") (by decide +kernel)) (fun _ h9 => h9) (gFv_i (Or.inl rfl)) dX1_passQuarters_23 ?_
        refine lv_iload_n hx hb dX1_passQuarters_26 rfl (lv_at hl 2 rfl) ?_
        refine lv_isub hx hb dX1_passQuarters_27 ?_
        exact g_retI hx hb hr hlocks hF hP hS (Nat.le_of_ble_eq_true rfl) (Nat.le_of_ble_eq_true rfl) dX1_passQuarters_28
      · have hF := g_f c2 hF
        refine lv_aload_n hx hb dX1_passQuarters_12 rfl (lv_at hl 0 rfl) ?_
        obtain ⟨h5, hF⟩ := g_if hF
        obtain ⟨g6, h4, hF⟩ := g_bind hF
        refine g_callv (va_runV (As := []) (rest := []) ⟨hx, hb, hml, hown, hts⟩ (k1_passQuarter l D base g a0 g6 h4) (cwV 0 hts gX1_passQuarters_X1_passQuarter rfl rfl rfl (by decide +kernel) ⟨Nat.le_of_ble_eq_true rfl, Nat.le_of_ble_eq_true rfl⟩) (gC.preV hE hP hS 1 rfl (by decide) h5 []) rfl rfl hl.1 rfl (lv_room (Nat.le_of_ble_eq_true rfl)) dX1_passQuarters_13 ⟨(Nat.le_of_ble_eq_true rfl), (Nat.le_of_ble_eq_true rfl)⟩) hS (fun H locs hP hS => ?_)
        refine lv_iinc (v := x3 + (1 : Int32)) (lv' := [(3, .int (x3 + (1 : Int32))), (0, .ref a0), (1, .int x1), (2, .int x2)]) hx hb dX1_passQuarters_16 hl (k := 3) rfl rfl (by decide) rfl (fun ls hl => ?_)
        refine lv_goto (tgt := 7) hx hb dX1_passQuarters_19 (by decide) ?_
        exact ih7 _ _ _ _ _ _ _ _ hF hP hS (lv_sub hl [1, 2, 3, 0] rfl)
  unfold f1_passQuarters at hF
  refine lv_aload_n hx hb dX1_passQuarters_0 rfl (lv_at hl 0 rfl) ?_
  obtain ⟨h1, hF⟩ := g_if hF
  refine g_get hx hb hts hiX1 hown hK hP 1 rfl (by decide) h1 6 (by decide) (hts (.fieldLink RX1 51 "CourierBees$Flight" "arrivals" "I") (by decide +kernel)) (fun _ h9 => h9) (gFv_i (Or.inl rfl)) dX1_passQuarters_1 ?_
  refine lv_istore_n (lv' := [(2, .int (gI g a0 6)), (0, .ref a0), (1, .int x1)]) hx hb dX1_passQuarters_4 rfl hl (by decide) rfl (fun ls hl => ?_)
  refine lv_iconst (v := 0) hx hb dX1_passQuarters_5 (by decide) ?_
  refine lv_istore_n (lv' := [(3, .int ((0 : Int32))), (2, .int (gI g a0 6)), (0, .ref a0), (1, .int x1)]) hx hb dX1_passQuarters_6 rfl hl (by decide) rfl (fun ls hl => ?_)
  exact HL7 300 _ _ _ _ _ _ _ _ hF hP hS (lv_sub hl [2, 3, 1, 0] rfl)
end
