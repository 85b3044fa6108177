set_option maxHeartbeats 4000000 in
set_option maxRecDepth 100000 in
theorem k3_init (l : Launch) (D : va_G) (base : Nat) (g : g_H) (a0 : Nat) (gz : g_H) (hF : f3_init g a0 = some gz) : Met l yX3_init wsX3_init ({ frames := 1, cells := 0, slots := 0, locals := 22 } : Room) (va_Pc [.ref a0] (gC base D g)) (gQv base D gz) 0 0 (gA base) := by
  refine g_met (cc := cX3_init) (maxL := 1) (ret := none) (lst := [(0, .ref a0)]) (by decide) rfl (Nat.le_of_ble_eq_true rfl) rfl ?_
  intro p e s m args below meth c ls hx hb hr hml hown hlocks hname hts hE hP hl
  have hown : s.vm.findClass RX3 = some m.cls := hown
  have hK := hE.1
  have hov := hE.2.2.2.2.2.2.2.1
  have hbz := hE.2.2.2.2.2.2.2.2.2.2.2.2
  have hS : va_S (gA base) s.heap s.heap [] := va_S.rf
  unfold f3_init at hF
  refine lv_aload_n hx hb dX3_init_0 rfl (lv_at hl 0 rfl) ?_
  refine W.objInit hx hb hown (hts (.methodLink RX3 3 objectInit) (by decide +kernel)) (hts (.instanceMethod objectInit) (by decide +kernel)) (hts (.code objectInit ⟨#[0xb1]⟩ 1 none) (by decide +kernel)) rfl (by rw [hml]; exact hl.1) rfl dX3_init_1 (Nat.le_of_ble_eq_true rfl) (Nat.le_of_ble_eq_true rfl) ?_
  refine W.eq (g2 := F0 m 4 ls []) rfl ?_
  exact g_retV hx hb hr hlocks hF hP hS (Nat.le_of_ble_eq_true rfl) (Nat.le_of_ble_eq_true rfl) dX3_init_4
set_option maxHeartbeats 4000000 in
set_option maxRecDepth 100000 in
theorem k3_copyFrom (l : Launch) (D : va_G) (base : Nat) (g : g_H) (a0 : Nat) (a1 : Nat) (gz : g_H) (hF : f3_copyFrom g a0 a1 = some gz) : Met l yX3_copyFrom wsX3_copyFrom ({ frames := 0, cells := 0, slots := 0, locals := 0 } : Room) (va_Pc [.ref a0, .ref a1] (gC base D g)) (gQv base D gz) 0 0 (gA base) := by
  refine g_met (cc := cX3_copyFrom) (maxL := 2) (ret := none) (lst := [(0, .ref a0), (1, .ref a1)]) (by decide) rfl (Nat.le_of_ble_eq_true rfl) rfl ?_
  intro p e s m args below meth c ls hx hb hr hml hown hlocks hname hts hE hP hl
  have hown : s.vm.findClass RX3 = some m.cls := hown
  have hK := hE.1
  have hov := hE.2.2.2.2.2.2.2.1
  have hbz := hE.2.2.2.2.2.2.2.2.2.2.2.2
  have hS : va_S (gA base) s.heap s.heap [] := va_S.rf
  have hiX3 : ∀ w ∈ wsX30, w ∈ wsX3_copyFrom := by decide +kernel
  unfold f3_copyFrom at hF
  refine lv_aload_n hx hb dX3_copyFrom_0 rfl (lv_at hl 0 rfl) ?_
  refine lv_aload_n hx hb dX3_copyFrom_1 rfl (lv_at hl 1 rfl) ?_
  obtain ⟨h1, hF⟩ := g_if hF
  refine g_get hx hb hts hiX3 hown hK hP 3 rfl (by decide) h1 0 (by decide) (hts (.fieldLink RX3 9 "CourierBees$Letter" "to" "I") (by decide +kernel)) (fun _ h9 => h9) (gFv_i (Or.inl rfl)) dX3_copyFrom_2 ?_
  obtain ⟨h2, hF⟩ := g_if hF
  refine g_puti hx hb hts hiX3 tyX3 tyX3_ok nmX3 hown hK hP hS 3 rfl (by decide) h2 0 (by decide) (hts (.fieldLink RX3 9 "CourierBees$Letter" "to" "I") (by decide +kernel)) (fun _ h9 => h9) (Or.inl rfl) (Or.inl rfl) rfl rfl dX3_copyFrom_5 (fun H locs hP hS => ?_)
  refine lv_aload_n hx hb dX3_copyFrom_8 rfl (lv_at hl 0 rfl) ?_
  refine lv_aload_n hx hb dX3_copyFrom_9 rfl (lv_at hl 1 rfl) ?_
  refine g_get hx hb hts hiX3 hown hK hP 3 rfl (by decide) h1 1 (by decide) (hts (.fieldLink RX3 15 "CourierBees$Letter" "lies" "I") (by decide +kernel)) (fun _ h9 => h9) (gFv_i (Or.inl rfl)) dX3_copyFrom_10 ?_
  obtain ⟨y3, e4, hF⟩ := g_let hF
  rw [e4]
  refine g_puti hx hb hts hiX3 tyX3 tyX3_ok nmX3 hown hK hP hS 3 rfl (by decide) h2 1 (by decide) (hts (.fieldLink RX3 15 "CourierBees$Letter" "lies" "I") (by decide +kernel)) (fun _ h9 => h9) (Or.inl rfl) (Or.inl rfl) rfl rfl dX3_copyFrom_13 (fun H locs hP hS => ?_)
  refine lv_aload_n hx hb dX3_copyFrom_16 rfl (lv_at hl 0 rfl) ?_
  refine lv_aload_n hx hb dX3_copyFrom_17 rfl (lv_at hl 1 rfl) ?_
  refine g_get hx hb hts hiX3 hown hK hP 3 rfl (by decide) h1 2 (by decide) (hts (.fieldLink RX3 18 "CourierBees$Letter" "carrier" "I") (by decide +kernel)) (fun _ h9 => h9) (gFv_i (Or.inl rfl)) dX3_copyFrom_18 ?_
  obtain ⟨y5, e6, hF⟩ := g_let hF
  rw [e6]
  refine g_puti hx hb hts hiX3 tyX3 tyX3_ok nmX3 hown hK hP hS 3 rfl (by decide) h2 2 (by decide) (hts (.fieldLink RX3 18 "CourierBees$Letter" "carrier" "I") (by decide +kernel)) (fun _ h9 => h9) (Or.inl rfl) (Or.inl rfl) rfl rfl dX3_copyFrom_21 (fun H locs hP hS => ?_)
  refine lv_aload_n hx hb dX3_copyFrom_24 rfl (lv_at hl 0 rfl) ?_
  refine lv_aload_n hx hb dX3_copyFrom_25 rfl (lv_at hl 1 rfl) ?_
  refine g_get hx hb hts hiX3 hown hK hP 3 rfl (by decide) h1 3 (by decide) (hts (.fieldLink RX3 21 "CourierBees$Letter" "arrivedIn" "I") (by decide +kernel)) (fun _ h9 => h9) (gFv_i (Or.inl rfl)) dX3_copyFrom_26 ?_
  obtain ⟨y7, e8, hF⟩ := g_let hF
  rw [e8]
  refine g_puti hx hb hts hiX3 tyX3 tyX3_ok nmX3 hown hK hP hS 3 rfl (by decide) h2 3 (by decide) (hts (.fieldLink RX3 21 "CourierBees$Letter" "arrivedIn" "I") (by decide +kernel)) (fun _ h9 => h9) (Or.inl rfl) (Or.inl rfl) rfl rfl dX3_copyFrom_29 (fun H locs hP hS => ?_)
  refine lv_aload_n hx hb dX3_copyFrom_32 rfl (lv_at hl 0 rfl) ?_
  refine lv_aload_n hx hb dX3_copyFrom_33 rfl (lv_at hl 1 rfl) ?_
  refine g_get hx hb hts hiX3 hown hK hP 3 rfl (by decide) h1 4 (by decide) (hts (.fieldLink RX3 24 "CourierBees$Letter" "taken" "I") (by decide +kernel)) (fun _ h9 => h9) (gFv_i (Or.inl rfl)) dX3_copyFrom_34 ?_
  obtain ⟨y9, e10, hF⟩ := g_let hF
  rw [e10]
  refine g_puti hx hb hts hiX3 tyX3 tyX3_ok nmX3 hown hK hP hS 3 rfl (by decide) h2 4 (by decide) (hts (.fieldLink RX3 24 "CourierBees$Letter" "taken" "I") (by decide +kernel)) (fun _ h9 => h9) (Or.inl rfl) (Or.inl rfl) rfl rfl dX3_copyFrom_37 (fun H locs hP hS => ?_)
  exact g_retV hx hb hr hlocks hF hP hS (Nat.le_of_ble_eq_true rfl) (Nat.le_of_ble_eq_true rfl) dX3_copyFrom_40
set_option maxHeartbeats 4000000 in
set_option maxRecDepth 100000 in
theorem k3_begin (l : Launch) (D : va_G) (base : Nat) (g : g_H) (a0 : Nat) (x1 : Int32) (x2 : Int32) (gz : g_H) (hF : f3_begin g a0 x1 x2 = some gz) : Met l yX3_begin wsX3_begin ({ frames := 0, cells := 0, slots := 0, locals := 0 } : Room) (va_Pc [.ref a0, .int x1, .int x2] (gC base D g)) (gQv base D gz) 0 0 (gA base) := by
  refine g_met (cc := cX3_begin) (maxL := 3) (ret := none) (lst := [(0, .ref a0), (1, .int x1), (2, .int x2)]) (by decide) rfl (Nat.le_of_ble_eq_true rfl) rfl ?_
  intro p e s m args below meth c ls hx hb hr hml hown hlocks hname hts hE hP hl
  have hown : s.vm.findClass RX3 = some m.cls := hown
  have hK := hE.1
  have hov := hE.2.2.2.2.2.2.2.1
  have hbz := hE.2.2.2.2.2.2.2.2.2.2.2.2
  have hS : va_S (gA base) s.heap s.heap [] := va_S.rf
  have hiX3 : ∀ w ∈ wsX30, w ∈ wsX3_begin := by decide +kernel
  unfold f3_begin at hF
  refine lv_aload_n hx hb dX3_begin_0 rfl (lv_at hl 0 rfl) ?_
  refine lv_iload_n hx hb dX3_begin_1 rfl (lv_at hl 2 rfl) ?_
  obtain ⟨h1, hF⟩ := g_if hF
  refine g_puti hx hb hts hiX3 tyX3 tyX3_ok nmX3 hown hK hP hS 3 rfl (by decide) h1 0 (by decide) (hts (.fieldLink RX3 9 "CourierBees$Letter" "to" "I") (by decide +kernel)) (fun _ h9 => h9) (Or.inl rfl) (Or.inl rfl) rfl rfl dX3_begin_2 (fun H locs hP hS => ?_)
  refine lv_aload_n hx hb dX3_begin_5 rfl (lv_at hl 0 rfl) ?_
  refine lv_iload_n hx hb dX3_begin_6 rfl (lv_at hl 1 rfl) ?_
  refine g_puti hx hb hts hiX3 tyX3 tyX3_ok nmX3 hown hK hP hS 3 rfl (by decide) h1 1 (by decide) (hts (.fieldLink RX3 15 "CourierBees$Letter" "lies" "I") (by decide +kernel)) (fun _ h9 => h9) (Or.inl rfl) (Or.inl rfl) rfl rfl dX3_begin_7 (fun H locs hP hS => ?_)
  refine lv_aload_n hx hb dX3_begin_10 rfl (lv_at hl 0 rfl) ?_
  refine lv_iconst (v := (-1)) hx hb dX3_begin_11 (by decide) ?_
  refine g_puti hx hb hts hiX3 tyX3 tyX3_ok nmX3 hown hK hP hS 3 rfl (by decide) h1 2 (by decide) (hts (.fieldLink RX3 18 "CourierBees$Letter" "carrier" "I") (by decide +kernel)) (fun _ h9 => h9) (Or.inl rfl) (Or.inl rfl) rfl rfl dX3_begin_12 (fun H locs hP hS => ?_)
  refine lv_aload_n hx hb dX3_begin_15 rfl (lv_at hl 0 rfl) ?_
  refine lv_iconst (v := (-1)) hx hb dX3_begin_16 (by decide) ?_
  refine g_puti hx hb hts hiX3 tyX3 tyX3_ok nmX3 hown hK hP hS 3 rfl (by decide) h1 3 (by decide) (hts (.fieldLink RX3 21 "CourierBees$Letter" "arrivedIn" "I") (by decide +kernel)) (fun _ h9 => h9) (Or.inl rfl) (Or.inl rfl) rfl rfl dX3_begin_17 (fun H locs hP hS => ?_)
  refine lv_aload_n hx hb dX3_begin_20 rfl (lv_at hl 0 rfl) ?_
  refine lv_iconst (v := 0) hx hb dX3_begin_21 (by decide) ?_
  refine g_puti hx hb hts hiX3 tyX3 tyX3_ok nmX3 hown hK hP hS 3 rfl (by decide) h1 4 (by decide) (hts (.fieldLink RX3 24 "CourierBees$Letter" "taken" "I") (by decide +kernel)) (fun _ h9 => h9) (Or.inl rfl) (Or.inl rfl) rfl rfl dX3_begin_22 (fun H locs hP hS => ?_)
  exact g_retV hx hb hr hlocks hF hP hS (Nat.le_of_ble_eq_true rfl) (Nat.le_of_ble_eq_true rfl) dX3_begin_25
set_option maxHeartbeats 4000000 in
set_option maxRecDepth 100000 in
theorem k3_hasArrived (l : Launch) (D : va_G) (base : Nat) (g : g_H) (a0 : Nat) (rr : Int32) (gz : g_H) (hF : f3_hasArrived g a0 = some (rr, gz)) : Met l yX3_hasArrived wsX3_hasArrived ({ frames := 0, cells := 0, slots := 0, locals := 0 } : Room) (va_Pc [.ref a0] (gC base D g)) (gQi base D rr gz) 0 0 (gA base) := by
  refine g_met (cc := cX3_hasArrived) (maxL := 1) (ret := (some .boolean)) (lst := [(0, .ref a0)]) (by decide) rfl (Nat.le_of_ble_eq_true rfl) rfl ?_
  intro p e s m args below meth c ls hx hb hr hml hown hlocks hname hts hE hP hl
  have hown : s.vm.findClass RX3 = some m.cls := hown
  have hK := hE.1
  have hov := hE.2.2.2.2.2.2.2.1
  have hbz := hE.2.2.2.2.2.2.2.2.2.2.2.2
  have hS : va_S (gA base) s.heap s.heap [] := va_S.rf
  have hiX3 : ∀ w ∈ wsX30, w ∈ wsX3_hasArrived := by decide +kernel
  unfold f3_hasArrived at hF
  refine lv_aload_n hx hb dX3_hasArrived_0 rfl (lv_at hl 0 rfl) ?_
  obtain ⟨h1, hF⟩ := g_if hF
  refine g_get hx hb hts hiX3 hown hK hP 3 rfl (by decide) h1 3 (by decide) (hts (.fieldLink RX3 21 "CourierBees$Letter" "arrivedIn" "I") (by decide +kernel)) (fun _ h9 => h9) (gFv_i (Or.inl rfl)) dX3_hasArrived_1 ?_
  refine lv_iconst (v := (-1)) hx hb dX3_hasArrived_4 (by decide) ?_
  refine lv_icmp_eq (tgt := 12) hx hb dX3_hasArrived_5 (by decide) (fun c2 => ?_) (fun c2 => ?_)
  · have hF := g_t c2 hF
    refine lv_iconst (v := 0) hx hb dX3_hasArrived_12 (by decide) ?_
    exact g_retZ hx hb hr (Or.inl rfl) hlocks hF hP hS (Nat.le_of_ble_eq_true rfl) (Nat.le_of_ble_eq_true rfl) dX3_hasArrived_13
  · have hF := g_f c2 hF
    refine lv_iconst (v := 1) hx hb dX3_hasArrived_8 (by decide) ?_
    refine lv_goto (tgt := 13) hx hb dX3_hasArrived_9 (by decide) ?_
    exact g_retZ hx hb hr (Or.inr rfl) hlocks hF hP hS (Nat.le_of_ble_eq_true rfl) (Nat.le_of_ble_eq_true rfl) dX3_hasArrived_13
set_option maxHeartbeats 4000000 in
set_option maxRecDepth 100000 in
theorem k3_tell (l : Launch) (D : va_G) (base : Nat) (g : g_H) (a0 : Nat) (x1 : Int32) (rr : Int32) (gz : g_H) (hF : f3_tell g a0 x1 = some (rr, gz)) : Met l yX3_tell wsX3_tell ({ frames := 0, cells := 0, slots := 0, locals := 0 } : Room) (va_Pc [.ref a0, .int x1] (gC base D g)) (gQi base D rr gz) 0 0 (gA base) := by
  refine g_met (cc := cX3_tell) (maxL := 2) (ret := (some .int)) (lst := [(0, .ref a0), (1, .int x1)]) (by decide) rfl (Nat.le_of_ble_eq_true rfl) rfl ?_
  intro p e s m args below meth c ls hx hb hr hml hown hlocks hname hts hE hP hl
  have hown : s.vm.findClass RX3 = some m.cls := hown
  have hK := hE.1
  have hov := hE.2.2.2.2.2.2.2.1
  have hbz := hE.2.2.2.2.2.2.2.2.2.2.2.2
  have hS : va_S (gA base) s.heap s.heap [] := va_S.rf
  have hiX3 : ∀ w ∈ wsX30, w ∈ wsX3_tell := by decide +kernel
  unfold f3_tell at hF
  refine lv_iload_n hx hb dX3_tell_0 rfl (lv_at hl 1 rfl) ?_
  by_cases c1 : x1 = (0 : Int32)
  · have hF := g_t c1 hF
    refine lv_tableIn (off := 31) (tgt := 32) hx hb dX3_tell_1 (by rw [c1]; decide) (by rw [c1]; decide) (by rw [c1]; rfl) (by decide) ?_
    refine lv_aload_n hx hb dX3_tell_32 rfl (lv_at hl 0 rfl) ?_
    obtain ⟨h5, hF⟩ := g_if hF
    refine g_get hx hb hts hiX3 hown hK hP 3 rfl (by decide) h5 0 (by decide) (hts (.fieldLink RX3 9 "CourierBees$Letter" "to" "I") (by decide +kernel)) (fun _ h9 => h9) (gFv_i (Or.inl rfl)) dX3_tell_33 ?_
    exact g_retI hx hb hr hlocks hF hP hS (Nat.le_of_ble_eq_true rfl) (Nat.le_of_ble_eq_true rfl) dX3_tell_36
  · have hF := g_f c1 hF
    by_cases c2 : x1 = (1 : Int32)
    · have hF := g_t c2 hF
      refine lv_tableIn (off := 36) (tgt := 37) hx hb dX3_tell_1 (by rw [c2]; decide) (by rw [c2]; decide) (by rw [c2]; rfl) (by decide) ?_
      refine lv_aload_n hx hb dX3_tell_37 rfl (lv_at hl 0 rfl) ?_
      obtain ⟨h6, hF⟩ := g_if hF
      refine g_get hx hb hts hiX3 hown hK hP 3 rfl (by decide) h6 1 (by decide) (hts (.fieldLink RX3 15 "CourierBees$Letter" "lies" "I") (by decide +kernel)) (fun _ h9 => h9) (gFv_i (Or.inl rfl)) dX3_tell_38 ?_
      exact g_retI hx hb hr hlocks hF hP hS (Nat.le_of_ble_eq_true rfl) (Nat.le_of_ble_eq_true rfl) dX3_tell_41
    · have hF := g_f c2 hF
      by_cases c3 : x1 = (2 : Int32)
      · have hF := g_t c3 hF
        refine lv_tableIn (off := 41) (tgt := 42) hx hb dX3_tell_1 (by rw [c3]; decide) (by rw [c3]; decide) (by rw [c3]; rfl) (by decide) ?_
        refine lv_aload_n hx hb dX3_tell_42 rfl (lv_at hl 0 rfl) ?_
        obtain ⟨h7, hF⟩ := g_if hF
        refine g_get hx hb hts hiX3 hown hK hP 3 rfl (by decide) h7 2 (by decide) (hts (.fieldLink RX3 18 "CourierBees$Letter" "carrier" "I") (by decide +kernel)) (fun _ h9 => h9) (gFv_i (Or.inl rfl)) dX3_tell_43 ?_
        exact g_retI hx hb hr hlocks hF hP hS (Nat.le_of_ble_eq_true rfl) (Nat.le_of_ble_eq_true rfl) dX3_tell_46
      · have hF := g_f c3 hF
        by_cases c4 : x1 = (3 : Int32)
        · have hF := g_t c4 hF
          refine lv_tableIn (off := 46) (tgt := 47) hx hb dX3_tell_1 (by rw [c4]; decide) (by rw [c4]; decide) (by rw [c4]; rfl) (by decide) ?_
          refine lv_aload_n hx hb dX3_tell_47 rfl (lv_at hl 0 rfl) ?_
          obtain ⟨h8, hF⟩ := g_if hF
          refine g_get hx hb hts hiX3 hown hK hP 3 rfl (by decide) h8 3 (by decide) (hts (.fieldLink RX3 21 "CourierBees$Letter" "arrivedIn" "I") (by decide +kernel)) (fun _ h9 => h9) (gFv_i (Or.inl rfl)) dX3_tell_48 ?_
          exact g_retI hx hb hr hlocks hF hP hS (Nat.le_of_ble_eq_true rfl) (Nat.le_of_ble_eq_true rfl) dX3_tell_51
        · have hF := g_f c4 hF
          refine lv_tableOut (tgt := 52) hx hb dX3_tell_1 (by have h9 := g_out x1 3 (by decide) (fun k hk => by rcases (show k = 0 ∨ k = 1 ∨ k = 2 ∨ k = 3 by omega) with rfl | rfl | rfl | rfl <;> assumption); omega) (by decide) ?_
          refine lv_aload_n hx hb dX3_tell_52 rfl (lv_at hl 0 rfl) ?_
          obtain ⟨h9, hF⟩ := g_if hF
          refine g_get hx hb hts hiX3 hown hK hP 3 rfl (by decide) h9 4 (by decide) (hts (.fieldLink RX3 24 "CourierBees$Letter" "taken" "I") (by decide +kernel)) (fun _ h9 => h9) (gFv_i (Or.inl rfl)) dX3_tell_53 ?_
          exact g_retI hx hb hr hlocks hF hP hS (Nat.le_of_ble_eq_true rfl) (Nat.le_of_ble_eq_true rfl) dX3_tell_56
set_option maxHeartbeats 4000000 in
set_option maxRecDepth 100000 in
theorem k3_digestFrom (l : Launch) (D : va_G) (base : Nat) (g : g_H) (a0 : Nat) (j1 : Int64) (rr : Int64) (gz : g_H) (hF : f3_digestFrom g a0 j1 = some (rr, gz)) : Met l yX3_digestFrom wsX3_digestFrom ({ frames := 1, cells := 0, slots := 0, locals := 21 } : Room) (va_Pc [.ref a0, .long j1] (gC base D g)) (gQl base D rr gz) 0 0 (gA base) := by
  refine g_met (cc := cX3_digestFrom) (maxL := 6) (ret := (some .long)) (lst := [(0, .ref a0), (1, .long j1)]) (by decide) rfl (Nat.le_of_ble_eq_true rfl) rfl ?_
  intro p e s m args below meth c ls hx hb hr hml hown hlocks hname hts hE hP hl
  have hown : s.vm.findClass RX3 = some m.cls := hown
  have hK := hE.1
  have hov := hE.2.2.2.2.2.2.2.1
  have hbz := hE.2.2.2.2.2.2.2.2.2.2.2.2
  have hS : va_S (gA base) s.heap s.heap [] := va_S.rf
  have HL5 : ∀ (n5 : Nat), ∀ (g : g_H) (a0 : Nat) (j3 : Int64) (x5 : Int32) (H : Heap) (locs : List Loc) (ls : Array Slot), f3_digestFrom_5 n5 g a0 j3 x5 = some (rr, gz) → gP base D s g H → va_S (gA base) s.heap H locs → lv_has ls 6 [(0, .ref a0), (3, .long j3), (5, .int x5)] → W p l e ({ frames := 1, cells := 0, slots := 0, locals := 21 } : Room) s m args below meth c H locs 0 0 (MQ below (gQl base D rr gz) args s 0 0 (gA base)) (F0 m 5 ls []) := by
    intro n5
    induction n5 with
    | zero => intro g a0 j3 x5 H locs ls hF hP hS hl; exact g_no hF
    | succ n5 ih5 =>
      intro g a0 j3 x5 H locs ls hF hP hS hl
      have hF : f3_digestFrom_5b (f3_digestFrom_5 n5) g a0 j3 x5 = some (rr, gz) := hF
      unfold f3_digestFrom_5b at hF
      refine lv_iload hx hb dX3_digestFrom_5 (lv_at hl 2 rfl) ?_
      refine lv_iconst (v := 5) hx hb dX3_digestFrom_7 (by decide) ?_
      refine lv_icmp_ge (tgt := 31) hx hb dX3_digestFrom_8 (by decide) (fun c1 => ?_) (fun c1 => ?_)
      · have hF := g_t c1 hF
        refine lv_lload_n hx hb dX3_digestFrom_31 rfl (lv_at hl 1 rfl) ?_
        exact g_retJ hx hb hr hlocks hF hP hS (Nat.le_of_ble_eq_true rfl) (Nat.le_of_ble_eq_true rfl) dX3_digestFrom_32
      · have hF := g_f c1 hF
        refine lv_lload_n hx hb dX3_digestFrom_11 rfl (lv_at hl 1 rfl) ?_
        refine lv_ldc2 (v := 31) hx hb hown (hts (.constantLong RX3 27 (31)) (by decide +kernel)) dX3_digestFrom_12 ?_
        refine lv_lmul hx hb dX3_digestFrom_15 ?_
        refine lv_aload_n hx hb dX3_digestFrom_16 rfl (lv_at hl 0 rfl) ?_
        refine lv_iload hx hb dX3_digestFrom_17 (lv_at hl 2 rfl) ?_
        obtain ⟨h3, hF⟩ := g_if hF
        obtain ⟨v5, g4, h2, hF⟩ := g_bind2 hF
        refine g_calli (va_runV (As := [.int x5]) (rest := [.long (j3 * ((31 : Int64)))]) ⟨hx, hb, hml, hown, hts⟩ (k3_tell l D base g a0 x5 v5 g4 h2) (cwV 1 hts gX3_digestFrom_X3_tell rfl rfl rfl (by decide +kernel) ⟨Nat.le_of_ble_eq_true rfl, Nat.le_of_ble_eq_true rfl⟩) (gC.preV hE hP hS 3 rfl (by decide) h3 [.int x5]) rfl rfl hl.1 rfl (lv_room (Nat.le_of_ble_eq_true rfl)) dX3_digestFrom_19 ⟨(Nat.le_of_ble_eq_true rfl), (Nat.le_of_ble_eq_true rfl)⟩) hS (fun H locs hP hS => ?_)
        refine lv_i2l hx hb dX3_digestFrom_22 rfl ?_
        refine lv_ladd hx hb dX3_digestFrom_23 ?_
        refine lv_lstore_n (lv' := [(3, .long ((j3 * ((31 : Int64))) + (Int32.toInt64 v5))), (0, .ref a0), (5, .int x5)]) hx hb dX3_digestFrom_24 rfl hl (by decide) rfl (fun ls hl => ?_)
        refine lv_iinc (v := x5 + (1 : Int32)) (lv' := [(5, .int (x5 + (1 : Int32))), (3, .long ((j3 * ((31 : Int64))) + (Int32.toInt64 v5))), (0, .ref a0)]) hx hb dX3_digestFrom_25 hl (k := 2) rfl rfl (by decide) rfl (fun ls hl => ?_)
        refine lv_goto (tgt := 5) hx hb dX3_digestFrom_28 (by decide) ?_
        exact ih5 _ _ _ _ _ _ _ hF hP hS (lv_sub hl [2, 1, 0] rfl)
  unfold f3_digestFrom at hF
  refine lv_lload_n hx hb dX3_digestFrom_0 rfl (lv_at hl 1 rfl) ?_
  refine lv_lstore_n (lv' := [(3, .long j1), (0, .ref a0), (1, .long j1)]) hx hb dX3_digestFrom_1 rfl hl (by decide) rfl (fun ls hl => ?_)
  refine lv_iconst (v := 0) hx hb dX3_digestFrom_2 (by decide) ?_
  refine lv_istore (lv' := [(5, .int ((0 : Int32))), (3, .long j1), (0, .ref a0), (1, .long j1)]) hx hb dX3_digestFrom_3 hl (by decide) rfl (fun ls hl => ?_)
  exact HL5 300 _ _ _ _ _ _ _ hF hP hS (lv_sub hl [2, 1, 0] rfl)
