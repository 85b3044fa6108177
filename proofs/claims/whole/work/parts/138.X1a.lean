set_option maxHeartbeats 4000000 in
set_option maxRecDepth 100000 in
theorem k1_init (l : Launch) (D : va_G) (base : Nat) (g : g_H) (a0 : Nat) (a1 : Nat) (gz : g_H) (hF : f1_init g a0 a1 = some gz) : Met l yX1_init wsX1_init ({ frames := 3, cells := 59, slots := 430, locals := 63 } : Room) (va_Pc [.ref a0, .ref a1] (gC base D g)) (gQv base D gz) 59 430 (gA base) := by
  refine g_met (cc := cX1_init) (maxL := 3) (ret := none) (lst := [(0, .ref a0), (1, .ref a1)]) (by decide) rfl (Nat.le_of_ble_eq_true rfl) rfl ?_
  intro p e s m args below meth c ls hx hb hr hml hown hlocks hname hts hE hP hl
  have hown : s.vm.findClass RX1 = some m.cls := hown
  have hK := hE.1
  have hov := hE.2.2.2.2.2.2.2.1
  have hbz := hE.2.2.2.2.2.2.2.2.2.2.2.2
  have hS : va_S (gA base) s.heap s.heap [] := va_S.rf
  have hiX0 : ∀ w ∈ wsX00, w ∈ wsX1_init := by decide +kernel
  have hiX1 : ∀ w ∈ wsX10, w ∈ wsX1_init := by decide +kernel
  have hiX3 : ∀ w ∈ wsX30, w ∈ wsX1_init := by decide +kernel
  have HL57 : ∀ (n57 : Nat), n57 ≤ 21 → ∀ (g : g_H) (a0 : Nat) (x2 : Int32) (H : Heap) (locs : List Loc) (ls : Array Slot), f1_init_57 n57 g a0 x2 = some gz → gP base D s g H → va_S (gA base) s.heap H locs → lv_has ls 3 [(0, .ref a0), (2, .int x2)] → W p l e ({ frames := 3, cells := 59, slots := 430, locals := 63 } : Room) s m args below meth c H locs (37 + (21 - n57) * 1) (320 + (21 - n57) * 5) (MQ below (gQv base D gz) args s 59 430 (gA base)) (F0 m 57 ls []) := by
    intro n57
    induction n57 with
    | zero => intro hle57 g a0 x2 H locs ls hF hP hS hl; exact g_no hF
    | succ n57 ih57 =>
      intro hle57
      intro g a0 x2 H locs ls hF hP hS hl
      have hF : f1_init_57b (f1_init_57 n57) g a0 x2 = some gz := hF
      unfold f1_init_57b at hF
      refine lv_iload_n hx hb dX1_init_57 rfl (lv_at hl 1 rfl) ?_
      refine lv_bipush (v := 20) hx hb dX1_init_58 (by decide) ?_
      refine lv_icmp_ge (tgt := 82) hx hb dX1_init_60 (by decide) (fun c15 => ?_) (fun c15 => ?_)
      · have hF := g_t c15 hF
        refine W.widen (k := 58) (n := 425) (by omega) (by omega) ?_
        refine lv_aload_n hx hb dX1_init_82 rfl (lv_at hl 0 rfl) ?_
        refine lv_iconst (v := (-1)) hx hb dX1_init_83 (by decide) ?_
        obtain ⟨h16, hF⟩ := g_if hF
        refine g_puti hx hb hts hiX1 tyX1 tyX1_ok nmX1 hown hK hP hS 1 rfl (by decide) h16 7 (by decide) (hts (.fieldLink RX1 31 "CourierBees$Flight" "openLane" "I") (by decide +kernel)) (fun _ h9 => h9) (Or.inl rfl) (Or.inl rfl) rfl rfl dX1_init_84 (fun H locs hP hS => ?_)
        exact g_retV hx hb hr hlocks hF hP hS (Nat.le_of_ble_eq_true rfl) (Nat.le_of_ble_eq_true rfl) dX1_init_87
      · have hF := g_f c15 hF
        refine lv_aload_n hx hb dX1_init_63 rfl (lv_at hl 0 rfl) ?_
        obtain ⟨h17, hF⟩ := g_if hF
        obtain ⟨q18, hq19, hF⟩ := g_bind hF
        refine g_get hx hb hts hiX1 hown hK hP 1 rfl (by decide) h17 2 (by decide) (hts (.fieldLink RX1 26 "CourierBees$Flight" "letters" "[LCourierBees$Letter;") (by decide +kernel)) (fun _ h9 => h9) ((gFv_r (by decide)).trans (congrArg va_rf hq19)) dX1_init_64 ?_
        refine lv_iload_n hx hb dX1_init_67 rfl (lv_at hl 1 rfl) ?_
        obtain ⟨q20, g21, e22, e23, h24, hF⟩ := g_nw hF
        refine g_new hx hb hts hiX3 tyX3 tyX3_ok hown (hts (.classLink RX1 24 RX3) (by decide +kernel)) (hts (.instantiable RX3 5) (by decide +kernel)) (hts (.initialized RX3) (by decide +kernel)) hK hP hS hbz 3 rfl (by decide) dfX3 (by show _ ≤ (59 : Nat); omega) (by show _ ≤ (430 : Nat); omega) dX1_init_68 (fun H hP hS => ?_)
        rw [e23] at hP
        rw [e22]
        refine lv_dup hx hb dX1_init_71 rfl ?_
        obtain ⟨g26, h25, hF⟩ := g_bind hF
        refine g_callv (va_runIN (As := []) (rest := [.ref q20, .int x2, .ref q18]) ⟨hx, hb, hml, hown, hts⟩ (k3_init l D base g21 q20 g26 h25) ⟨va_cnB 0 hts gX1_init_X3_init_n30 rfl rfl rfl (hE.2.2.2.2.2.2.2.2.2.2.2.1 (RX1, 30, yX3_init) (by decide)) (hts (.initialized RX3) (by decide +kernel)) (by decide +kernel) ⟨Nat.le_of_ble_eq_true rfl, Nat.le_of_ble_eq_true rfl⟩, rfl, hts (.instanceMethod yX3_init) (by decide +kernel)⟩ (gC.preS hE hP hS (.ref q20 :: [])) rfl rfl hl.1 rfl (lv_room (Nat.le_of_ble_eq_true rfl)) dX1_init_72 ⟨(by show _ ≤ (59 : Nat); omega), (by show _ ≤ (430 : Nat); omega)⟩) hS (fun H locs hP hS => ?_)
        obtain ⟨h28, hF⟩ := g_if hF
        obtain ⟨h29, hF⟩ := g_if hF
        obtain ⟨h30, hF⟩ := g_if hF
        refine g_aast hx hb hK hP hS (g_pr h28) (by decide) 3 rfl rfl (by decide) h30 h29 dX1_init_75 (fun H locs hP hS => ?_)
        refine lv_iinc (v := x2 + (1 : Int32)) (lv' := [(2, .int (x2 + (1 : Int32))), (0, .ref a0)]) hx hb dX1_init_76 hl (k := 1) rfl rfl (by decide) rfl (fun ls hl => ?_)
        refine lv_goto (tgt := 57) hx hb dX1_init_79 (by decide) ?_
        refine W.widen (k := 37 + (21 - n57) * 1) (n := 320 + (21 - n57) * 5) (by omega) (by omega) ?_
        exact ih57 (by omega) _ _ _ _ _ _ hF hP hS (lv_sub hl [1, 0] rfl)
  have HL20 : ∀ (n20 : Nat), n20 ≤ 7 → ∀ (g : g_H) (a0 : Nat) (x2 : Int32) (H : Heap) (locs : List Loc) (ls : Array Slot), f1_init_20 n20 g a0 x2 = some gz → gP base D s g H → va_S (gA base) s.heap H locs → lv_has ls 3 [(0, .ref a0), (2, .int x2)] → W p l e ({ frames := 3, cells := 59, slots := 430, locals := 63 } : Room) s m args below meth c H locs (1 + (7 - n20) * 5) (6 + (7 - n20) * 42) (MQ below (gQv base D gz) args s 59 430 (gA base)) (F0 m 20 ls []) := by
    intro n20
    induction n20 with
    | zero => intro hle20 g a0 x2 H locs ls hF hP hS hl; exact g_no hF
    | succ n20 ih20 =>
      intro hle20
      intro g a0 x2 H locs ls hF hP hS hl
      have hF : f1_init_20b (f1_init_20 n20) g a0 x2 = some gz := hF
      unfold f1_init_20b at hF
      refine lv_iload_n hx hb dX1_init_20 rfl (lv_at hl 1 rfl) ?_
      refine lv_bipush (v := 6) hx hb dX1_init_21 (by decide) ?_
      refine lv_icmp_ge (tgt := 46) hx hb dX1_init_23 (by decide) (fun c8 => ?_) (fun c8 => ?_)
      · have hF := g_t c8 hF
        refine W.widen (k := 36) (n := 300) (by omega) (by omega) ?_
        refine lv_aload_n hx hb dX1_init_46 rfl (lv_at hl 0 rfl) ?_
        refine lv_bipush (v := 20) hx hb dX1_init_47 (by decide) ?_
        obtain ⟨q9, g10, e11, e12, h13, hF⟩ := g_nw hF
        refine g_newq hx hb hown (hts (.classLink RX1 24 "CourierBees$Letter") (by decide +kernel)) hE.2.2.2.2.2.2.1 17 rfl (by decide) hP hS hbz (n := 20) (N' := 20) (by decide) (by decide) (Nat.le_of_ble_eq_true rfl) (Nat.le_of_ble_eq_true rfl) (Nat.le_of_ble_eq_true rfl) dX1_init_49 (fun H hP hS => ?_)
        rw [e12] at hP
        rw [e11]
        obtain ⟨h14, hF⟩ := g_if hF
        refine g_putr hx hb hts hiX1 tyX1 tyX1_ok nmX1 hown hK hP hS 1 rfl (by decide) h14 2 (by decide) (hts (.fieldLink RX1 26 "CourierBees$Flight" "letters" "[LCourierBees$Letter;") (by decide +kernel)) (fun _ h9 => h9) (Or.inr ⟨rfl, hname, rfl⟩) (by decide) rfl rfl dX1_init_52 (fun H locs hP hS => ?_)
        refine lv_iconst (v := 0) hx hb dX1_init_55 (by decide) ?_
        refine lv_istore_n (lv' := [(2, .int ((0 : Int32))), (0, .ref a0)]) hx hb dX1_init_56 rfl hl (by decide) rfl (fun ls hl => ?_)
        refine W.widen (k := 37 + (21 - 21) * 1) (n := 320 + (21 - 21) * 5) (by omega) (by omega) ?_
        exact HL57 21 (Nat.le_refl _) _ _ _ _ _ _ hF hP hS (lv_sub hl [1, 0] rfl)
      · have hF := g_f c8 hF
        refine lv_aload_n hx hb dX1_init_26 rfl (lv_at hl 0 rfl) ?_
        obtain ⟨h31, hF⟩ := g_if hF
        obtain ⟨q32, hq33, hF⟩ := g_bind hF
        refine g_get hx hb hts hiX1 hown hK hP 1 rfl (by decide) h31 1 (by decide) (hts (.fieldLink RX1 17 "CourierBees$Flight" "bees" "[LCourierBees$Bee;") (by decide +kernel)) (fun _ h9 => h9) ((gFv_r (by decide)).trans (congrArg va_rf hq33)) dX1_init_27 ?_
        refine lv_iload_n hx hb dX1_init_30 rfl (lv_at hl 1 rfl) ?_
        obtain ⟨q34, g35, e36, e37, h38, hF⟩ := g_nw hF
        refine g_new hx hb hts hiX0 tyX0 tyX0_ok hown (hts (.classLink RX1 15 RX0) (by decide +kernel)) (hts (.instantiable RX0 10) (by decide +kernel)) (hts (.initialized RX0) (by decide +kernel)) hK hP hS hbz 0 rfl (by decide) dfX0 (by show _ ≤ (59 : Nat); omega) (by show _ ≤ (430 : Nat); omega) dX1_init_31 (fun H hP hS => ?_)
        rw [e37] at hP
        rw [e36]
        refine lv_dup hx hb dX1_init_34 rfl ?_
        refine lv_iload_n hx hb dX1_init_35 rfl (lv_at hl 1 rfl) ?_
        obtain ⟨g40, h39, hF⟩ := g_bind hF
        refine g_callv (va_runI (As := [.int x2]) (rest := [.ref q34, .int x2, .ref q32]) ⟨hx, hb, hml, hown, hts⟩ (k0_init l D base g35 q34 x2 g40 h39) (cwI 1 hts gX1_init_X0_init rfl rfl rfl (hts (.initialized RX0) (by decide +kernel)) (hts (.methodLink RX1 21 yX0_init) (by decide +kernel)) (hts (.instanceMethod yX0_init) (by decide +kernel)) rfl (by decide +kernel) ⟨Nat.le_of_ble_eq_true rfl, Nat.le_of_ble_eq_true rfl⟩) (gC.preS hE hP hS (.ref q34 :: [.int x2])) rfl rfl hl.1 rfl (lv_room (Nat.le_of_ble_eq_true rfl)) dX1_init_36 ⟨(by show _ ≤ (59 : Nat); omega), (by show _ ≤ (430 : Nat); omega)⟩) hS (fun H locs hP hS => ?_)
        obtain ⟨h42, hF⟩ := g_if hF
        obtain ⟨h43, hF⟩ := g_if hF
        obtain ⟨h44, hF⟩ := g_if hF
        refine g_aast hx hb hK hP hS (g_pr h42) (by decide) 0 rfl rfl (by decide) h44 h43 dX1_init_39 (fun H locs hP hS => ?_)
        refine lv_iinc (v := x2 + (1 : Int32)) (lv' := [(2, .int (x2 + (1 : Int32))), (0, .ref a0)]) hx hb dX1_init_40 hl (k := 1) rfl rfl (by decide) rfl (fun ls hl => ?_)
        refine lv_goto (tgt := 20) hx hb dX1_init_43 (by decide) ?_
        refine W.widen (k := 1 + (7 - n20) * 5) (n := 6 + (7 - n20) * 42) (by omega) (by omega) ?_
        exact ih20 (by omega) _ _ _ _ _ _ hF hP hS (lv_sub hl [1, 0] rfl)
  unfold f1_init at hF
  refine lv_aload_n hx hb dX1_init_0 rfl (lv_at hl 0 rfl) ?_
  refine W.objInit hx hb hown (hts (.methodLink RX1 3 objectInit) (by decide +kernel)) (hts (.instanceMethod objectInit) (by decide +kernel)) (hts (.code objectInit ⟨#[0xb1]⟩ 1 none) (by decide +kernel)) rfl (by rw [hml]; exact hl.1) rfl dX1_init_1 (Nat.le_of_ble_eq_true rfl) (Nat.le_of_ble_eq_true rfl) ?_
  refine W.eq (g2 := F0 m 4 ls []) rfl ?_
  refine lv_aload_n hx hb dX1_init_4 rfl (lv_at hl 0 rfl) ?_
  refine lv_aload_n hx hb dX1_init_5 rfl (lv_at hl 1 rfl) ?_
  obtain ⟨h1, hF⟩ := g_if hF
  refine g_putr hx hb hts hiX1 tyX1 tyX1_ok nmX1 hown hK hP hS 1 rfl (by decide) h1 0 (by decide) (hts (.fieldLink RX1 9 "CourierBees$Flight" "town" "LCourierBees$Town;") (by decide +kernel)) (fun _ h9 => h9) (Or.inr ⟨rfl, hname, rfl⟩) (by decide) rfl rfl dX1_init_6 (fun H locs hP hS => ?_)
  refine lv_aload_n hx hb dX1_init_9 rfl (lv_at hl 0 rfl) ?_
  refine lv_bipush (v := 6) hx hb dX1_init_10 (by decide) ?_
  obtain ⟨q2, g3, e4, e5, h6, hF⟩ := g_nw hF
  refine g_newq hx hb hown (hts (.classLink RX1 15 "CourierBees$Bee") (by decide +kernel)) hE.2.2.2.2.1 15 rfl (by decide) hP hS hbz (n := 6) (N' := 6) (by decide) (by decide) (Nat.le_of_ble_eq_true rfl) (Nat.le_of_ble_eq_true rfl) (Nat.le_of_ble_eq_true rfl) dX1_init_12 (fun H hP hS => ?_)
  rw [e5] at hP
  rw [e4]
  obtain ⟨h7, hF⟩ := g_if hF
  refine g_putr hx hb hts hiX1 tyX1 tyX1_ok nmX1 hown hK hP hS 1 rfl (by decide) h7 1 (by decide) (hts (.fieldLink RX1 17 "CourierBees$Flight" "bees" "[LCourierBees$Bee;") (by decide +kernel)) (fun _ h9 => h9) (Or.inr ⟨rfl, hname, rfl⟩) (by decide) rfl rfl dX1_init_15 (fun H locs hP hS => ?_)
  refine lv_iconst (v := 0) hx hb dX1_init_18 (by decide) ?_
  refine lv_istore_n (lv' := [(2, .int ((0 : Int32))), (0, .ref a0), (1, .ref a1)]) hx hb dX1_init_19 rfl hl (by decide) rfl (fun ls hl => ?_)
  refine W.widen (k := 1 + (7 - 7) * 5) (n := 6 + (7 - 7) * 42) (by omega) (by omega) ?_
  exact HL20 7 (Nat.le_refl _) _ _ _ _ _ _ hF hP hS (lv_sub hl [1, 0] rfl)
set_option maxHeartbeats 4000000 in
set_option maxRecDepth 100000 in
theorem k1_copyFrom (l : Launch) (D : va_G) (base : Nat) (g : g_H) (a0 : Nat) (a1 : Nat) (gz : g_H) (hF : f1_copyFrom g a0 a1 = some gz) : Met l yX1_copyFrom wsX1_copyFrom ({ frames := 1, cells := 0, slots := 0, locals := 21 } : Room) (va_Pc [.ref a0, .ref a1] (gC base D g)) (gQv base D gz) 0 0 (gA base) := by
  refine g_met (cc := cX1_copyFrom) (maxL := 3) (ret := none) (lst := [(0, .ref a0), (1, .ref a1)]) (by decide) rfl (Nat.le_of_ble_eq_true rfl) rfl ?_
  intro p e s m args below meth c ls hx hb hr hml hown hlocks hname hts hE hP hl
  have hown : s.vm.findClass RX1 = some m.cls := hown
  have hK := hE.1
  have hov := hE.2.2.2.2.2.2.2.1
  have hbz := hE.2.2.2.2.2.2.2.2.2.2.2.2
  have hS : va_S (gA base) s.heap s.heap [] := va_S.rf
  have hiX1 : ∀ w ∈ wsX10, w ∈ wsX1_copyFrom := by decide +kernel
  have HL49 : ∀ (n49 : Nat), ∀ (g : g_H) (a0 : Nat) (a1 : Nat) (x2 : Int32) (H : Heap) (locs : List Loc) (ls : Array Slot), f1_copyFrom_49 n49 g a0 a1 x2 = some gz → gP base D s g H → va_S (gA base) s.heap H locs → lv_has ls 3 [(0, .ref a0), (1, .ref a1), (2, .int x2)] → W p l e ({ frames := 1, cells := 0, slots := 0, locals := 21 } : Room) s m args below meth c H locs 0 0 (MQ below (gQv base D gz) args s 0 0 (gA base)) (F0 m 49 ls []) := by
    intro n49
    induction n49 with
    | zero => intro g a0 a1 x2 H locs ls hF hP hS hl; exact g_no hF
    | succ n49 ih49 =>
      intro g a0 a1 x2 H locs ls hF hP hS hl
      have hF : f1_copyFrom_49b (f1_copyFrom_49 n49) g a0 a1 x2 = some gz := hF
      unfold f1_copyFrom_49b at hF
      refine lv_iload_n hx hb dX1_copyFrom_49 rfl (lv_at hl 2 rfl) ?_
      refine lv_aload_n hx hb dX1_copyFrom_50 rfl (lv_at hl 0 rfl) ?_
      obtain ⟨h6, hF⟩ := g_if hF
      refine g_get hx hb hts hiX1 hown hK hP 1 rfl (by decide) h6 4 (by decide) (hts (.fieldLink RX1 42 "CourierBees$Flight" "letterCount" "I") (by decide +kernel)) (fun _ h9 => h9) (gFv_i (Or.inl rfl)) dX1_copyFrom_51 ?_
      refine lv_icmp_ge (tgt := 78) hx hb dX1_copyFrom_54 (by decide) (fun c7 => ?_) (fun c7 => ?_)
      · have hF := g_t c7 hF
        refine lv_aload_n hx hb dX1_copyFrom_78 rfl (lv_at hl 0 rfl) ?_
        refine lv_aload_n hx hb dX1_copyFrom_79 rfl (lv_at hl 1 rfl) ?_
        obtain ⟨h8, hF⟩ := g_if hF
        refine g_get hx hb hts hiX1 hown hK hP 1 rfl (by decide) h8 5 (by decide) (hts (.fieldLink RX1 48 "CourierBees$Flight" "quarter" "I") (by decide +kernel)) (fun _ h9 => h9) (gFv_i (Or.inl rfl)) dX1_copyFrom_80 ?_
        refine g_puti hx hb hts hiX1 tyX1 tyX1_ok nmX1 hown hK hP hS 1 rfl (by decide) h6 5 (by decide) (hts (.fieldLink RX1 48 "CourierBees$Flight" "quarter" "I") (by decide +kernel)) (fun _ h9 => h9) (Or.inl rfl) (Or.inl rfl) rfl rfl dX1_copyFrom_83 (fun H locs hP hS => ?_)
        refine lv_aload_n hx hb dX1_copyFrom_86 rfl (lv_at hl 0 rfl) ?_
        refine lv_aload_n hx hb dX1_copyFrom_87 rfl (lv_at hl 1 rfl) ?_
        refine g_get hx hb hts hiX1 hown hK hP 1 rfl (by decide) h8 6 (by decide) (hts (.fieldLink RX1 51 "CourierBees$Flight" "arrivals" "I") (by decide +kernel)) (fun _ h9 => h9) (gFv_i (Or.inl rfl)) dX1_copyFrom_88 ?_
        obtain ⟨y9, e10, hF⟩ := g_let hF
        rw [e10]
        refine g_puti hx hb hts hiX1 tyX1 tyX1_ok nmX1 hown hK hP hS 1 rfl (by decide) h6 6 (by decide) (hts (.fieldLink RX1 51 "CourierBees$Flight" "arrivals" "I") (by decide +kernel)) (fun _ h9 => h9) (Or.inl rfl) (Or.inl rfl) rfl rfl dX1_copyFrom_91 (fun H locs hP hS => ?_)
        refine lv_aload_n hx hb dX1_copyFrom_94 rfl (lv_at hl 0 rfl) ?_
        refine lv_aload_n hx hb dX1_copyFrom_95 rfl (lv_at hl 1 rfl) ?_
        refine g_get hx hb hts hiX1 hown hK hP 1 rfl (by decide) h8 7 (by decide) (hts (.fieldLink RX1 31 "CourierBees$Flight" "openLane" "I") (by decide +kernel)) (fun _ h9 => h9) (gFv_i (Or.inl rfl)) dX1_copyFrom_96 ?_
        obtain ⟨y11, e12, hF⟩ := g_let hF
        rw [e12]
        refine g_puti hx hb hts hiX1 tyX1 tyX1_ok nmX1 hown hK hP hS 1 rfl (by decide) h6 7 (by decide) (hts (.fieldLink RX1 31 "CourierBees$Flight" "openLane" "I") (by decide +kernel)) (fun _ h9 => h9) (Or.inl rfl) (Or.inl rfl) rfl rfl dX1_copyFrom_99 (fun H locs hP hS => ?_)
        exact g_retV hx hb hr hlocks hF hP hS (Nat.le_of_ble_eq_true rfl) (Nat.le_of_ble_eq_true rfl) dX1_copyFrom_102
      · have hF := g_f c7 hF
        refine lv_aload_n hx hb dX1_copyFrom_57 rfl (lv_at hl 0 rfl) ?_
        obtain ⟨q13, hq14, hF⟩ := g_bind hF
        refine g_get hx hb hts hiX1 hown hK hP 1 rfl (by decide) h6 2 (by decide) (hts (.fieldLink RX1 26 "CourierBees$Flight" "letters" "[LCourierBees$Letter;") (by decide +kernel)) (fun _ h9 => h9) ((gFv_r (by decide)).trans (congrArg va_rf hq14)) dX1_copyFrom_58 ?_
        refine lv_iload_n hx hb dX1_copyFrom_61 rfl (lv_at hl 2 rfl) ?_
        obtain ⟨h15, hF⟩ := g_if hF
        obtain ⟨h16, hF⟩ := g_if hF
        obtain ⟨q17, hq18, hF⟩ := g_bind hF
        refine g_aald hx hb hP (g_pr h15) (by decide) h16 hq18 dX1_copyFrom_62 ?_
        refine lv_aload_n hx hb dX1_copyFrom_63 rfl (lv_at hl 1 rfl) ?_
        obtain ⟨h19, hF⟩ := g_if hF
        obtain ⟨q20, hq21, hF⟩ := g_bind hF
        refine g_get hx hb hts hiX1 hown hK hP 1 rfl (by decide) h19 2 (by decide) (hts (.fieldLink RX1 26 "CourierBees$Flight" "letters" "[LCourierBees$Letter;") (by decide +kernel)) (fun _ h9 => h9) ((gFv_r (by decide)).trans (congrArg va_rf hq21)) dX1_copyFrom_64 ?_
        refine lv_iload_n hx hb dX1_copyFrom_67 rfl (lv_at hl 2 rfl) ?_
        obtain ⟨h22, hF⟩ := g_if hF
        obtain ⟨h23, hF⟩ := g_if hF
        obtain ⟨q24, hq25, hF⟩ := g_bind hF
        refine g_aald hx hb hP (g_pr h22) (by decide) h23 hq25 dX1_copyFrom_68 ?_
        obtain ⟨h27, hF⟩ := g_if hF
        obtain ⟨g28, h26, hF⟩ := g_bind hF
        refine g_callv (va_runV (As := [.ref q24]) (rest := []) ⟨hx, hb, hml, hown, hts⟩ (k3_copyFrom l D base g q17 q24 g28 h26) (cwV 1 hts gX1_copyFrom_X3_copyFrom rfl rfl rfl (by decide +kernel) ⟨Nat.le_of_ble_eq_true rfl, Nat.le_of_ble_eq_true rfl⟩) (gC.preV hE hP hS 3 rfl (by decide) h27 [.ref q24]) rfl rfl hl.1 rfl (lv_room (Nat.le_of_ble_eq_true rfl)) dX1_copyFrom_69 ⟨(Nat.le_of_ble_eq_true rfl), (Nat.le_of_ble_eq_true rfl)⟩) hS (fun H locs hP hS => ?_)
        refine lv_iinc (v := x2 + (1 : Int32)) (lv' := [(2, .int (x2 + (1 : Int32))), (0, .ref a0), (1, .ref a1)]) hx hb dX1_copyFrom_72 hl (k := 2) rfl rfl (by decide) rfl (fun ls hl => ?_)
        refine lv_goto (tgt := 49) hx hb dX1_copyFrom_75 (by decide) ?_
        exact ih49 _ _ _ _ _ _ _ hF hP hS (lv_sub hl [1, 2, 0] rfl)
  have HL10 : ∀ (n10 : Nat), ∀ (g : g_H) (a0 : Nat) (a1 : Nat) (x2 : Int32) (H : Heap) (locs : List Loc) (ls : Array Slot), f1_copyFrom_10 n10 g a0 a1 x2 = some gz → gP base D s g H → va_S (gA base) s.heap H locs → lv_has ls 3 [(0, .ref a0), (1, .ref a1), (2, .int x2)] → W p l e ({ frames := 1, cells := 0, slots := 0, locals := 21 } : Room) s m args below meth c H locs 0 0 (MQ below (gQv base D gz) args s 0 0 (gA base)) (F0 m 10 ls []) := by
    intro n10
    induction n10 with
    | zero => intro g a0 a1 x2 H locs ls hF hP hS hl; exact g_no hF
    | succ n10 ih10 =>
      intro g a0 a1 x2 H locs ls hF hP hS hl
      have hF : f1_copyFrom_10b (f1_copyFrom_10 n10) g a0 a1 x2 = some gz := hF
      unfold f1_copyFrom_10b at hF
      refine lv_iload_n hx hb dX1_copyFrom_10 rfl (lv_at hl 2 rfl) ?_
      refine lv_aload_n hx hb dX1_copyFrom_11 rfl (lv_at hl 0 rfl) ?_
      obtain ⟨h3, hF⟩ := g_if hF
      refine g_get hx hb hts hiX1 hown hK hP 1 rfl (by decide) h3 3 (by decide) (hts (.fieldLink RX1 35 "CourierBees$Flight" "beeCount" "I") (by decide +kernel)) (fun _ h9 => h9) (gFv_i (Or.inl rfl)) dX1_copyFrom_12 ?_
      refine lv_icmp_ge (tgt := 39) hx hb dX1_copyFrom_15 (by decide) (fun c4 => ?_) (fun c4 => ?_)
      · have hF := g_t c4 hF
        refine lv_aload_n hx hb dX1_copyFrom_39 rfl (lv_at hl 0 rfl) ?_
        refine lv_aload_n hx hb dX1_copyFrom_40 rfl (lv_at hl 1 rfl) ?_
        obtain ⟨h5, hF⟩ := g_if hF
        refine g_get hx hb hts hiX1 hown hK hP 1 rfl (by decide) h5 4 (by decide) (hts (.fieldLink RX1 42 "CourierBees$Flight" "letterCount" "I") (by decide +kernel)) (fun _ h9 => h9) (gFv_i (Or.inl rfl)) dX1_copyFrom_41 ?_
        refine g_puti hx hb hts hiX1 tyX1 tyX1_ok nmX1 hown hK hP hS 1 rfl (by decide) h3 4 (by decide) (hts (.fieldLink RX1 42 "CourierBees$Flight" "letterCount" "I") (by decide +kernel)) (fun _ h9 => h9) (Or.inl rfl) (Or.inl rfl) rfl rfl dX1_copyFrom_44 (fun H locs hP hS => ?_)
        refine lv_iconst (v := 0) hx hb dX1_copyFrom_47 (by decide) ?_
        refine lv_istore_n (lv' := [(2, .int ((0 : Int32))), (0, .ref a0), (1, .ref a1)]) hx hb dX1_copyFrom_48 rfl hl (by decide) rfl (fun ls hl => ?_)
        exact HL49 300 _ _ _ _ _ _ _ hF hP hS (lv_sub hl [1, 2, 0] rfl)
      · have hF := g_f c4 hF
        refine lv_aload_n hx hb dX1_copyFrom_18 rfl (lv_at hl 0 rfl) ?_
        obtain ⟨q30, hq31, hF⟩ := g_bind hF
        refine g_get hx hb hts hiX1 hown hK hP 1 rfl (by decide) h3 1 (by decide) (hts (.fieldLink RX1 17 "CourierBees$Flight" "bees" "[LCourierBees$Bee;") (by decide +kernel)) (fun _ h9 => h9) ((gFv_r (by decide)).trans (congrArg va_rf hq31)) dX1_copyFrom_19 ?_
        refine lv_iload_n hx hb dX1_copyFrom_22 rfl (lv_at hl 2 rfl) ?_
        obtain ⟨h32, hF⟩ := g_if hF
        obtain ⟨h33, hF⟩ := g_if hF
        obtain ⟨q34, hq35, hF⟩ := g_bind hF
        refine g_aald hx hb hP (g_pr h32) (by decide) h33 hq35 dX1_copyFrom_23 ?_
        refine lv_aload_n hx hb dX1_copyFrom_24 rfl (lv_at hl 1 rfl) ?_
        obtain ⟨h36, hF⟩ := g_if hF
        obtain ⟨q37, hq38, hF⟩ := g_bind hF
        refine g_get hx hb hts hiX1 hown hK hP 1 rfl (by decide) h36 1 (by decide) (hts (.fieldLink RX1 17 "CourierBees$Flight" "bees" "[LCourierBees$Bee;") (by decide +kernel)) (fun _ h9 => h9) ((gFv_r (by decide)).trans (congrArg va_rf hq38)) dX1_copyFrom_25 ?_
        refine lv_iload_n hx hb dX1_copyFrom_28 rfl (lv_at hl 2 rfl) ?_
        obtain ⟨h39, hF⟩ := g_if hF
        obtain ⟨h40, hF⟩ := g_if hF
        obtain ⟨q41, hq42, hF⟩ := g_bind hF
        refine g_aald hx hb hP (g_pr h39) (by decide) h40 hq42 dX1_copyFrom_29 ?_
        obtain ⟨h44, hF⟩ := g_if hF
        obtain ⟨g45, h43, hF⟩ := g_bind hF
        refine g_callv (va_runV (As := [.ref q41]) (rest := []) ⟨hx, hb, hml, hown, hts⟩ (k0_copyFrom l D base g q34 q41 g45 h43) (cwV 1 hts gX1_copyFrom_X0_copyFrom rfl rfl rfl (by decide +kernel) ⟨Nat.le_of_ble_eq_true rfl, Nat.le_of_ble_eq_true rfl⟩) (gC.preV hE hP hS 0 rfl (by decide) h44 [.ref q41]) rfl rfl hl.1 rfl (lv_room (Nat.le_of_ble_eq_true rfl)) dX1_copyFrom_30 ⟨(Nat.le_of_ble_eq_true rfl), (Nat.le_of_ble_eq_true rfl)⟩) hS (fun H locs hP hS => ?_)
        refine lv_iinc (v := x2 + (1 : Int32)) (lv' := [(2, .int (x2 + (1 : Int32))), (0, .ref a0), (1, .ref a1)]) hx hb dX1_copyFrom_33 hl (k := 2) rfl rfl (by decide) rfl (fun ls hl => ?_)
        refine lv_goto (tgt := 10) hx hb dX1_copyFrom_36 (by decide) ?_
        exact ih10 _ _ _ _ _ _ _ hF hP hS (lv_sub hl [1, 2, 0] rfl)
  unfold f1_copyFrom at hF
  refine lv_aload_n hx hb dX1_copyFrom_0 rfl (lv_at hl 0 rfl) ?_
  refine lv_aload_n hx hb dX1_copyFrom_1 rfl (lv_at hl 1 rfl) ?_
  obtain ⟨h1, hF⟩ := g_if hF
  refine g_get hx hb hts hiX1 hown hK hP 1 rfl (by decide) h1 3 (by decide) (hts (.fieldLink RX1 35 "CourierBees$Flight" "beeCount" "I") (by decide +kernel)) (fun _ h9 => h9) (gFv_i (Or.inl rfl)) dX1_copyFrom_2 ?_
  obtain ⟨h2, hF⟩ := g_if hF
  refine g_puti hx hb hts hiX1 tyX1 tyX1_ok nmX1 hown hK hP hS 1 rfl (by decide) h2 3 (by decide) (hts (.fieldLink RX1 35 "CourierBees$Flight" "beeCount" "I") (by decide +kernel)) (fun _ h9 => h9) (Or.inl rfl) (Or.inl rfl) rfl rfl dX1_copyFrom_5 (fun H locs hP hS => ?_)
  refine lv_iconst (v := 0) hx hb dX1_copyFrom_8 (by decide) ?_
  refine lv_istore_n (lv' := [(2, .int ((0 : Int32))), (0, .ref a0), (1, .ref a1)]) hx hb dX1_copyFrom_9 rfl hl (by decide) rfl (fun ls hl => ?_)
  exact HL10 300 _ _ _ _ _ _ _ hF hP hS (lv_sub hl [1, 2, 0] rfl)
set_option maxHeartbeats 4000000 in
set_option maxRecDepth 100000 in
theorem k1_carriedLetters (l : Launch) (D : va_G) (base : Nat) (g : g_H) (a0 : Nat) (rr : Int32) (gz : g_H) (hF : f1_carriedLetters g a0 = some (rr, gz)) : Met l yX1_carriedLetters wsX1_carriedLetters ({ frames := 0, cells := 0, slots := 0, locals := 0 } : Room) (va_Pc [.ref a0] (gC base D g)) (gQi base D rr gz) 0 0 (gA base) := by
  refine g_met (cc := cX1_carriedLetters) (maxL := 3) (ret := (some .int)) (lst := [(0, .ref a0)]) (by decide) rfl (Nat.le_of_ble_eq_true rfl) rfl ?_
  intro p e s m args below meth c ls hx hb hr hml hown hlocks hname hts hE hP hl
  have hown : s.vm.findClass RX1 = some m.cls := hown
  have hK := hE.1
  have hov := hE.2.2.2.2.2.2.2.1
  have hbz := hE.2.2.2.2.2.2.2.2.2.2.2.2
  have hS : va_S (gA base) s.heap s.heap [] := va_S.rf
  have hiX0 : ∀ w ∈ wsX00, w ∈ wsX1_carriedLetters := by decide +kernel
  have hiX1 : ∀ w ∈ wsX10, w ∈ wsX1_carriedLetters := by decide +kernel
  have HL4 : ∀ (n4 : Nat), ∀ (g : g_H) (a0 : Nat) (x1 : Int32) (x2 : Int32) (H : Heap) (locs : List Loc) (ls : Array Slot), f1_carriedLetters_4 n4 g a0 x1 x2 = some (rr, gz) → gP base D s g H → va_S (gA base) s.heap H locs → lv_has ls 3 [(0, .ref a0), (1, .int x1), (2, .int x2)] → W p l e ({ frames := 0, cells := 0, slots := 0, locals := 0 } : Room) s m args below meth c H locs 0 0 (MQ below (gQi base D rr gz) args s 0 0 (gA base)) (F0 m 4 ls []) := by
    intro n4
    induction n4 with
    | zero => intro g a0 x1 x2 H locs ls hF hP hS hl; exact g_no hF
    | succ n4 ih4 =>
      intro g a0 x1 x2 H locs ls hF hP hS hl
      have hF : f1_carriedLetters_4b (f1_carriedLetters_4 n4) g a0 x1 x2 = some (rr, gz) := hF
      unfold f1_carriedLetters_4b at hF
      refine lv_iload_n hx hb dX1_carriedLetters_4 rfl (lv_at hl 2 rfl) ?_
      refine lv_aload_n hx hb dX1_carriedLetters_5 rfl (lv_at hl 0 rfl) ?_
      obtain ⟨h1, hF⟩ := g_if hF
      refine g_get hx hb hts hiX1 hown hK hP 1 rfl (by decide) h1 3 (by decide) (hts (.fieldLink RX1 35 "CourierBees$Flight" "beeCount" "I") (by decide +kernel)) (fun _ h9 => h9) (gFv_i (Or.inl rfl)) dX1_carriedLetters_6 ?_
      refine lv_icmp_ge (tgt := 30) hx hb dX1_carriedLetters_9 (by decide) (fun c2 => ?_) (fun c2 => ?_)
      · have hF := g_t c2 hF
        refine lv_iload_n hx hb dX1_carriedLetters_30 rfl (lv_at hl 1 rfl) ?_
        exact g_retI hx hb hr hlocks hF hP hS (Nat.le_of_ble_eq_true rfl) (Nat.le_of_ble_eq_true rfl) dX1_carriedLetters_31
      · have hF := g_f c2 hF
        refine lv_iload_n hx hb dX1_carriedLetters_12 rfl (lv_at hl 1 rfl) ?_
        refine lv_aload_n hx hb dX1_carriedLetters_13 rfl (lv_at hl 0 rfl) ?_
        obtain ⟨q3, hq4, hF⟩ := g_bind hF
        refine g_get hx hb hts hiX1 hown hK hP 1 rfl (by decide) h1 1 (by decide) (hts (.fieldLink RX1 17 "CourierBees$Flight" "bees" "[LCourierBees$Bee;") (by decide +kernel)) (fun _ h9 => h9) ((gFv_r (by decide)).trans (congrArg va_rf hq4)) dX1_carriedLetters_14 ?_
        refine lv_iload_n hx hb dX1_carriedLetters_17 rfl (lv_at hl 2 rfl) ?_
        obtain ⟨h5, hF⟩ := g_if hF
        obtain ⟨h6, hF⟩ := g_if hF
        obtain ⟨q7, hq8, hF⟩ := g_bind hF
        refine g_aald hx hb hP (g_pr h5) (by decide) h6 hq8 dX1_carriedLetters_18 ?_
        obtain ⟨h9, hF⟩ := g_if hF
        refine g_get hx hb hts hiX0 hown hK hP 0 rfl (by decide) h9 6 (by decide) (hts (.fieldLink RX1 54 "CourierBees$Bee" "carries" "I") (by decide +kernel)) (fun _ h9 => h9) (gFv_i (Or.inl rfl)) dX1_carriedLetters_19 ?_
        refine lv_iadd hx hb dX1_carriedLetters_22 ?_
        refine lv_istore_n (lv' := [(1, .int (x1 + (gI g q7 6))), (0, .ref a0), (2, .int x2)]) hx hb dX1_carriedLetters_23 rfl hl (by decide) rfl (fun ls hl => ?_)
        refine lv_iinc (v := x2 + (1 : Int32)) (lv' := [(2, .int (x2 + (1 : Int32))), (1, .int (x1 + (gI g q7 6))), (0, .ref a0)]) hx hb dX1_carriedLetters_24 hl (k := 2) rfl rfl (by decide) rfl (fun ls hl => ?_)
        refine lv_goto (tgt := 4) hx hb dX1_carriedLetters_27 (by decide) ?_
        exact ih4 _ _ _ _ _ _ _ hF hP hS (lv_sub hl [2, 1, 0] rfl)
  unfold f1_carriedLetters at hF
  refine lv_iconst (v := 0) hx hb dX1_carriedLetters_0 (by decide) ?_
  refine lv_istore_n (lv' := [(1, .int ((0 : Int32))), (0, .ref a0)]) hx hb dX1_carriedLetters_1 rfl hl (by decide) rfl (fun ls hl => ?_)
  refine lv_iconst (v := 0) hx hb dX1_carriedLetters_2 (by decide) ?_
  refine lv_istore_n (lv' := [(2, .int ((0 : Int32))), (1, .int ((0 : Int32))), (0, .ref a0)]) hx hb dX1_carriedLetters_3 rfl hl (by decide) rfl (fun ls hl => ?_)
  exact HL4 300 _ _ _ _ _ _ _ hF hP hS (lv_sub hl [2, 1, 0] rfl)
set_option maxHeartbeats 4000000 in
set_option maxRecDepth 100000 in
theorem k1_restingBees (l : Launch) (D : va_G) (base : Nat) (g : g_H) (a0 : Nat) (rr : Int32) (gz : g_H) (hF : f1_restingBees g a0 = some (rr, gz)) : Met l yX1_restingBees wsX1_restingBees ({ frames := 0, cells := 0, slots := 0, locals := 0 } : Room) (va_Pc [.ref a0] (gC base D g)) (gQi base D rr gz) 0 0 (gA base) := by
  refine g_met (cc := cX1_restingBees) (maxL := 3) (ret := (some .int)) (lst := [(0, .ref a0)]) (by decide) rfl (Nat.le_of_ble_eq_true rfl) rfl ?_
  intro p e s m args below meth c ls hx hb hr hml hown hlocks hname hts hE hP hl
  have hown : s.vm.findClass RX1 = some m.cls := hown
  have hK := hE.1
  have hov := hE.2.2.2.2.2.2.2.1
  have hbz := hE.2.2.2.2.2.2.2.2.2.2.2.2
  have hS : va_S (gA base) s.heap s.heap [] := va_S.rf
  have hiX0 : ∀ w ∈ wsX00, w ∈ wsX1_restingBees := by decide +kernel
  have hiX1 : ∀ w ∈ wsX10, w ∈ wsX1_restingBees := by decide +kernel
  have HL4 : ∀ (n4 : Nat), ∀ (g : g_H) (a0 : Nat) (x1 : Int32) (x2 : Int32) (H : Heap) (locs : List Loc) (ls : Array Slot), f1_restingBees_4 n4 g a0 x1 x2 = some (rr, gz) → gP base D s g H → va_S (gA base) s.heap H locs → lv_has ls 3 [(0, .ref a0), (1, .int x1), (2, .int x2)] → W p l e ({ frames := 0, cells := 0, slots := 0, locals := 0 } : Room) s m args below meth c H locs 0 0 (MQ below (gQi base D rr gz) args s 0 0 (gA base)) (F0 m 4 ls []) := by
    intro n4
    induction n4 with
    | zero => intro g a0 x1 x2 H locs ls hF hP hS hl; exact g_no hF
    | succ n4 ih4 =>
      have HB27 : ∀ (g : g_H) (a0 : Nat) (x1 : Int32) (x2 : Int32) (H : Heap) (locs : List Loc) (ls : Array Slot), f1_restingBees_27 (f1_restingBees_4 n4) g a0 x1 x2 = some (rr, gz) → gP base D s g H → va_S (gA base) s.heap H locs → lv_has ls 3 [(0, .ref a0), (1, .int x1), (2, .int x2)] → W p l e ({ frames := 0, cells := 0, slots := 0, locals := 0 } : Room) s m args below meth c H locs 0 0 (MQ below (gQi base D rr gz) args s 0 0 (gA base)) (F0 m 27 ls []) := by
        intro g a0 x1 x2 H locs ls hF hP hS hl
        unfold f1_restingBees_27 at hF
        refine lv_iinc (v := x2 + (1 : Int32)) (lv' := [(2, .int (x2 + (1 : Int32))), (0, .ref a0), (1, .int x1)]) hx hb dX1_restingBees_27 hl (k := 2) rfl rfl (by decide) rfl (fun ls hl => ?_)
        refine lv_goto (tgt := 4) hx hb dX1_restingBees_30 (by decide) ?_
        exact ih4 _ _ _ _ _ _ _ hF hP hS (lv_sub hl [1, 2, 0] rfl)
      intro g a0 x1 x2 H locs ls hF hP hS hl
      have hF : f1_restingBees_4b (f1_restingBees_4 n4) g a0 x1 x2 = some (rr, gz) := hF
      unfold f1_restingBees_4b at hF
      refine lv_iload_n hx hb dX1_restingBees_4 rfl (lv_at hl 2 rfl) ?_
      refine lv_aload_n hx hb dX1_restingBees_5 rfl (lv_at hl 0 rfl) ?_
      obtain ⟨h1, hF⟩ := g_if hF
      refine g_get hx hb hts hiX1 hown hK hP 1 rfl (by decide) h1 3 (by decide) (hts (.fieldLink RX1 35 "CourierBees$Flight" "beeCount" "I") (by decide +kernel)) (fun _ h9 => h9) (gFv_i (Or.inl rfl)) dX1_restingBees_6 ?_
      refine lv_icmp_ge (tgt := 33) hx hb dX1_restingBees_9 (by decide) (fun c2 => ?_) (fun c2 => ?_)
      · have hF := g_t c2 hF
        refine lv_iload_n hx hb dX1_restingBees_33 rfl (lv_at hl 1 rfl) ?_
        exact g_retI hx hb hr hlocks hF hP hS (Nat.le_of_ble_eq_true rfl) (Nat.le_of_ble_eq_true rfl) dX1_restingBees_34
      · have hF := g_f c2 hF
        refine lv_aload_n hx hb dX1_restingBees_12 rfl (lv_at hl 0 rfl) ?_
        obtain ⟨q3, hq4, hF⟩ := g_bind hF
        refine g_get hx hb hts hiX1 hown hK hP 1 rfl (by decide) h1 1 (by decide) (hts (.fieldLink RX1 17 "CourierBees$Flight" "bees" "[LCourierBees$Bee;") (by decide +kernel)) (fun _ h9 => h9) ((gFv_r (by decide)).trans (congrArg va_rf hq4)) dX1_restingBees_13 ?_
        refine lv_iload_n hx hb dX1_restingBees_16 rfl (lv_at hl 2 rfl) ?_
        obtain ⟨h5, hF⟩ := g_if hF
        obtain ⟨h6, hF⟩ := g_if hF
        obtain ⟨q7, hq8, hF⟩ := g_bind hF
        refine g_aald hx hb hP (g_pr h5) (by decide) h6 hq8 dX1_restingBees_17 ?_
        obtain ⟨h9, hF⟩ := g_if hF
        refine g_get hx hb hts hiX0 hown hK hP 0 rfl (by decide) h9 7 (by decide) (hts (.fieldLink RX1 57 "CourierBees$Bee" "rests" "Z") (by decide +kernel)) (fun _ h9 => h9) (gFv_i (Or.inr rfl)) dX1_restingBees_18 ?_
        refine lv_if_eq (tgt := 27) hx hb dX1_restingBees_21 (by decide) (fun c10 => ?_) (fun c10 => ?_)
        · have hF := g_t c10 hF
          exact HB27 _ _ _ _ _ _ _ hF hP hS (lv_sub hl [0, 1, 2] rfl)
        · have hF := g_f c10 hF
          refine lv_iinc (v := x1 + (1 : Int32)) (lv' := [(1, .int (x1 + (1 : Int32))), (0, .ref a0), (2, .int x2)]) hx hb dX1_restingBees_24 hl (k := 1) rfl rfl (by decide) rfl (fun ls hl => ?_)
          exact HB27 _ _ _ _ _ _ _ hF hP hS (lv_sub hl [1, 0, 2] rfl)
  unfold f1_restingBees at hF
  refine lv_iconst (v := 0) hx hb dX1_restingBees_0 (by decide) ?_
  refine lv_istore_n (lv' := [(1, .int ((0 : Int32))), (0, .ref a0)]) hx hb dX1_restingBees_1 rfl hl (by decide) rfl (fun ls hl => ?_)
  refine lv_iconst (v := 0) hx hb dX1_restingBees_2 (by decide) ?_
  refine lv_istore_n (lv' := [(2, .int ((0 : Int32))), (1, .int ((0 : Int32))), (0, .ref a0)]) hx hb dX1_restingBees_3 rfl hl (by decide) rfl (fun ls hl => ?_)
  exact HL4 300 _ _ _ _ _ _ _ hF hP hS (lv_sub hl [2, 1, 0] rfl)
set_option maxHeartbeats 4000000 in
set_option maxRecDepth 100000 in
theorem k1_handOver (l : Launch) (D : va_G) (base : Nat) (g : g_H) (a0 : Nat) (a1 : Nat) (x2 : Int32) (gz : g_H) (hF : f1_handOver g a0 a1 x2 = some gz) : Met l yX1_handOver wsX1_handOver ({ frames := 3, cells := 0, slots := 0, locals := 67 } : Room) (va_Pc [.ref a0, .ref a1, .int x2] (gC base D g)) (gQv base D gz) 0 0 (gA base) := by
  refine g_met (cc := cX1_handOver) (maxL := 5) (ret := none) (lst := [(0, .ref a0), (1, .ref a1), (2, .int x2)]) (by decide) rfl (Nat.le_of_ble_eq_true rfl) rfl ?_
  intro p e s m args below meth c ls hx hb hr hml hown hlocks hname hts hE hP hl
  have hown : s.vm.findClass RX1 = some m.cls := hown
  have hK := hE.1
  have hov := hE.2.2.2.2.2.2.2.1
  have hbz := hE.2.2.2.2.2.2.2.2.2.2.2.2
  have hS : va_S (gA base) s.heap s.heap [] := va_S.rf
  have hiX0 : ∀ w ∈ wsX00, w ∈ wsX1_handOver := by decide +kernel
  have hiX1 : ∀ w ∈ wsX10, w ∈ wsX1_handOver := by decide +kernel
  have hiX3 : ∀ w ∈ wsX30, w ∈ wsX1_handOver := by decide +kernel
  have HL2 : ∀ (n2 : Nat), ∀ (g : g_H) (a0 : Nat) (a1 : Nat) (x2 : Int32) (x3 : Int32) (H : Heap) (locs : List Loc) (ls : Array Slot), f1_handOver_2 n2 g a0 a1 x2 x3 = some gz → gP base D s g H → va_S (gA base) s.heap H locs → lv_has ls 5 [(0, .ref a0), (1, .ref a1), (2, .int x2), (3, .int x3)] → W p l e ({ frames := 3, cells := 0, slots := 0, locals := 67 } : Room) s m args below meth c H locs 0 0 (MQ below (gQv base D gz) args s 0 0 (gA base)) (F0 m 2 ls []) := by
    intro n2
    induction n2 with
    | zero => intro g a0 a1 x2 x3 H locs ls hF hP hS hl; exact g_no hF
    | succ n2 ih2 =>
      have HB91 : ∀ (g : g_H) (a0 : Nat) (a1 : Nat) (x2 : Int32) (x3 : Int32) (H : Heap) (locs : List Loc) (ls : Array Slot), f1_handOver_91 (f1_handOver_2 n2) g a0 a1 x2 x3 = some gz → gP base D s g H → va_S (gA base) s.heap H locs → lv_has ls 5 [(0, .ref a0), (1, .ref a1), (2, .int x2), (3, .int x3)] → W p l e ({ frames := 3, cells := 0, slots := 0, locals := 67 } : Room) s m args below meth c H locs 0 0 (MQ below (gQv base D gz) args s 0 0 (gA base)) (F0 m 91 ls []) := by
        intro g a0 a1 x2 x3 H locs ls hF hP hS hl
        unfold f1_handOver_91 at hF
        refine lv_iinc (v := x3 + (1 : Int32)) (lv' := [(3, .int (x3 + (1 : Int32))), (0, .ref a0), (1, .ref a1), (2, .int x2)]) hx hb dX1_handOver_91 hl (k := 3) rfl rfl (by decide) rfl (fun ls hl => ?_)
        refine lv_goto (tgt := 2) hx hb dX1_handOver_94 (by decide) ?_
        exact ih2 _ _ _ _ _ _ _ _ hF hP hS (lv_sub hl [1, 2, 3, 0] rfl)
      intro g a0 a1 x2 x3 H locs ls hF hP hS hl
      have hF : f1_handOver_2b (f1_handOver_2 n2) g a0 a1 x2 x3 = some gz := hF
      unfold f1_handOver_2b at hF
      refine lv_iload_n hx hb dX1_handOver_2 rfl (lv_at hl 3 rfl) ?_
      refine lv_aload_n hx hb dX1_handOver_3 rfl (lv_at hl 0 rfl) ?_
      obtain ⟨h1, hF⟩ := g_if hF
      refine g_get hx hb hts hiX1 hown hK hP 1 rfl (by decide) h1 4 (by decide) (hts (.fieldLink RX1 42 "CourierBees$Flight" "letterCount" "I") (by decide +kernel)) (fun _ h9 => h9) (gFv_i (Or.inl rfl)) dX1_handOver_4 ?_
      refine lv_icmp_ge (tgt := 97) hx hb dX1_handOver_7 (by decide) (fun c2 => ?_) (fun c2 => ?_)
      · have hF := g_t c2 hF
        exact g_retV hx hb hr hlocks hF hP hS (Nat.le_of_ble_eq_true rfl) (Nat.le_of_ble_eq_true rfl) dX1_handOver_97
      · have hF := g_f c2 hF
        refine lv_aload_n hx hb dX1_handOver_10 rfl (lv_at hl 1 rfl) ?_
        obtain ⟨h3, hF⟩ := g_if hF
        refine g_get hx hb hts hiX0 hown hK hP 0 rfl (by decide) h3 6 (by decide) (hts (.fieldLink RX1 54 "CourierBees$Bee" "carries" "I") (by decide +kernel)) (fun _ h9 => h9) (gFv_i (Or.inl rfl)) dX1_handOver_11 ?_
        refine lv_if_le (tgt := 97) hx hb dX1_handOver_14 (by decide) (fun c4 => ?_) (fun c4 => ?_)
        · have hF := g_t c4 hF
          exact g_retV hx hb hr hlocks hF hP hS (Nat.le_of_ble_eq_true rfl) (Nat.le_of_ble_eq_true rfl) dX1_handOver_97
        · have hF := g_f c4 hF
          refine lv_aload_n hx hb dX1_handOver_17 rfl (lv_at hl 0 rfl) ?_
          obtain ⟨q5, hq6, hF⟩ := g_bind hF
          refine g_get hx hb hts hiX1 hown hK hP 1 rfl (by decide) h1 2 (by decide) (hts (.fieldLink RX1 26 "CourierBees$Flight" "letters" "[LCourierBees$Letter;") (by decide +kernel)) (fun _ h9 => h9) ((gFv_r (by decide)).trans (congrArg va_rf hq6)) dX1_handOver_18 ?_
          refine lv_iload_n hx hb dX1_handOver_21 rfl (lv_at hl 3 rfl) ?_
          obtain ⟨h7, hF⟩ := g_if hF
          obtain ⟨h8, hF⟩ := g_if hF
          obtain ⟨q9, hq10, hF⟩ := g_bind hF
          refine g_aald hx hb hP (g_pr h7) (by decide) h8 hq10 dX1_handOver_22 ?_
          refine lv_astore (lv' := [(4, .ref q9), (0, .ref a0), (1, .ref a1), (2, .int x2), (3, .int x3)]) hx hb dX1_handOver_23 hl (by decide) rfl (fun ls hl => ?_)
          refine lv_aload hx hb dX1_handOver_25 (lv_at hl 0 rfl) ?_
          obtain ⟨h11, hF⟩ := g_if hF
          refine g_get hx hb hts hiX3 hown hK hP 3 rfl (by decide) h11 2 (by decide) (hts (.fieldLink RX1 81 "CourierBees$Letter" "carrier" "I") (by decide +kernel)) (fun _ h9 => h9) (gFv_i (Or.inl rfl)) dX1_handOver_27 ?_
          refine lv_aload_n hx hb dX1_handOver_30 rfl (lv_at hl 2 rfl) ?_
          refine g_get hx hb hts hiX0 hown hK hP 0 rfl (by decide) h3 0 (by decide) (hts (.fieldLink RX1 84 "CourierBees$Bee" "number" "I") (by decide +kernel)) (fun _ h9 => h9) (gFv_i (Or.inl rfl)) dX1_handOver_31 ?_
          refine lv_icmp_ne (tgt := 91) hx hb dX1_handOver_34 (by decide) (fun c12 => ?_) (fun c12 => ?_)
          · have hF := g_f c12 hF
            exact HB91 _ _ _ _ _ _ _ _ hF hP hS (lv_sub hl [1, 2, 3, 4] rfl)
          · have hF := g_t c12 hF
            refine lv_aload hx hb dX1_handOver_37 (lv_at hl 0 rfl) ?_
            refine g_get hx hb hts hiX3 hown hK hP 3 rfl (by decide) h11 0 (by decide) (hts (.fieldLink RX1 87 "CourierBees$Letter" "to" "I") (by decide +kernel)) (fun _ h9 => h9) (gFv_i (Or.inl rfl)) dX1_handOver_39 ?_
            refine lv_iload_n hx hb dX1_handOver_42 rfl (lv_at hl 3 rfl) ?_
            refine lv_icmp_ne (tgt := 69) hx hb dX1_handOver_43 (by decide) (fun c13 => ?_) (fun c13 => ?_)
            · have hF := g_f c13 hF
              refine lv_aload_n hx hb dX1_handOver_69 rfl (lv_at hl 2 rfl) ?_
              obtain ⟨q14, hq15, hF⟩ := g_bind hF
              refine g_get hx hb hts hiX0 hown hK hP 0 rfl (by decide) h3 1 (by decide) (hts (.fieldLink RX1 94 "CourierBees$Bee" "route" "LCourierBees$Route;") (by decide +kernel)) (fun _ h9 => h9) ((gFv_r (by decide)).trans (congrArg va_rf hq15)) dX1_handOver_70 ?_
              refine lv_aload hx hb dX1_handOver_73 (lv_at hl 0 rfl) ?_
              refine g_get hx hb hts hiX3 hown hK hP 3 rfl (by decide) h11 0 (by decide) (hts (.fieldLink RX1 87 "CourierBees$Letter" "to" "I") (by decide +kernel)) (fun _ h9 => h9) (gFv_i (Or.inl rfl)) dX1_handOver_75 ?_
              obtain ⟨h17, hF⟩ := g_if hF
              obtain ⟨v19, g18, h16, hF⟩ := g_bind2 hF
              refine g_calli (va_runV (As := [.int (gI g q9 0)]) (rest := []) ⟨hx, hb, hml, hown, hts⟩ (k4_targetFor l D base g q14 (gI g q9 0) v19 g18 h16) (cwV 1 hts gX1_handOver_X4_targetFor rfl rfl rfl (by decide +kernel) ⟨Nat.le_of_ble_eq_true rfl, Nat.le_of_ble_eq_true rfl⟩) (gC.preV hE hP hS 4 rfl (by decide) h17 [.int (gI g q9 0)]) rfl rfl hl.1 rfl (lv_room (Nat.le_of_ble_eq_true rfl)) dX1_handOver_78 ⟨(Nat.le_of_ble_eq_true rfl), (Nat.le_of_ble_eq_true rfl)⟩) hS (fun H locs hP hS => ?_)
              refine lv_iload_n hx hb dX1_handOver_81 rfl (lv_at hl 3 rfl) ?_
              refine lv_icmp_ne (tgt := 91) hx hb dX1_handOver_82 (by decide) (fun c20 => ?_) (fun c20 => ?_)
              · have hF := g_f c20 hF
                exact HB91 _ _ _ _ _ _ _ _ hF hP hS (lv_sub hl [1, 2, 3, 4] rfl)
              · have hF := g_t c20 hF
                refine lv_aload_n hx hb dX1_handOver_85 rfl (lv_at hl 2 rfl) ?_
                refine lv_aload hx hb dX1_handOver_86 (lv_at hl 0 rfl) ?_
                obtain ⟨h22, hF⟩ := g_if hF
                obtain ⟨g23, h21, hF⟩ := g_bind hF
                refine g_callv (va_runV (As := [.ref q9]) (rest := []) ⟨hx, hb, hml, hown, hts⟩ (k0_layDown l D base g18 a1 q9 g23 h21) (cwV 1 hts gX1_handOver_X0_layDown rfl rfl rfl (by decide +kernel) ⟨Nat.le_of_ble_eq_true rfl, Nat.le_of_ble_eq_true rfl⟩) (gC.preV hE hP hS 0 rfl (by decide) h22 [.ref q9]) rfl rfl hl.1 rfl (lv_room (Nat.le_of_ble_eq_true rfl)) dX1_handOver_88 ⟨(Nat.le_of_ble_eq_true rfl), (Nat.le_of_ble_eq_true rfl)⟩) hS (fun H locs hP hS => ?_)
                exact HB91 _ _ _ _ _ _ _ _ hF hP hS (lv_sub hl [1, 2, 3, 4] rfl)
            · have hF := g_t c13 hF
              refine lv_aload_n hx hb dX1_handOver_46 rfl (lv_at hl 2 rfl) ?_
              refine lv_aload hx hb dX1_handOver_47 (lv_at hl 0 rfl) ?_
              refine lv_aload_n hx hb dX1_handOver_49 rfl (lv_at hl 1 rfl) ?_
              refine g_get hx hb hts hiX1 hown hK hP 1 rfl (by decide) h1 5 (by decide) (hts (.fieldLink RX1 48 "CourierBees$Flight" "quarter" "I") (by decide +kernel)) (fun _ h9 => h9) (gFv_i (Or.inl rfl)) dX1_handOver_50 ?_
              obtain ⟨g26, h25, hF⟩ := g_bind hF
              refine g_callv (va_runV (As := [.ref q9, .int (gI g a0 5)]) (rest := []) ⟨hx, hb, hml, hown, hts⟩ (k0_deliver l D base g a1 q9 (gI g a0 5) g26 h25) (cwV 2 hts gX1_handOver_X0_deliver rfl rfl rfl (by decide +kernel) ⟨Nat.le_of_ble_eq_true rfl, Nat.le_of_ble_eq_true rfl⟩) (gC.preV hE hP hS 0 rfl (by decide) h3 [.ref q9, .int (gI g a0 5)]) rfl rfl hl.1 rfl (lv_room (Nat.le_of_ble_eq_true rfl)) dX1_handOver_53 ⟨(Nat.le_of_ble_eq_true rfl), (Nat.le_of_ble_eq_true rfl)⟩) hS (fun H locs hP hS => ?_)
              refine lv_aload_n hx hb dX1_handOver_56 rfl (lv_at hl 1 rfl) ?_
              refine lv_dup hx hb dX1_handOver_57 rfl ?_
              obtain ⟨h28, hF⟩ := g_if hF
              refine g_get hx hb hts hiX1 hown hK hP 1 rfl (by decide) h28 6 (by decide) (hts (.fieldLink RX1 51 "CourierBees$Flight" "arrivals" "I") (by decide +kernel)) (fun _ h9 => h9) (gFv_i (Or.inl rfl)) dX1_handOver_58 ?_
              refine lv_iconst (v := 1) hx hb dX1_handOver_61 (by decide) ?_
              refine lv_iadd hx hb dX1_handOver_62 ?_
              obtain ⟨y29, e30, hF⟩ := g_let hF
              rw [e30]
              refine g_puti hx hb hts hiX1 tyX1 tyX1_ok nmX1 hown hK hP hS 1 rfl (by decide) h28 6 (by decide) (hts (.fieldLink RX1 51 "CourierBees$Flight" "arrivals" "I") (by decide +kernel)) (fun _ h9 => h9) (Or.inl rfl) (Or.inl rfl) rfl rfl dX1_handOver_63 (fun H locs hP hS => ?_)
              refine lv_goto (tgt := 91) hx hb dX1_handOver_66 (by decide) ?_
              exact HB91 _ _ _ _ _ _ _ _ hF hP hS (lv_sub hl [1, 2, 3, 4] rfl)
  unfold f1_handOver at hF
  refine lv_iconst (v := 0) hx hb dX1_handOver_0 (by decide) ?_
  refine lv_istore_n (lv' := [(3, .int ((0 : Int32))), (0, .ref a0), (1, .ref a1), (2, .int x2)]) hx hb dX1_handOver_1 rfl hl (by decide) rfl (fun ls hl => ?_)
  exact HL2 300 _ _ _ _ _ _ _ _ hF hP hS (lv_sub hl [1, 2, 3, 0] rfl)
set_option maxHeartbeats 4000000 in
set_option maxRecDepth 100000 in
theorem k1_collect (l : Launch) (D : va_G) (base : Nat) (g : g_H) (a0 : Nat) (a1 : Nat) (x2 : Int32) (gz : g_H) (hF : f1_collect g a0 a1 x2 = some gz) : Met l yX1_collect wsX1_collect ({ frames := 2, cells := 0, slots := 0, locals := 43 } : Room) (va_Pc [.ref a0, .ref a1, .int x2] (gC base D g)) (gQv base D gz) 0 0 (gA base) := by
  refine g_met (cc := cX1_collect) (maxL := 6) (ret := none) (lst := [(0, .ref a0), (1, .ref a1), (2, .int x2)]) (by decide) rfl (Nat.le_of_ble_eq_true rfl) rfl ?_
  intro p e s m args below meth c ls hx hb hr hml hown hlocks hname hts hE hP hl
  have hown : s.vm.findClass RX1 = some m.cls := hown
  have hK := hE.1
  have hov := hE.2.2.2.2.2.2.2.1
  have hbz := hE.2.2.2.2.2.2.2.2.2.2.2.2
  have hS : va_S (gA base) s.heap s.heap [] := va_S.rf
  have hiX0 : ∀ w ∈ wsX00, w ∈ wsX1_collect := by decide +kernel
  have hiX1 : ∀ w ∈ wsX10, w ∈ wsX1_collect := by decide +kernel
  have hiX3 : ∀ w ∈ wsX30, w ∈ wsX1_collect := by decide +kernel
  have HL2 : ∀ (n2 : Nat), ∀ (g : g_H) (a0 : Nat) (a1 : Nat) (x2 : Int32) (x3 : Int32) (H : Heap) (locs : List Loc) (ls : Array Slot), f1_collect_2 n2 g a0 a1 x2 x3 = some gz → gP base D s g H → va_S (gA base) s.heap H locs → lv_has ls 6 [(0, .ref a0), (1, .ref a1), (2, .int x2), (3, .int x3)] → W p l e ({ frames := 2, cells := 0, slots := 0, locals := 43 } : Room) s m args below meth c H locs 0 0 (MQ below (gQv base D gz) args s 0 0 (gA base)) (F0 m 2 ls []) := by
    intro n2
    induction n2 with
    | zero => intro g a0 a1 x2 x3 H locs ls hF hP hS hl; exact g_no hF
    | succ n2 ih2 =>
      have HB85 : ∀ (g : g_H) (a0 : Nat) (a1 : Nat) (x2 : Int32) (x3 : Int32) (H : Heap) (locs : List Loc) (ls : Array Slot), f1_collect_85 (f1_collect_2 n2) g a0 a1 x2 x3 = some gz → gP base D s g H → va_S (gA base) s.heap H locs → lv_has ls 6 [(0, .ref a0), (1, .ref a1), (2, .int x2), (3, .int x3)] → W p l e ({ frames := 2, cells := 0, slots := 0, locals := 43 } : Room) s m args below meth c H locs 0 0 (MQ below (gQv base D gz) args s 0 0 (gA base)) (F0 m 85 ls []) := by
        intro g a0 a1 x2 x3 H locs ls hF hP hS hl
        unfold f1_collect_85 at hF
        refine lv_iinc (v := x3 + (1 : Int32)) (lv' := [(3, .int (x3 + (1 : Int32))), (0, .ref a0), (1, .ref a1), (2, .int x2)]) hx hb dX1_collect_85 hl (k := 3) rfl rfl (by decide) rfl (fun ls hl => ?_)
        refine lv_goto (tgt := 2) hx hb dX1_collect_88 (by decide) ?_
        exact ih2 _ _ _ _ _ _ _ _ hF hP hS (lv_sub hl [1, 2, 3, 0] rfl)
      intro g a0 a1 x2 x3 H locs ls hF hP hS hl
      have hF : f1_collect_2b (f1_collect_2 n2) g a0 a1 x2 x3 = some gz := hF
      unfold f1_collect_2b at hF
      refine lv_iload_n hx hb dX1_collect_2 rfl (lv_at hl 3 rfl) ?_
      refine lv_aload_n hx hb dX1_collect_3 rfl (lv_at hl 0 rfl) ?_
      obtain ⟨h1, hF⟩ := g_if hF
      refine g_get hx hb hts hiX1 hown hK hP 1 rfl (by decide) h1 4 (by decide) (hts (.fieldLink RX1 42 "CourierBees$Flight" "letterCount" "I") (by decide +kernel)) (fun _ h9 => h9) (gFv_i (Or.inl rfl)) dX1_collect_4 ?_
      refine lv_icmp_ge (tgt := 91) hx hb dX1_collect_7 (by decide) (fun c2 => ?_) (fun c2 => ?_)
      · have hF := g_t c2 hF
        exact g_retV hx hb hr hlocks hF hP hS (Nat.le_of_ble_eq_true rfl) (Nat.le_of_ble_eq_true rfl) dX1_collect_91
      · have hF := g_f c2 hF
        refine lv_aload_n hx hb dX1_collect_10 rfl (lv_at hl 1 rfl) ?_
        obtain ⟨h3, hF⟩ := g_if hF
        refine g_get hx hb hts hiX0 hown hK hP 0 rfl (by decide) h3 6 (by decide) (hts (.fieldLink RX1 54 "CourierBees$Bee" "carries" "I") (by decide +kernel)) (fun _ h9 => h9) (gFv_i (Or.inl rfl)) dX1_collect_11 ?_
        refine lv_iconst (v := 3) hx hb dX1_collect_14 (by decide) ?_
        refine lv_icmp_ge (tgt := 91) hx hb dX1_collect_15 (by decide) (fun c4 => ?_) (fun c4 => ?_)
        · have hF := g_t c4 hF
          exact g_retV hx hb hr hlocks hF hP hS (Nat.le_of_ble_eq_true rfl) (Nat.le_of_ble_eq_true rfl) dX1_collect_91
        · have hF := g_f c4 hF
          refine lv_aload_n hx hb dX1_collect_18 rfl (lv_at hl 0 rfl) ?_
          obtain ⟨q5, hq6, hF⟩ := g_bind hF
          refine g_get hx hb hts hiX1 hown hK hP 1 rfl (by decide) h1 2 (by decide) (hts (.fieldLink RX1 26 "CourierBees$Flight" "letters" "[LCourierBees$Letter;") (by decide +kernel)) (fun _ h9 => h9) ((gFv_r (by decide)).trans (congrArg va_rf hq6)) dX1_collect_19 ?_
          refine lv_iload_n hx hb dX1_collect_22 rfl (lv_at hl 3 rfl) ?_
          obtain ⟨h7, hF⟩ := g_if hF
          obtain ⟨h8, hF⟩ := g_if hF
          obtain ⟨q9, hq10, hF⟩ := g_bind hF
          refine g_aald hx hb hP (g_pr h7) (by decide) h8 hq10 dX1_collect_23 ?_
          refine lv_astore (lv' := [(4, .ref q9), (0, .ref a0), (1, .ref a1), (2, .int x2), (3, .int x3)]) hx hb dX1_collect_24 hl (by decide) rfl (fun ls hl => ?_)
          refine lv_aload hx hb dX1_collect_26 (lv_at hl 0 rfl) ?_
          obtain ⟨h11, hF⟩ := g_if hF
          refine g_get hx hb hts hiX3 hown hK hP 3 rfl (by decide) h11 1 (by decide) (hts (.fieldLink RX1 107 "CourierBees$Letter" "lies" "I") (by decide +kernel)) (fun _ h9 => h9) (gFv_i (Or.inl rfl)) dX1_collect_28 ?_
          refine lv_iload_n hx hb dX1_collect_31 rfl (lv_at hl 3 rfl) ?_
          refine lv_icmp_ne (tgt := 85) hx hb dX1_collect_32 (by decide) (fun c12 => ?_) (fun c12 => ?_)
          · have hF := g_f c12 hF
            exact HB85 _ _ _ _ _ _ _ _ hF hP hS (lv_sub hl [1, 2, 3, 4] rfl)
          · have hF := g_t c12 hF
            refine lv_aload_n hx hb dX1_collect_35 rfl (lv_at hl 2 rfl) ?_
            obtain ⟨q13, hq14, hF⟩ := g_bind hF
            refine g_get hx hb hts hiX0 hown hK hP 0 rfl (by decide) h3 1 (by decide) (hts (.fieldLink RX1 94 "CourierBees$Bee" "route" "LCourierBees$Route;") (by decide +kernel)) (fun _ h9 => h9) ((gFv_r (by decide)).trans (congrArg va_rf hq14)) dX1_collect_36 ?_
            refine lv_aload hx hb dX1_collect_39 (lv_at hl 0 rfl) ?_
            refine g_get hx hb hts hiX3 hown hK hP 3 rfl (by decide) h11 0 (by decide) (hts (.fieldLink RX1 87 "CourierBees$Letter" "to" "I") (by decide +kernel)) (fun _ h9 => h9) (gFv_i (Or.inl rfl)) dX1_collect_41 ?_
            obtain ⟨h16, hF⟩ := g_if hF
            obtain ⟨v18, g17, h15, hF⟩ := g_bind2 hF
            refine g_calli (va_runV (As := [.int (gI g q9 0)]) (rest := []) ⟨hx, hb, hml, hown, hts⟩ (k4_targetFor l D base g q13 (gI g q9 0) v18 g17 h15) (cwV 1 hts gX1_collect_X4_targetFor rfl rfl rfl (by decide +kernel) ⟨Nat.le_of_ble_eq_true rfl, Nat.le_of_ble_eq_true rfl⟩) (gC.preV hE hP hS 4 rfl (by decide) h16 [.int (gI g q9 0)]) rfl rfl hl.1 rfl (lv_room (Nat.le_of_ble_eq_true rfl)) dX1_collect_44 ⟨(Nat.le_of_ble_eq_true rfl), (Nat.le_of_ble_eq_true rfl)⟩) hS (fun H locs hP hS => ?_)
            refine lv_istore (lv' := [(5, .int v18), (4, .ref q9), (0, .ref a0), (1, .ref a1), (2, .int x2), (3, .int x3)]) hx hb dX1_collect_47 hl (by decide) rfl (fun ls hl => ?_)
            refine lv_aload_n hx hb dX1_collect_49 rfl (lv_at hl 2 rfl) ?_
            obtain ⟨h19, hF⟩ := g_if hF
            obtain ⟨q20, hq21, hF⟩ := g_bind hF
            refine g_get hx hb hts hiX1 hown hK hP 1 rfl (by decide) h19 0 (by decide) (hts (.fieldLink RX1 9 "CourierBees$Flight" "town" "LCourierBees$Town;") (by decide +kernel)) (fun _ h9 => h9) ((gFv_r (by decide)).trans (congrArg va_rf hq21)) dX1_collect_50 ?_
            refine lv_iload hx hb dX1_collect_53 (lv_at hl 0 rfl) ?_
            refine lv_aload hx hb dX1_collect_55 (lv_at hl 1 rfl) ?_
            obtain ⟨h22, hF⟩ := g_if hF
            refine g_get hx hb hts hiX3 hown hK hP 3 rfl (by decide) h22 0 (by decide) (hts (.fieldLink RX1 87 "CourierBees$Letter" "to" "I") (by decide +kernel)) (fun _ h9 => h9) (gFv_i (Or.inl rfl)) dX1_collect_57 ?_
            obtain ⟨h24, hF⟩ := g_if hF
            obtain ⟨v26, g25, h23, hF⟩ := g_bind2 hF
            refine g_calli (va_runV (As := [.int v18, .int (gI g17 q9 0)]) (rest := []) ⟨hx, hb, hml, hown, hts⟩ (k5_wayBetween l D base g17 q20 v18 (gI g17 q9 0) v26 g25 h23) (cwV 2 hts gX1_collect_X5_wayBetween rfl rfl rfl (by decide +kernel) ⟨Nat.le_of_ble_eq_true rfl, Nat.le_of_ble_eq_true rfl⟩) (gC.preV hE hP hS 5 rfl (by decide) h24 [.int v18, .int (gI g17 q9 0)]) rfl rfl hl.1 rfl (lv_room (Nat.le_of_ble_eq_true rfl)) dX1_collect_60 ⟨(Nat.le_of_ble_eq_true rfl), (Nat.le_of_ble_eq_true rfl)⟩) hS (fun H locs hP hS => ?_)
            refine lv_aload_n hx hb dX1_collect_63 rfl (lv_at hl 2 rfl) ?_
            obtain ⟨h27, hF⟩ := g_if hF
            obtain ⟨q28, hq29, hF⟩ := g_bind hF
            refine g_get hx hb hts hiX1 hown hK hP 1 rfl (by decide) h27 0 (by decide) (hts (.fieldLink RX1 9 "CourierBees$Flight" "town" "LCourierBees$Town;") (by decide +kernel)) (fun _ h9 => h9) ((gFv_r (by decide)).trans (congrArg va_rf hq29)) dX1_collect_64 ?_
            refine lv_iload_n hx hb dX1_collect_67 rfl (lv_at hl 4 rfl) ?_
            refine lv_aload hx hb dX1_collect_68 (lv_at hl 1 rfl) ?_
            obtain ⟨h30, hF⟩ := g_if hF
            refine g_get hx hb hts hiX3 hown hK hP 3 rfl (by decide) h30 0 (by decide) (hts (.fieldLink RX1 87 "CourierBees$Letter" "to" "I") (by decide +kernel)) (fun _ h9 => h9) (gFv_i (Or.inl rfl)) dX1_collect_70 ?_
            obtain ⟨h32, hF⟩ := g_if hF
            obtain ⟨v34, g33, h31, hF⟩ := g_bind2 hF
            refine g_calli (va_runV (As := [.int x2, .int (gI g25 q9 0)]) (rest := [.int v26]) ⟨hx, hb, hml, hown, hts⟩ (k5_wayBetween l D base g25 q28 x2 (gI g25 q9 0) v34 g33 h31) (cwV 2 hts gX1_collect_X5_wayBetween rfl rfl rfl (by decide +kernel) ⟨Nat.le_of_ble_eq_true rfl, Nat.le_of_ble_eq_true rfl⟩) (gC.preV hE hP hS 5 rfl (by decide) h32 [.int x2, .int (gI g25 q9 0)]) rfl rfl hl.1 rfl (lv_room (Nat.le_of_ble_eq_true rfl)) dX1_collect_73 ⟨(Nat.le_of_ble_eq_true rfl), (Nat.le_of_ble_eq_true rfl)⟩) hS (fun H locs hP hS => ?_)
            refine lv_icmp_ge (tgt := 85) hx hb dX1_collect_76 (by decide) (fun c35 => ?_) (fun c35 => ?_)
            · have hF := g_t c35 hF
              exact HB85 _ _ _ _ _ _ _ _ hF hP hS (lv_sub hl [2, 3, 4, 5] rfl)
            · have hF := g_f c35 hF
              refine lv_aload_n hx hb dX1_collect_79 rfl (lv_at hl 3 rfl) ?_
              refine lv_aload hx hb dX1_collect_80 (lv_at hl 1 rfl) ?_
              obtain ⟨h37, hF⟩ := g_if hF
              obtain ⟨g38, h36, hF⟩ := g_bind hF
              refine g_callv (va_runV (As := [.ref q9]) (rest := []) ⟨hx, hb, hml, hown, hts⟩ (k0_take l D base g33 a1 q9 g38 h36) (cwV 1 hts gX1_collect_X0_take rfl rfl rfl (by decide +kernel) ⟨Nat.le_of_ble_eq_true rfl, Nat.le_of_ble_eq_true rfl⟩) (gC.preV hE hP hS 0 rfl (by decide) h37 [.ref q9]) rfl rfl hl.1 rfl (lv_room (Nat.le_of_ble_eq_true rfl)) dX1_collect_82 ⟨(Nat.le_of_ble_eq_true rfl), (Nat.le_of_ble_eq_true rfl)⟩) hS (fun H locs hP hS => ?_)
              exact HB85 _ _ _ _ _ _ _ _ hF hP hS (lv_sub hl [2, 3, 4, 5] rfl)
  unfold f1_collect at hF
  refine lv_iconst (v := 0) hx hb dX1_collect_0 (by decide) ?_
  refine lv_istore_n (lv' := [(3, .int ((0 : Int32))), (0, .ref a0), (1, .ref a1), (2, .int x2)]) hx hb dX1_collect_1 rfl hl (by decide) rfl (fun ls hl => ?_)
  exact HL2 300 _ _ _ _ _ _ _ _ hF hP hS (lv_sub hl [1, 2, 3, 0] rfl)
set_option maxHeartbeats 4000000 in
set_option maxRecDepth 100000 in
theorem k1_moveOn (l : Launch) (D : va_G) (base : Nat) (g : g_H) (a0 : Nat) (a1 : Nat) (x2 : Int32) (gz : g_H) (hF : f1_moveOn g a0 a1 x2 = some gz) : Met l yX1_moveOn wsX1_moveOn ({ frames := 3, cells := 0, slots := 0, locals := 67 } : Room) (va_Pc [.ref a0, .ref a1, .int x2] (gC base D g)) (gQv base D gz) 0 0 (gA base) := by
  refine g_met (cc := cX1_moveOn) (maxL := 4) (ret := none) (lst := [(0, .ref a0), (1, .ref a1), (2, .int x2)]) (by decide) rfl (Nat.le_of_ble_eq_true rfl) rfl ?_
  intro p e s m args below meth c ls hx hb hr hml hown hlocks hname hts hE hP hl
  have hown : s.vm.findClass RX1 = some m.cls := hown
  have hK := hE.1
  have hov := hE.2.2.2.2.2.2.2.1
  have hbz := hE.2.2.2.2.2.2.2.2.2.2.2.2
  have hS : va_S (gA base) s.heap s.heap [] := va_S.rf
  have hiX0 : ∀ w ∈ wsX00, w ∈ wsX1_moveOn := by decide +kernel
  have hiX1 : ∀ w ∈ wsX10, w ∈ wsX1_moveOn := by decide +kernel
  have HB65 : ∀ (g : g_H) (a0 : Nat) (x3 : Int32) (s0 : Nat) (s1 : Int32) (H : Heap) (locs : List Loc) (ls : Array Slot), f1_moveOn_65 g a0 x3 s0 s1 = some gz → gP base D s g H → va_S (gA base) s.heap H locs → lv_has ls 4 [(0, .ref a0), (3, .int x3)] → W p l e ({ frames := 3, cells := 0, slots := 0, locals := 67 } : Room) s m args below meth c H locs 0 0 (MQ below (gQv base D gz) args s 0 0 (gA base)) (F0 m 65 ls [.int s1, .ref s0]) := by
    intro g a0 x3 s0 s1 H locs ls hF hP hS hl
    unfold f1_moveOn_65 at hF
    refine lv_aload_n hx hb dX1_moveOn_65 rfl (lv_at hl 0 rfl) ?_
    obtain ⟨h31, hF⟩ := g_if hF
    obtain ⟨q32, hq33, hF⟩ := g_bind hF
    refine g_get hx hb hts hiX1 hown hK hP 1 rfl (by decide) h31 0 (by decide) (hts (.fieldLink RX1 9 "CourierBees$Flight" "town" "LCourierBees$Town;") (by decide +kernel)) (fun _ h9 => h9) ((gFv_r (by decide)).trans (congrArg va_rf hq33)) dX1_moveOn_66 ?_
    refine lv_iload_n hx hb dX1_moveOn_69 rfl (lv_at hl 1 rfl) ?_
    obtain ⟨h35, hF⟩ := g_if hF
    obtain ⟨v37, g36, h34, hF⟩ := g_bind2 hF
    refine g_calli (va_runV (As := [.int x3]) (rest := [.int s1, .ref s0]) ⟨hx, hb, hml, hown, hts⟩ (k5_lengthOf l D base g q32 x3 v37 g36 h34) (cwV 1 hts gX1_moveOn_X5_lengthOf rfl rfl rfl (by decide +kernel) ⟨Nat.le_of_ble_eq_true rfl, Nat.le_of_ble_eq_true rfl⟩) (gC.preV hE hP hS 5 rfl (by decide) h35 [.int x3]) rfl rfl hl.1 rfl (lv_room (Nat.le_of_ble_eq_true rfl)) dX1_moveOn_70 ⟨(Nat.le_of_ble_eq_true rfl), (Nat.le_of_ble_eq_true rfl)⟩) hS (fun H locs hP hS => ?_)
    obtain ⟨h39, hF⟩ := g_if hF
    obtain ⟨g40, h38, hF⟩ := g_bind hF
    refine g_callv (va_runV (As := [.int s1, .int v37]) (rest := []) ⟨hx, hb, hml, hown, hts⟩ (k0_flyOrStay l D base g36 s0 s1 v37 g40 h38) (cwV 2 hts gX1_moveOn_X0_flyOrStay rfl rfl rfl (by decide +kernel) ⟨Nat.le_of_ble_eq_true rfl, Nat.le_of_ble_eq_true rfl⟩) (gC.preV hE hP hS 0 rfl (by decide) h39 [.int s1, .int v37]) rfl rfl hl.1 rfl (lv_room (Nat.le_of_ble_eq_true rfl)) dX1_moveOn_73 ⟨(Nat.le_of_ble_eq_true rfl), (Nat.le_of_ble_eq_true rfl)⟩) hS (fun H locs hP hS => ?_)
    exact g_retV hx hb hr hlocks hF hP hS (Nat.le_of_ble_eq_true rfl) (Nat.le_of_ble_eq_true rfl) dX1_moveOn_76
  have HB60 : ∀ (g : g_H) (a0 : Nat) (x3 : Int32) (s0 : Nat) (H : Heap) (locs : List Loc) (ls : Array Slot), f1_moveOn_60 g a0 x3 s0 = some gz → gP base D s g H → va_S (gA base) s.heap H locs → lv_has ls 4 [(0, .ref a0), (3, .int x3)] → W p l e ({ frames := 3, cells := 0, slots := 0, locals := 67 } : Room) s m args below meth c H locs 0 0 (MQ below (gQv base D gz) args s 0 0 (gA base)) (F0 m 60 ls [.ref s0]) := by
    intro g a0 x3 s0 H locs ls hF hP hS hl
    unfold f1_moveOn_60 at hF
    refine lv_iconst (v := 1) hx hb dX1_moveOn_60 (by decide) ?_
    refine lv_goto (tgt := 65) hx hb dX1_moveOn_61 (by decide) ?_
    exact HB65 _ _ _ _ _ _ _ _ hF hP hS (lv_sub hl [0, 1] rfl)
  unfold f1_moveOn at hF
  refine lv_aload_n hx hb dX1_moveOn_0 rfl (lv_at hl 1 rfl) ?_
  refine lv_aload_n hx hb dX1_moveOn_1 rfl (lv_at hl 0 rfl) ?_
  obtain ⟨h1, hF⟩ := g_if hF
  obtain ⟨q2, hq3, hF⟩ := g_bind hF
  refine g_get hx hb hts hiX1 hown hK hP 1 rfl (by decide) h1 0 (by decide) (hts (.fieldLink RX1 9 "CourierBees$Flight" "town" "LCourierBees$Town;") (by decide +kernel)) (fun _ h9 => h9) ((gFv_r (by decide)).trans (congrArg va_rf hq3)) dX1_moveOn_2 ?_
  refine lv_iload_n hx hb dX1_moveOn_5 rfl (lv_at hl 2 rfl) ?_
  obtain ⟨h5, hF⟩ := g_if hF
  obtain ⟨v7, g6, h4, hF⟩ := g_bind2 hF
  refine g_calli (va_runV (As := [.int x2]) (rest := [.ref a1]) ⟨hx, hb, hml, hown, hts⟩ (k5_hasHive l D base g q2 x2 v7 g6 h4) (cwV 1 hts gX1_moveOn_X5_hasHive rfl rfl rfl (by decide +kernel) ⟨Nat.le_of_ble_eq_true rfl, Nat.le_of_ble_eq_true rfl⟩) (gC.preV hE hP hS 5 rfl (by decide) h5 [.int x2]) rfl rfl hl.1 rfl (lv_room (Nat.le_of_ble_eq_true rfl)) dX1_moveOn_6 ⟨(Nat.le_of_ble_eq_true rfl), (Nat.le_of_ble_eq_true rfl)⟩) hS (fun H locs hP hS => ?_)
  obtain ⟨h9, hF⟩ := g_if hF
  obtain ⟨v11, g10, h8, hF⟩ := g_bind2 hF
  refine g_calli (va_runV (As := [.int v7]) (rest := []) ⟨hx, hb, hml, hown, hts⟩ (k0_restsNow l D base g6 a1 v7 v11 g10 h8) (cwV 1 hts gX1_moveOn_X0_restsNow rfl rfl rfl (by decide +kernel) ⟨Nat.le_of_ble_eq_true rfl, Nat.le_of_ble_eq_true rfl⟩) (gC.preV hE hP hS 0 rfl (by decide) h9 [.int v7]) rfl rfl hl.1 rfl (lv_room (Nat.le_of_ble_eq_true rfl)) dX1_moveOn_9 ⟨(Nat.le_of_ble_eq_true rfl), (Nat.le_of_ble_eq_true rfl)⟩) hS (fun H locs hP hS => ?_)
  refine lv_if_ne (tgt := 26) hx hb dX1_moveOn_12 (by decide) (fun c12 => ?_) (fun c12 => ?_)
  · have hF := g_f c12 hF
    exact g_retV hx hb hr hlocks hF hP hS (Nat.le_of_ble_eq_true rfl) (Nat.le_of_ble_eq_true rfl) dX1_moveOn_26
  · have hF := g_t c12 hF
    refine lv_aload_n hx hb dX1_moveOn_15 rfl (lv_at hl 1 rfl) ?_
    obtain ⟨h13, hF⟩ := g_if hF
    obtain ⟨q14, hq15, hF⟩ := g_bind hF
    refine g_get hx hb hts hiX0 hown hK hP 0 rfl (by decide) h13 1 (by decide) (hts (.fieldLink RX1 94 "CourierBees$Bee" "route" "LCourierBees$Route;") (by decide +kernel)) (fun _ h9 => h9) ((gFv_r (by decide)).trans (congrArg va_rf hq15)) dX1_moveOn_16 ?_
    obtain ⟨h17, hF⟩ := g_if hF
    obtain ⟨v19, g18, h16, hF⟩ := g_bind2 hF
    refine g_calli (va_runV (As := []) (rest := []) ⟨hx, hb, hml, hown, hts⟩ (k4_length l D base g10 q14 v19 g18 h16) (cwV 0 hts gX1_moveOn_X4_length rfl rfl rfl (by decide +kernel) ⟨Nat.le_of_ble_eq_true rfl, Nat.le_of_ble_eq_true rfl⟩) (gC.preV hE hP hS 4 rfl (by decide) h17 []) rfl rfl hl.1 rfl (lv_room (Nat.le_of_ble_eq_true rfl)) dX1_moveOn_19 ⟨(Nat.le_of_ble_eq_true rfl), (Nat.le_of_ble_eq_true rfl)⟩) hS (fun H locs hP hS => ?_)
    refine lv_iconst (v := 1) hx hb dX1_moveOn_22 (by decide) ?_
    refine lv_icmp_gt (tgt := 27) hx hb dX1_moveOn_23 (by decide) (fun c20 => ?_) (fun c20 => ?_)
    · have hF := g_t c20 hF
      refine lv_aload_n hx hb dX1_moveOn_27 rfl (lv_at hl 1 rfl) ?_
      obtain ⟨h22, hF⟩ := g_if hF
      obtain ⟨g23, h21, hF⟩ := g_bind hF
      refine g_callv (va_runV (As := []) (rest := []) ⟨hx, hb, hml, hown, hts⟩ (k0_turnAtEnd l D base g18 a1 g23 h21) (cwV 0 hts gX1_moveOn_X0_turnAtEnd rfl rfl rfl (by decide +kernel) ⟨Nat.le_of_ble_eq_true rfl, Nat.le_of_ble_eq_true rfl⟩) (gC.preV hE hP hS 0 rfl (by decide) h22 []) rfl rfl hl.1 rfl (lv_room (Nat.le_of_ble_eq_true rfl)) dX1_moveOn_28 ⟨(Nat.le_of_ble_eq_true rfl), (Nat.le_of_ble_eq_true rfl)⟩) hS (fun H locs hP hS => ?_)
      refine lv_aload_n hx hb dX1_moveOn_31 rfl (lv_at hl 1 rfl) ?_
      obtain ⟨h26, hF⟩ := g_if hF
      obtain ⟨v28, g27, h25, hF⟩ := g_bind2 hF
      refine g_calli (va_runV (As := []) (rest := []) ⟨hx, hb, hml, hown, hts⟩ (k0_nextLane l D base g23 a1 v28 g27 h25) (cwV 0 hts gX1_moveOn_X0_nextLane rfl rfl rfl (by decide +kernel) ⟨Nat.le_of_ble_eq_true rfl, Nat.le_of_ble_eq_true rfl⟩) (gC.preV hE hP hS 0 rfl (by decide) h26 []) rfl rfl hl.1 rfl (lv_room (Nat.le_of_ble_eq_true rfl)) dX1_moveOn_32 ⟨(Nat.le_of_ble_eq_true rfl), (Nat.le_of_ble_eq_true rfl)⟩) hS (fun H locs hP hS => ?_)
      refine lv_istore_n (lv' := [(3, .int v28), (0, .ref a0), (1, .ref a1), (2, .int x2)]) hx hb dX1_moveOn_35 rfl hl (by decide) rfl (fun ls hl => ?_)
      refine lv_aload_n hx hb dX1_moveOn_36 rfl (lv_at hl 2 rfl) ?_
      refine lv_iload_n hx hb dX1_moveOn_37 rfl (lv_at hl 0 rfl) ?_
      refine lv_aload_n hx hb dX1_moveOn_38 rfl (lv_at hl 1 rfl) ?_
      obtain ⟨h29, hF⟩ := g_if hF
      refine g_get hx hb hts hiX1 hown hK hP 1 rfl (by decide) h29 7 (by decide) (hts (.fieldLink RX1 31 "CourierBees$Flight" "openLane" "I") (by decide +kernel)) (fun _ h9 => h9) (gFv_i (Or.inl rfl)) dX1_moveOn_39 ?_
      refine lv_icmp_eq (tgt := 60) hx hb dX1_moveOn_42 (by decide) (fun c30 => ?_) (fun c30 => ?_)
      · have hF := g_t c30 hF
        exact HB60 _ _ _ _ _ _ _ hF hP hS (lv_sub hl [1, 0] rfl)
      · have hF := g_f c30 hF
        refine lv_aload_n hx hb dX1_moveOn_45 rfl (lv_at hl 1 rfl) ?_
        obtain ⟨q42, hq43, hF⟩ := g_bind hF
        refine g_get hx hb hts hiX1 hown hK hP 1 rfl (by decide) h29 0 (by decide) (hts (.fieldLink RX1 9 "CourierBees$Flight" "town" "LCourierBees$Town;") (by decide +kernel)) (fun _ h9 => h9) ((gFv_r (by decide)).trans (congrArg va_rf hq43)) dX1_moveOn_46 ?_
        refine lv_iload_n hx hb dX1_moveOn_49 rfl (lv_at hl 0 rfl) ?_
        refine lv_aload_n hx hb dX1_moveOn_50 rfl (lv_at hl 1 rfl) ?_
        refine g_get hx hb hts hiX1 hown hK hP 1 rfl (by decide) h29 5 (by decide) (hts (.fieldLink RX1 48 "CourierBees$Flight" "quarter" "I") (by decide +kernel)) (fun _ h9 => h9) (gFv_i (Or.inl rfl)) dX1_moveOn_51 ?_
        obtain ⟨h45, hF⟩ := g_if hF
        obtain ⟨v47, g46, h44, hF⟩ := g_bind2 hF
        refine g_calli (va_runV (As := [.int v28, .int (gI g27 a0 5)]) (rest := [.ref a1]) ⟨hx, hb, hml, hown, hts⟩ (k5_isOpen l D base g27 q42 v28 (gI g27 a0 5) v47 g46 h44) (cwV 2 hts gX1_moveOn_X5_isOpen rfl rfl rfl (by decide +kernel) ⟨Nat.le_of_ble_eq_true rfl, Nat.le_of_ble_eq_true rfl⟩) (gC.preV hE hP hS 5 rfl (by decide) h45 [.int v28, .int (gI g27 a0 5)]) rfl rfl hl.1 rfl (lv_room (Nat.le_of_ble_eq_true rfl)) dX1_moveOn_54 ⟨(Nat.le_of_ble_eq_true rfl), (Nat.le_of_ble_eq_true rfl)⟩) hS (fun H locs hP hS => ?_)
        refine lv_if_eq (tgt := 64) hx hb dX1_moveOn_57 (by decide) (fun c48 => ?_) (fun c48 => ?_)
        · have hF := g_t c48 hF
          refine lv_iconst (v := 0) hx hb dX1_moveOn_64 (by decide) ?_
          exact HB65 _ _ _ _ _ _ _ _ hF hP hS (lv_sub hl [1, 0] rfl)
        · have hF := g_f c48 hF
          exact HB60 _ _ _ _ _ _ _ hF hP hS (lv_sub hl [1, 0] rfl)
    · have hF := g_f c20 hF
      exact g_retV hx hb hr hlocks hF hP hS (Nat.le_of_ble_eq_true rfl) (Nat.le_of_ble_eq_true rfl) dX1_moveOn_26
set_option maxHeartbeats 4000000 in
set_option maxRecDepth 100000 in
theorem k1_passQuarter (l : Launch) (D : va_G) (base : Nat) (g : g_H) (a0 : Nat) (gz : g_H) (hF : f1_passQuarter g a0 = some gz) : Met l yX1_passQuarter wsX1_passQuarter ({ frames := 4, cells := 0, slots := 0, locals := 91 } : Room) (va_Pc [.ref a0] (gC base D g)) (gQv base D gz) 0 0 (gA base) := by
  refine g_met (cc := cX1_passQuarter) (maxL := 4) (ret := none) (lst := [(0, .ref a0)]) (by decide) rfl (Nat.le_of_ble_eq_true rfl) rfl ?_
  intro p e s m args below meth c ls hx hb hr hml hown hlocks hname hts hE hP hl
  have hown : s.vm.findClass RX1 = some m.cls := hown
  have hK := hE.1
  have hov := hE.2.2.2.2.2.2.2.1
  have hbz := hE.2.2.2.2.2.2.2.2.2.2.2.2
  have hS : va_S (gA base) s.heap s.heap [] := va_S.rf
  have hiX0 : ∀ w ∈ wsX00, w ∈ wsX1_passQuarter := by decide +kernel
  have hiX1 : ∀ w ∈ wsX10, w ∈ wsX1_passQuarter := by decide +kernel
  have HL2 : ∀ (n2 : Nat), ∀ (g : g_H) (a0 : Nat) (x1 : Int32) (H : Heap) (locs : List Loc) (ls : Array Slot), f1_passQuarter_2 n2 g a0 x1 = some gz → gP base D s g H → va_S (gA base) s.heap H locs → lv_has ls 4 [(0, .ref a0), (1, .int x1)] → W p l e ({ frames := 4, cells := 0, slots := 0, locals := 91 } : Room) s m args below meth c H locs 0 0 (MQ below (gQv base D gz) args s 0 0 (gA base)) (F0 m 2 ls []) := by
    intro n2
    induction n2 with
    | zero => intro g a0 x1 H locs ls hF hP hS hl; exact g_no hF
    | succ n2 ih2 =>
      have HB64 : ∀ (g : g_H) (a0 : Nat) (x1 : Int32) (H : Heap) (locs : List Loc) (ls : Array Slot), f1_passQuarter_64 (f1_passQuarter_2 n2) g a0 x1 = some gz → gP base D s g H → va_S (gA base) s.heap H locs → lv_has ls 4 [(0, .ref a0), (1, .int x1)] → W p l e ({ frames := 4, cells := 0, slots := 0, locals := 91 } : Room) s m args below meth c H locs 0 0 (MQ below (gQv base D gz) args s 0 0 (gA base)) (F0 m 64 ls []) := by
        intro g a0 x1 H locs ls hF hP hS hl
        unfold f1_passQuarter_64 at hF
        refine lv_iinc (v := x1 + (1 : Int32)) (lv' := [(1, .int (x1 + (1 : Int32))), (0, .ref a0)]) hx hb dX1_passQuarter_64 hl (k := 1) rfl rfl (by decide) rfl (fun ls hl => ?_)
        refine lv_goto (tgt := 2) hx hb dX1_passQuarter_67 (by decide) ?_
        exact ih2 _ _ _ _ _ _ hF hP hS (lv_sub hl [1, 0] rfl)
      have HB34 : ∀ (g : g_H) (a0 : Nat) (x1 : Int32) (a2 : Nat) (H : Heap) (locs : List Loc) (ls : Array Slot), f1_passQuarter_34 (f1_passQuarter_2 n2) g a0 x1 a2 = some gz → gP base D s g H → va_S (gA base) s.heap H locs → lv_has ls 4 [(0, .ref a0), (1, .int x1), (2, .ref a2)] → W p l e ({ frames := 4, cells := 0, slots := 0, locals := 91 } : Room) s m args below meth c H locs 0 0 (MQ below (gQv base D gz) args s 0 0 (gA base)) (F0 m 34 ls []) := by
        intro g a0 x1 a2 H locs ls hF hP hS hl
        unfold f1_passQuarter_34 at hF
        refine lv_aload_n hx hb dX1_passQuarter_34 rfl (lv_at hl 2 rfl) ?_
        obtain ⟨h11, hF⟩ := g_if hF
        refine g_get hx hb hts hiX0 hown hK hP 0 rfl (by decide) h11 3 (by decide) (hts (.fieldLink RX1 64 "CourierBees$Bee" "left" "I") (by decide +kernel)) (fun _ h9 => h9) (gFv_i (Or.inl rfl)) dX1_passQuarter_35 ?_
        refine lv_if_ne (tgt := 64) hx hb dX1_passQuarter_38 (by decide) (fun c12 => ?_) (fun c12 => ?_)
        · have hF := g_f c12 hF
          exact HB64 _ _ _ _ _ _ hF hP hS (lv_sub hl [0, 1] rfl)
        · have hF := g_t c12 hF
          refine lv_aload_n hx hb dX1_passQuarter_41 rfl (lv_at hl 2 rfl) ?_
          obtain ⟨v15, g14, h13, hF⟩ := g_bind2 hF
          refine g_calli (va_runV (As := []) (rest := []) ⟨hx, hb, hml, hown, hts⟩ (k0_house l D base g a2 v15 g14 h13) (cwV 0 hts gX1_passQuarter_X0_house rfl rfl rfl (by decide +kernel) ⟨Nat.le_of_ble_eq_true rfl, Nat.le_of_ble_eq_true rfl⟩) (gC.preV hE hP hS 0 rfl (by decide) h11 []) rfl rfl hl.1 rfl (lv_room (Nat.le_of_ble_eq_true rfl)) dX1_passQuarter_42 ⟨(Nat.le_of_ble_eq_true rfl), (Nat.le_of_ble_eq_true rfl)⟩) hS (fun H locs hP hS => ?_)
          refine lv_istore_n (lv' := [(3, .int v15), (0, .ref a0), (1, .int x1), (2, .ref a2)]) hx hb dX1_passQuarter_45 rfl hl (by decide) rfl (fun ls hl => ?_)
          refine lv_aload_n hx hb dX1_passQuarter_46 rfl (lv_at hl 1 rfl) ?_
          refine lv_aload_n hx hb dX1_passQuarter_47 rfl (lv_at hl 3 rfl) ?_
          refine lv_iload_n hx hb dX1_passQuarter_48 rfl (lv_at hl 0 rfl) ?_
          obtain ⟨h17, hF⟩ := g_if hF
          obtain ⟨g18, h16, hF⟩ := g_bind hF
          refine g_callv (va_runV (As := [.ref a2, .int v15]) (rest := []) ⟨hx, hb, hml, hown, hts⟩ (k1_handOver l D base g14 a0 a2 v15 g18 h16) (cwV 2 hts gX1_passQuarter_X1_handOver rfl rfl rfl (by decide +kernel) ⟨Nat.le_of_ble_eq_true rfl, Nat.le_of_ble_eq_true rfl⟩) (gC.preV hE hP hS 1 rfl (by decide) h17 [.ref a2, .int v15]) rfl rfl hl.1 rfl (lv_room (Nat.le_of_ble_eq_true rfl)) dX1_passQuarter_49 ⟨(Nat.le_of_ble_eq_true rfl), (Nat.le_of_ble_eq_true rfl)⟩) hS (fun H locs hP hS => ?_)
          refine lv_aload_n hx hb dX1_passQuarter_52 rfl (lv_at hl 1 rfl) ?_
          refine lv_aload_n hx hb dX1_passQuarter_53 rfl (lv_at hl 3 rfl) ?_
          refine lv_iload_n hx hb dX1_passQuarter_54 rfl (lv_at hl 0 rfl) ?_
          obtain ⟨h21, hF⟩ := g_if hF
          obtain ⟨g22, h20, hF⟩ := g_bind hF
          refine g_callv (va_runV (As := [.ref a2, .int v15]) (rest := []) ⟨hx, hb, hml, hown, hts⟩ (k1_collect l D base g18 a0 a2 v15 g22 h20) (cwV 2 hts gX1_passQuarter_X1_collect rfl rfl rfl (by decide +kernel) ⟨Nat.le_of_ble_eq_true rfl, Nat.le_of_ble_eq_true rfl⟩) (gC.preV hE hP hS 1 rfl (by decide) h21 [.ref a2, .int v15]) rfl rfl hl.1 rfl (lv_room (Nat.le_of_ble_eq_true rfl)) dX1_passQuarter_55 ⟨(Nat.le_of_ble_eq_true rfl), (Nat.le_of_ble_eq_true rfl)⟩) hS (fun H locs hP hS => ?_)
          refine lv_aload_n hx hb dX1_passQuarter_58 rfl (lv_at hl 1 rfl) ?_
          refine lv_aload_n hx hb dX1_passQuarter_59 rfl (lv_at hl 3 rfl) ?_
          refine lv_iload_n hx hb dX1_passQuarter_60 rfl (lv_at hl 0 rfl) ?_
          obtain ⟨h25, hF⟩ := g_if hF
          obtain ⟨g26, h24, hF⟩ := g_bind hF
          refine g_callv (va_runV (As := [.ref a2, .int v15]) (rest := []) ⟨hx, hb, hml, hown, hts⟩ (k1_moveOn l D base g22 a0 a2 v15 g26 h24) (cwV 2 hts gX1_passQuarter_X1_moveOn rfl rfl rfl (by decide +kernel) ⟨Nat.le_of_ble_eq_true rfl, Nat.le_of_ble_eq_true rfl⟩) (gC.preV hE hP hS 1 rfl (by decide) h25 [.ref a2, .int v15]) rfl rfl hl.1 rfl (lv_room (Nat.le_of_ble_eq_true rfl)) dX1_passQuarter_61 ⟨(Nat.le_of_ble_eq_true rfl), (Nat.le_of_ble_eq_true rfl)⟩) hS (fun H locs hP hS => ?_)
          exact HB64 _ _ _ _ _ _ hF hP hS (lv_sub hl [1, 2] rfl)
      intro g a0 x1 H locs ls hF hP hS hl
      have hF : f1_passQuarter_2b (f1_passQuarter_2 n2) g a0 x1 = some gz := hF
      unfold f1_passQuarter_2b at hF
      refine lv_iload_n hx hb dX1_passQuarter_2 rfl (lv_at hl 1 rfl) ?_
      refine lv_aload_n hx hb dX1_passQuarter_3 rfl (lv_at hl 0 rfl) ?_
      obtain ⟨h1, hF⟩ := g_if hF
      refine g_get hx hb hts hiX1 hown hK hP 1 rfl (by decide) h1 3 (by decide) (hts (.fieldLink RX1 35 "CourierBees$Flight" "beeCount" "I") (by decide +kernel)) (fun _ h9 => h9) (gFv_i (Or.inl rfl)) dX1_passQuarter_4 ?_
      refine lv_icmp_ge (tgt := 70) hx hb dX1_passQuarter_7 (by decide) (fun c2 => ?_) (fun c2 => ?_)
      · have hF := g_t c2 hF
        refine lv_aload_n hx hb dX1_passQuarter_70 rfl (lv_at hl 0 rfl) ?_
        refine lv_dup hx hb dX1_passQuarter_71 rfl ?_
        refine g_get hx hb hts hiX1 hown hK hP 1 rfl (by decide) h1 5 (by decide) (hts (.fieldLink RX1 48 "CourierBees$Flight" "quarter" "I") (by decide +kernel)) (fun _ h9 => h9) (gFv_i (Or.inl rfl)) dX1_passQuarter_72 ?_
        refine lv_iconst (v := 1) hx hb dX1_passQuarter_75 (by decide) ?_
        refine lv_iadd hx hb dX1_passQuarter_76 ?_
        refine g_puti hx hb hts hiX1 tyX1 tyX1_ok nmX1 hown hK hP hS 1 rfl (by decide) h1 5 (by decide) (hts (.fieldLink RX1 48 "CourierBees$Flight" "quarter" "I") (by decide +kernel)) (fun _ h9 => h9) (Or.inl rfl) (Or.inl rfl) rfl rfl dX1_passQuarter_77 (fun H locs hP hS => ?_)
        exact g_retV hx hb hr hlocks hF hP hS (Nat.le_of_ble_eq_true rfl) (Nat.le_of_ble_eq_true rfl) dX1_passQuarter_80
      · have hF := g_f c2 hF
        refine lv_aload_n hx hb dX1_passQuarter_10 rfl (lv_at hl 0 rfl) ?_
        obtain ⟨q3, hq4, hF⟩ := g_bind hF
        refine g_get hx hb hts hiX1 hown hK hP 1 rfl (by decide) h1 1 (by decide) (hts (.fieldLink RX1 17 "CourierBees$Flight" "bees" "[LCourierBees$Bee;") (by decide +kernel)) (fun _ h9 => h9) ((gFv_r (by decide)).trans (congrArg va_rf hq4)) dX1_passQuarter_11 ?_
        refine lv_iload_n hx hb dX1_passQuarter_14 rfl (lv_at hl 1 rfl) ?_
        obtain ⟨h5, hF⟩ := g_if hF
        obtain ⟨h6, hF⟩ := g_if hF
        obtain ⟨q7, hq8, hF⟩ := g_bind hF
        refine g_aald hx hb hP (g_pr h5) (by decide) h6 hq8 dX1_passQuarter_15 ?_
        refine lv_astore_n (lv' := [(2, .ref q7), (0, .ref a0), (1, .int x1)]) hx hb dX1_passQuarter_16 rfl hl (by decide) rfl (fun ls hl => ?_)
        refine lv_aload_n hx hb dX1_passQuarter_17 rfl (lv_at hl 0 rfl) ?_
        obtain ⟨h9, hF⟩ := g_if hF
        refine g_get hx hb hts hiX0 hown hK hP 0 rfl (by decide) h9 3 (by decide) (hts (.fieldLink RX1 64 "CourierBees$Bee" "left" "I") (by decide +kernel)) (fun _ h9 => h9) (gFv_i (Or.inl rfl)) dX1_passQuarter_18 ?_
        refine lv_if_le (tgt := 34) hx hb dX1_passQuarter_21 (by decide) (fun c10 => ?_) (fun c10 => ?_)
        · have hF := g_t c10 hF
          exact HB34 _ _ _ _ _ _ _ hF hP hS (lv_sub hl [1, 2, 0] rfl)
        · have hF := g_f c10 hF
          refine lv_aload_n hx hb dX1_passQuarter_24 rfl (lv_at hl 0 rfl) ?_
          refine lv_dup hx hb dX1_passQuarter_25 rfl ?_
          refine g_get hx hb hts hiX0 hown hK hP 0 rfl (by decide) h9 3 (by decide) (hts (.fieldLink RX1 64 "CourierBees$Bee" "left" "I") (by decide +kernel)) (fun _ h9 => h9) (gFv_i (Or.inl rfl)) dX1_passQuarter_26 ?_
          refine lv_iconst (v := 1) hx hb dX1_passQuarter_29 (by decide) ?_
          refine lv_isub hx hb dX1_passQuarter_30 ?_
          refine g_puti hx hb hts hiX0 tyX0 tyX0_ok nmX0 hown hK hP hS 0 rfl (by decide) h9 3 (by decide) (hts (.fieldLink RX1 64 "CourierBees$Bee" "left" "I") (by decide +kernel)) (fun _ h9 => h9) (Or.inl rfl) (Or.inl rfl) rfl rfl dX1_passQuarter_31 (fun H locs hP hS => ?_)
          exact HB34 _ _ _ _ _ _ _ hF hP hS (lv_sub hl [1, 2, 0] rfl)
  unfold f1_passQuarter at hF
  refine lv_iconst (v := 0) hx hb dX1_passQuarter_0 (by decide) ?_
  refine lv_istore_n (lv' := [(1, .int ((0 : Int32))), (0, .ref a0)]) hx hb dX1_passQuarter_1 rfl hl (by decide) rfl (fun ls hl => ?_)
  exact HL2 300 _ _ _ _ _ _ hF hP hS (lv_sub hl [1, 0] rfl)
set_option maxHeartbeats 4000000 in
set_option maxRecDepth 100000 in
theorem k1_passQuarters (l : Launch) (D : va_G) (base : Nat) (g : g_H) (a0 : Nat) (x1 : Int32) (rr : Int32) (gz : g_H) (hF : f1_passQuarters g a0 x1 = some (rr, gz)) : Met l yX1_passQuarters wsX1_passQuarters ({ frames := 5, cells := 0, slots := 0, locals := 114 } : Room) (va_Pc [.ref a0, .int x1] (gC base D g)) (gQi base D rr gz) 0 0 (gA base) := by
  refine g_met (cc := cX1_passQuarters) (maxL := 4) (ret := (some .int)) (lst := [(0, .ref a0), (1, .int x1)]) (by decide) rfl (Nat.le_of_ble_eq_true rfl) rfl ?_
  intro p e s m args below meth c ls hx hb hr hml hown hlocks hname hts hE hP hl
  have hown : s.vm.findClass RX1 = some m.cls := hown
  have hK := hE.1
  have hov := hE.2.2.2.2.2.2.2.1
  have hbz := hE.2.2.2.2.2.2.2.2.2.2.2.2
  have hS : va_S (gA base) s.heap s.heap [] := va_S.rf
  have hiX1 : ∀ w ∈ wsX10, w ∈ wsX1_passQuarters := by decide +kernel
  have HL7 : ∀ (n7 : Nat), ∀ (g : g_H) (a0 : Nat) (x1 : Int32) (x2 : Int32) (x3 : Int32) (H : Heap) (locs : List Loc) (ls : Array Slot), f1_passQuarters_7 n7 g a0 x1 x2 x3 = some (rr, gz) → gP base D s g H → va_S (gA base) s.heap H locs → lv_has ls 4 [(0, .ref a0), (1, .int x1), (2, .int x2), (3, .int x3)] → W p l e ({ frames := 5, cells := 0, slots := 0, locals := 114 } : Room) s m args below meth c H locs 0 0 (MQ below (gQi base D rr gz) args s 0 0 (gA base)) (F0 m 7 ls []) := by
    intro n7
    induction n7 with
    | zero => intro g a0 x1 x2 x3 H locs ls hF hP hS hl; exact g_no hF
    | succ n7 ih7 =>
      intro g a0 x1 x2 x3 H locs ls hF hP hS hl
      have hF : f1_passQuarters_7b (f1_passQuarters_7 n7) g a0 x1 x2 x3 = some (rr, gz) := hF
      unfold f1_passQuarters_7b at hF
      refine lv_iload_n hx hb dX1_passQuarters_7 rfl (lv_at hl 3 rfl) ?_
      refine lv_iload_n hx hb dX1_passQuarters_8 rfl (lv_at hl 1 rfl) ?_
      refine lv_icmp_ge (tgt := 22) hx hb dX1_passQuarters_9 (by decide) (fun c2 => ?_) (fun c2 => ?_)
      · have hF := g_t c2 hF
        refine lv_aload_n hx hb dX1_passQuarters_22 rfl (lv_at hl 0 rfl) ?_
        obtain ⟨h3, hF⟩ := g_if hF
        refine g_get hx hb hts hiX1 hown hK hP 1 rfl (by decide) h3 6 (by decide) (hts (.fieldLink RX1 51 "CourierBees$Flight" "arrivals" "I") (by decide +kernel)) (fun _ h9 => h9) (gFv_i (Or.inl rfl)) dX1_passQuarters_23 ?_
        refine lv_iload_n hx hb dX1_passQuarters_26 rfl (lv_at hl 2 rfl) ?_
        refine lv_isub hx hb dX1_passQuarters_27 ?_
        exact g_retI hx hb hr hlocks hF hP hS (Nat.le_of_ble_eq_true rfl) (Nat.le_of_ble_eq_true rfl) dX1_passQuarters_28
      · have hF := g_f c2 hF
        refine lv_aload_n hx hb dX1_passQuarters_12 rfl (lv_at hl 0 rfl) ?_
        obtain ⟨h5, hF⟩ := g_if hF
        obtain ⟨g6, h4, hF⟩ := g_bind hF
        refine g_callv (va_runV (As := []) (rest := []) ⟨hx, hb, hml, hown, hts⟩ (k1_passQuarter l D base g a0 g6 h4) (cwV 0 hts gX1_passQuarters_X1_passQuarter rfl rfl rfl (by decide +kernel) ⟨Nat.le_of_ble_eq_true rfl, Nat.le_of_ble_eq_true rfl⟩) (gC.preV hE hP hS 1 rfl (by decide) h5 []) rfl rfl hl.1 rfl (lv_room (Nat.le_of_ble_eq_true rfl)) dX1_passQuarters_13 ⟨(Nat.le_of_ble_eq_true rfl), (Nat.le_of_ble_eq_true rfl)⟩) hS (fun H locs hP hS => ?_)
        refine lv_iinc (v := x3 + (1 : Int32)) (lv' := [(3, .int (x3 + (1 : Int32))), (0, .ref a0), (1, .int x1), (2, .int x2)]) hx hb dX1_passQuarters_16 hl (k := 3) rfl rfl (by decide) rfl (fun ls hl => ?_)
        refine lv_goto (tgt := 7) hx hb dX1_passQuarters_19 (by decide) ?_
        exact ih7 _ _ _ _ _ _ _ _ hF hP hS (lv_sub hl [1, 2, 3, 0] rfl)
  unfold f1_passQuarters at hF
  refine lv_aload_n hx hb dX1_passQuarters_0 rfl (lv_at hl 0 rfl) ?_
  obtain ⟨h1, hF⟩ := g_if hF
  refine g_get hx hb hts hiX1 hown hK hP 1 rfl (by decide) h1 6 (by decide) (hts (.fieldLink RX1 51 "CourierBees$Flight" "arrivals" "I") (by decide +kernel)) (fun _ h9 => h9) (gFv_i (Or.inl rfl)) dX1_passQuarters_1 ?_
  refine lv_istore_n (lv' := [(2, .int (gI g a0 6)), (0, .ref a0), (1, .int x1)]) hx hb dX1_passQuarters_4 rfl hl (by decide) rfl (fun ls hl => ?_)
  refine lv_iconst (v := 0) hx hb dX1_passQuarters_5 (by decide) ?_
  refine lv_istore_n (lv' := [(3, .int ((0 : Int32))), (2, .int (gI g a0 6)), (0, .ref a0), (1, .int x1)]) hx hb dX1_passQuarters_6 rfl hl (by decide) rfl (fun ls hl => ?_)
  exact HL7 300 _ _ _ _ _ _ _ _ hF hP hS (lv_sub hl [2, 3, 1, 0] rfl)
