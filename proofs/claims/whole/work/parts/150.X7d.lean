set_option maxHeartbeats 4000000 in
set_option maxRecDepth 100000 in
theorem k7_strengthen (l : Launch) (D : va_G) (base : Nat) (g : g_H) (a0 : Nat) (x1 : Int32) (x2 : Int32) (gz : g_H) (hF : f7_strengthen g a0 x1 x2 = some gz) : Met l yX7_strengthen wsX7_strengthen ({ frames := 1, cells := 0, slots := 0, locals := 24 } : Room) (va_Pc [.ref a0, .int x1, .int x2] (gC base D g)) (gQv base D gz) 0 0 (gA base) := by
  refine g_met (cc := cX7_strengthen) (maxL := 3) (ret := none) (lst := [(0, .ref a0), (1, .int x1), (2, .int x2)]) (by decide) rfl (Nat.le_of_ble_eq_true rfl) rfl ?_
  intro p e s m args below meth c ls hx hb hr hml hown hlocks hname hts hE hP hl
  have hown : s.vm.findClass RX7 = some m.cls := hown
  have hK := hE.1
  have hov := hE.2.2.2.2.2.2.2.1
  have hbz := hE.2.2.2.2.2.2.2.2.2.2.2.2
  have hS : va_S (gA base) s.heap s.heap [] := va_S.rf
  unfold f7_strengthen at hF
  refine lv_aload_n hx hb dX7_strengthen_0 rfl (lv_at hl 0 rfl) ?_
  refine lv_iload_n hx hb dX7_strengthen_1 rfl (lv_at hl 1 rfl) ?_
  refine lv_iconst (v := 2) hx hb dX7_strengthen_2 (by decide) ?_
  refine lv_bipush (v := 30) hx hb dX7_strengthen_3 (by decide) ?_
  refine lv_aload_n hx hb dX7_strengthen_5 rfl (lv_at hl 0 rfl) ?_
  refine lv_iload_n hx hb dX7_strengthen_6 rfl (lv_at hl 1 rfl) ?_
  refine lv_iconst (v := 2) hx hb dX7_strengthen_7 (by decide) ?_
  obtain ⟨h2, hF⟩ := g_if hF
  obtain ⟨v4, g3, h1, hF⟩ := g_bind2 hF
  refine g_calli (va_runV (As := [.int x1, .int ((2 : Int32))]) (rest := [.int ((30 : Int32)), .int ((2 : Int32)), .int x1, .ref a0]) ⟨hx, hb, hml, hown, hts⟩ (k7_be l D base g a0 x1 ((2 : Int32)) v4 g3 h1) (cwV 2 hts gX7_strengthen_X7_be rfl rfl rfl (by decide +kernel) ⟨Nat.le_of_ble_eq_true rfl, Nat.le_of_ble_eq_true rfl⟩) (gC.preV hE hP hS 7 rfl (by decide) h2 [.int x1, .int ((2 : Int32))]) rfl rfl hl.1 rfl (lv_room (Nat.le_of_ble_eq_true rfl)) dX7_strengthen_8 ⟨(Nat.le_of_ble_eq_true rfl), (Nat.le_of_ble_eq_true rfl)⟩) hS (fun H locs hP hS => ?_)
  refine lv_iload_n hx hb dX7_strengthen_11 rfl (lv_at hl 2 rfl) ?_
  refine lv_iadd hx hb dX7_strengthen_12 ?_
  refine va_mmin hx hb (hml.trans hl.1.symm) hown (hts (.methodLink RX7 70 Lib.Math.min.name) (by decide +kernel)) (hts (.static Lib.Math.min.name) (by decide +kernel)) (hts (.initialized "java/lang/Math") (by decide +kernel)) (hts (.code Lib.Math.min.name Lib.Math.min.code 2 (some .int)) (by decide +kernel)) (Nat.le_of_ble_eq_true rfl) (Nat.le_of_ble_eq_true rfl) (Nat.le_of_ble_eq_true rfl) (Nat.le_of_ble_eq_true rfl) dX7_strengthen_13 ?_
  obtain ⟨h6, hF⟩ := g_if hF
  obtain ⟨g7, h5, hF⟩ := g_bind hF
  refine g_callv (va_runV (As := [.int x1, .int ((2 : Int32)), .int (if (v4 + x2) < ((30 : Int32)) then (v4 + x2) else ((30 : Int32)))]) (rest := []) ⟨hx, hb, hml, hown, hts⟩ (k7_setBe l D base g3 a0 x1 ((2 : Int32)) (if (v4 + x2) < ((30 : Int32)) then (v4 + x2) else ((30 : Int32))) g7 h5) (cwV 3 hts gX7_strengthen_X7_setBe rfl rfl rfl (by decide +kernel) ⟨Nat.le_of_ble_eq_true rfl, Nat.le_of_ble_eq_true rfl⟩) (gC.preV hE hP hS 7 rfl (by decide) h6 [.int x1, .int ((2 : Int32)), .int (if (v4 + x2) < ((30 : Int32)) then (v4 + x2) else ((30 : Int32)))]) rfl rfl hl.1 rfl (lv_room (Nat.le_of_ble_eq_true rfl)) dX7_strengthen_16 ⟨(Nat.le_of_ble_eq_true rfl), (Nat.le_of_ble_eq_true rfl)⟩) hS (fun H locs hP hS => ?_)
  exact g_retV hx hb hr hlocks hF hP hS (Nat.le_of_ble_eq_true rfl) (Nat.le_of_ble_eq_true rfl) dX7_strengthen_19
set_option maxHeartbeats 4000000 in
set_option maxRecDepth 100000 in
theorem k7_fly (l : Launch) (D : va_G) (base : Nat) (g : g_H) (a0 : Nat) (x1 : Int32) (gz : g_H) (hF : f7_fly g a0 x1 = some gz) : Met l yX7_fly wsX7_fly ({ frames := 2, cells := 0, slots := 0, locals := 47 } : Room) (va_Pc [.ref a0, .int x1] (gC base D g)) (gQv base D gz) 0 0 (gA base) := by
  refine g_met (cc := cX7_fly) (maxL := 4) (ret := none) (lst := [(0, .ref a0), (1, .int x1)]) (by decide) rfl (Nat.le_of_ble_eq_true rfl) rfl ?_
  intro p e s m args below meth c ls hx hb hr hml hown hlocks hname hts hE hP hl
  have hown : s.vm.findClass RX7 = some m.cls := hown
  have hK := hE.1
  have hov := hE.2.2.2.2.2.2.2.1
  have hbz := hE.2.2.2.2.2.2.2.2.2.2.2.2
  have hS : va_S (gA base) s.heap s.heap [] := va_S.rf
  have hiX7 : ∀ w ∈ wsX70, w ∈ wsX7_fly := by decide +kernel
  have HB194 : ∀ (g : g_H) (a0 : Nat) (x1 : Int32) (H : Heap) (locs : List Loc) (ls : Array Slot), f7_fly_194 g a0 x1 = some gz → gP base D s g H → va_S (gA base) s.heap H locs → lv_has ls 4 [(0, .ref a0), (1, .int x1)] → W p l e ({ frames := 2, cells := 0, slots := 0, locals := 47 } : Room) s m args below meth c H locs 0 0 (MQ below (gQv base D gz) args s 0 0 (gA base)) (F0 m 194 ls []) := by
    intro g a0 x1 H locs ls hF hP hS hl
    unfold f7_fly_194 at hF
    refine lv_aload_n hx hb dX7_fly_194 rfl (lv_at hl 0 rfl) ?_
    refine lv_iload_n hx hb dX7_fly_195 rfl (lv_at hl 1 rfl) ?_
    refine lv_iconst (v := 1) hx hb dX7_fly_196 (by decide) ?_
    obtain ⟨h57, hF⟩ := g_if hF
    obtain ⟨g58, h56, hF⟩ := g_bind hF
    refine g_callv (va_runV (As := [.int x1, .int ((1 : Int32))]) (rest := []) ⟨hx, hb, hml, hown, hts⟩ (k7_strengthen l D base g a0 x1 ((1 : Int32)) g58 h56) (cwV 2 hts gX7_fly_X7_strengthen rfl rfl rfl (by decide +kernel) ⟨Nat.le_of_ble_eq_true rfl, Nat.le_of_ble_eq_true rfl⟩) (gC.preV hE hP hS 7 rfl (by decide) h57 [.int x1, .int ((1 : Int32))]) rfl rfl hl.1 rfl (lv_room (Nat.le_of_ble_eq_true rfl)) dX7_fly_197 ⟨(Nat.le_of_ble_eq_true rfl), (Nat.le_of_ble_eq_true rfl)⟩) hS (fun H locs hP hS => ?_)
    exact g_retV hx hb hr hlocks hF hP hS (Nat.le_of_ble_eq_true rfl) (Nat.le_of_ble_eq_true rfl) dX7_fly_200
  have HB148 : ∀ (g : g_H) (a0 : Nat) (x1 : Int32) (s0 : Int32) (s1 : Int32) (H : Heap) (locs : List Loc) (ls : Array Slot), f7_fly_148 g a0 x1 s0 s1 = some gz → gP base D s g H → va_S (gA base) s.heap H locs → lv_has ls 4 [(0, .ref a0), (1, .int x1)] → W p l e ({ frames := 2, cells := 0, slots := 0, locals := 47 } : Room) s m args below meth c H locs 0 0 (MQ below (gQv base D gz) args s 0 0 (gA base)) (F0 m 148 ls [.int s1, .int s0]) := by
    intro g a0 x1 s0 s1 H locs ls hF hP hS hl
    unfold f7_fly_148 at hF
    refine lv_iadd hx hb dX7_fly_148 ?_
    refine lv_istore_n (lv' := [(2, .int (s0 + s1)), (0, .ref a0), (1, .int x1)]) hx hb dX7_fly_149 rfl hl (by decide) rfl (fun ls hl => ?_)
    refine lv_aload_n hx hb dX7_fly_150 rfl (lv_at hl 1 rfl) ?_
    refine lv_aload_n hx hb dX7_fly_151 rfl (lv_at hl 1 rfl) ?_
    refine lv_iload_n hx hb dX7_fly_152 rfl (lv_at hl 2 rfl) ?_
    obtain ⟨h40, hF⟩ := g_if hF
    obtain ⟨v42, g41, h39, hF⟩ := g_bind2 hF
    refine g_calli (va_runV (As := [.int x1]) (rest := [.ref a0]) ⟨hx, hb, hml, hown, hts⟩ (k7_house l D base g a0 x1 v42 g41 h39) (cwV 1 hts gX7_fly_X7_house rfl rfl rfl (by decide +kernel) ⟨Nat.le_of_ble_eq_true rfl, Nat.le_of_ble_eq_true rfl⟩) (gC.preV hE hP hS 7 rfl (by decide) h40 [.int x1]) rfl rfl hl.1 rfl (lv_room (Nat.le_of_ble_eq_true rfl)) dX7_fly_153 ⟨(Nat.le_of_ble_eq_true rfl), (Nat.le_of_ble_eq_true rfl)⟩) hS (fun H locs hP hS => ?_)
    refine lv_aload_n hx hb dX7_fly_156 rfl (lv_at hl 1 rfl) ?_
    obtain ⟨h43, hF⟩ := g_if hF
    obtain ⟨q44, hq45, hF⟩ := g_bind hF
    refine g_get hx hb hts hiX7 hown hK hP 7 rfl (by decide) h43 8 (by decide) (hts (.fieldLink RX7 23 "CourierBeesModel" "routes" "[I") (by decide +kernel)) (fun _ h9 => h9) ((gFv_r (by decide)).trans (congrArg va_rf hq45)) dX7_fly_157 ?_
    refine lv_bipush (v := 7) hx hb dX7_fly_160 (by decide) ?_
    refine lv_iload_n hx hb dX7_fly_162 rfl (lv_at hl 2 rfl) ?_
    refine lv_imul hx hb dX7_fly_163 ?_
    refine lv_iload_n hx hb dX7_fly_164 rfl (lv_at hl 0 rfl) ?_
    refine lv_iadd hx hb dX7_fly_165 ?_
    obtain ⟨h46, hF⟩ := g_if hF
    obtain ⟨h47, hF⟩ := g_if hF
    refine g_iald hx hb hP (g_pr h46) h47 dX7_fly_166 ?_
    obtain ⟨v50, g49, h48, hF⟩ := g_bind2 hF
    refine g_calli (va_runV (As := [.int v42, .int (gI g41 q44 (Int32.toNatClampNeg ((((7 : Int32)) * x1) + (s0 + s1))))]) (rest := []) ⟨hx, hb, hml, hown, hts⟩ (k7_lane l D base g41 a0 v42 (gI g41 q44 (Int32.toNatClampNeg ((((7 : Int32)) * x1) + (s0 + s1)))) v50 g49 h48) (cwV 2 hts gX7_fly_X7_lane rfl rfl rfl (by decide +kernel) ⟨Nat.le_of_ble_eq_true rfl, Nat.le_of_ble_eq_true rfl⟩) (gC.preV hE hP hS 7 rfl (by decide) h43 [.int v42, .int (gI g41 q44 (Int32.toNatClampNeg ((((7 : Int32)) * x1) + (s0 + s1))))]) rfl rfl hl.1 rfl (lv_room (Nat.le_of_ble_eq_true rfl)) dX7_fly_167 ⟨(Nat.le_of_ble_eq_true rfl), (Nat.le_of_ble_eq_true rfl)⟩) hS (fun H locs hP hS => ?_)
    refine lv_istore_n (lv' := [(3, .int v50), (2, .int (s0 + s1)), (0, .ref a0), (1, .int x1)]) hx hb dX7_fly_170 rfl hl (by decide) rfl (fun ls hl => ?_)
    refine lv_aload_n hx hb dX7_fly_171 rfl (lv_at hl 2 rfl) ?_
    refine lv_iload_n hx hb dX7_fly_172 rfl (lv_at hl 0 rfl) ?_
    obtain ⟨h52, hF⟩ := g_if hF
    obtain ⟨v54, g53, h51, hF⟩ := g_bind2 hF
    refine g_calli (va_runV (As := [.int v50]) (rest := []) ⟨hx, hb, hml, hown, hts⟩ (k7_isOpen l D base g49 a0 v50 v54 g53 h51) (cwV 1 hts gX7_fly_X7_isOpen rfl rfl rfl (by decide +kernel) ⟨Nat.le_of_ble_eq_true rfl, Nat.le_of_ble_eq_true rfl⟩) (gC.preV hE hP hS 7 rfl (by decide) h52 [.int v50]) rfl rfl hl.1 rfl (lv_room (Nat.le_of_ble_eq_true rfl)) dX7_fly_173 ⟨(Nat.le_of_ble_eq_true rfl), (Nat.le_of_ble_eq_true rfl)⟩) hS (fun H locs hP hS => ?_)
    refine lv_if_eq (tgt := 194) hx hb dX7_fly_176 (by decide) (fun c55 => ?_) (fun c55 => ?_)
    · have hF := g_t c55 hF
      exact HB194 _ _ _ _ _ _ hF hP hS (lv_sub hl [2, 3] rfl)
    · have hF := g_f c55 hF
      refine lv_aload_n hx hb dX7_fly_179 rfl (lv_at hl 2 rfl) ?_
      refine lv_iload_n hx hb dX7_fly_180 rfl (lv_at hl 3 rfl) ?_
      refine lv_iconst (v := 2) hx hb dX7_fly_181 (by decide) ?_
      obtain ⟨h61, hF⟩ := g_if hF
      obtain ⟨v63, g62, h60, hF⟩ := g_bind2 hF
      refine g_calli (va_runV (As := [.int x1, .int ((2 : Int32))]) (rest := []) ⟨hx, hb, hml, hown, hts⟩ (k7_be l D base g53 a0 x1 ((2 : Int32)) v63 g62 h60) (cwV 2 hts gX7_fly_X7_be rfl rfl rfl (by decide +kernel) ⟨Nat.le_of_ble_eq_true rfl, Nat.le_of_ble_eq_true rfl⟩) (gC.preV hE hP hS 7 rfl (by decide) h61 [.int x1, .int ((2 : Int32))]) rfl rfl hl.1 rfl (lv_room (Nat.le_of_ble_eq_true rfl)) dX7_fly_182 ⟨(Nat.le_of_ble_eq_true rfl), (Nat.le_of_ble_eq_true rfl)⟩) hS (fun H locs hP hS => ?_)
      refine lv_aload_n hx hb dX7_fly_185 rfl (lv_at hl 2 rfl) ?_
      refine lv_iload_n hx hb dX7_fly_186 rfl (lv_at hl 0 rfl) ?_
      refine lv_iconst (v := 2) hx hb dX7_fly_187 (by decide) ?_
      obtain ⟨h65, hF⟩ := g_if hF
      obtain ⟨v67, g66, h64, hF⟩ := g_bind2 hF
      refine g_calli (va_runV (As := [.int v50, .int ((2 : Int32))]) (rest := [.int v63]) ⟨hx, hb, hml, hown, hts⟩ (k7_ro l D base g62 a0 v50 ((2 : Int32)) v67 g66 h64) (cwV 2 hts gX7_fly_X7_ro rfl rfl rfl (by decide +kernel) ⟨Nat.le_of_ble_eq_true rfl, Nat.le_of_ble_eq_true rfl⟩) (gC.preV hE hP hS 7 rfl (by decide) h65 [.int v50, .int ((2 : Int32))]) rfl rfl hl.1 rfl (lv_room (Nat.le_of_ble_eq_true rfl)) dX7_fly_188 ⟨(Nat.le_of_ble_eq_true rfl), (Nat.le_of_ble_eq_true rfl)⟩) hS (fun H locs hP hS => ?_)
      refine lv_icmp_ge (tgt := 201) hx hb dX7_fly_191 (by decide) (fun c68 => ?_) (fun c68 => ?_)
      · have hF := g_t c68 hF
        refine lv_aload_n hx hb dX7_fly_201 rfl (lv_at hl 2 rfl) ?_
        refine lv_iload_n hx hb dX7_fly_202 rfl (lv_at hl 3 rfl) ?_
        refine lv_iconst (v := 0) hx hb dX7_fly_203 (by decide) ?_
        refine lv_iload_n hx hb dX7_fly_204 rfl (lv_at hl 1 rfl) ?_
        obtain ⟨h70, hF⟩ := g_if hF
        obtain ⟨g71, h69, hF⟩ := g_bind hF
        refine g_callv (va_runV (As := [.int x1, .int ((0 : Int32)), .int (s0 + s1)]) (rest := []) ⟨hx, hb, hml, hown, hts⟩ (k7_setBe l D base g66 a0 x1 ((0 : Int32)) (s0 + s1) g71 h69) (cwV 3 hts gX7_fly_X7_setBe rfl rfl rfl (by decide +kernel) ⟨Nat.le_of_ble_eq_true rfl, Nat.le_of_ble_eq_true rfl⟩) (gC.preV hE hP hS 7 rfl (by decide) h70 [.int x1, .int ((0 : Int32)), .int (s0 + s1)]) rfl rfl hl.1 rfl (lv_room (Nat.le_of_ble_eq_true rfl)) dX7_fly_205 ⟨(Nat.le_of_ble_eq_true rfl), (Nat.le_of_ble_eq_true rfl)⟩) hS (fun H locs hP hS => ?_)
        refine lv_aload_n hx hb dX7_fly_208 rfl (lv_at hl 2 rfl) ?_
        refine lv_iload_n hx hb dX7_fly_209 rfl (lv_at hl 3 rfl) ?_
        refine lv_iconst (v := 1) hx hb dX7_fly_210 (by decide) ?_
        refine lv_aload_n hx hb dX7_fly_211 rfl (lv_at hl 2 rfl) ?_
        refine lv_iload_n hx hb dX7_fly_212 rfl (lv_at hl 0 rfl) ?_
        refine lv_iconst (v := 2) hx hb dX7_fly_213 (by decide) ?_
        obtain ⟨h74, hF⟩ := g_if hF
        obtain ⟨v76, g75, h73, hF⟩ := g_bind2 hF
        refine g_calli (va_runV (As := [.int v50, .int ((2 : Int32))]) (rest := [.int ((1 : Int32)), .int x1, .ref a0]) ⟨hx, hb, hml, hown, hts⟩ (k7_ro l D base g71 a0 v50 ((2 : Int32)) v76 g75 h73) (cwV 2 hts gX7_fly_X7_ro rfl rfl rfl (by decide +kernel) ⟨Nat.le_of_ble_eq_true rfl, Nat.le_of_ble_eq_true rfl⟩) (gC.preV hE hP hS 7 rfl (by decide) h74 [.int v50, .int ((2 : Int32))]) rfl rfl hl.1 rfl (lv_room (Nat.le_of_ble_eq_true rfl)) dX7_fly_214 ⟨(Nat.le_of_ble_eq_true rfl), (Nat.le_of_ble_eq_true rfl)⟩) hS (fun H locs hP hS => ?_)
        obtain ⟨h78, hF⟩ := g_if hF
        obtain ⟨g79, h77, hF⟩ := g_bind hF
        refine g_callv (va_runV (As := [.int x1, .int ((1 : Int32)), .int v76]) (rest := []) ⟨hx, hb, hml, hown, hts⟩ (k7_setBe l D base g75 a0 x1 ((1 : Int32)) v76 g79 h77) (cwV 3 hts gX7_fly_X7_setBe rfl rfl rfl (by decide +kernel) ⟨Nat.le_of_ble_eq_true rfl, Nat.le_of_ble_eq_true rfl⟩) (gC.preV hE hP hS 7 rfl (by decide) h78 [.int x1, .int ((1 : Int32)), .int v76]) rfl rfl hl.1 rfl (lv_room (Nat.le_of_ble_eq_true rfl)) dX7_fly_217 ⟨(Nat.le_of_ble_eq_true rfl), (Nat.le_of_ble_eq_true rfl)⟩) hS (fun H locs hP hS => ?_)
        refine lv_aload_n hx hb dX7_fly_220 rfl (lv_at hl 2 rfl) ?_
        refine lv_iload_n hx hb dX7_fly_221 rfl (lv_at hl 3 rfl) ?_
        refine lv_aload_n hx hb dX7_fly_222 rfl (lv_at hl 2 rfl) ?_
        refine lv_iload_n hx hb dX7_fly_223 rfl (lv_at hl 0 rfl) ?_
        refine lv_iconst (v := 2) hx hb dX7_fly_224 (by decide) ?_
        obtain ⟨h82, hF⟩ := g_if hF
        obtain ⟨v84, g83, h81, hF⟩ := g_bind2 hF
        refine g_calli (va_runV (As := [.int v50, .int ((2 : Int32))]) (rest := [.int x1, .ref a0]) ⟨hx, hb, hml, hown, hts⟩ (k7_ro l D base g79 a0 v50 ((2 : Int32)) v84 g83 h81) (cwV 2 hts gX7_fly_X7_ro rfl rfl rfl (by decide +kernel) ⟨Nat.le_of_ble_eq_true rfl, Nat.le_of_ble_eq_true rfl⟩) (gC.preV hE hP hS 7 rfl (by decide) h82 [.int v50, .int ((2 : Int32))]) rfl rfl hl.1 rfl (lv_room (Nat.le_of_ble_eq_true rfl)) dX7_fly_225 ⟨(Nat.le_of_ble_eq_true rfl), (Nat.le_of_ble_eq_true rfl)⟩) hS (fun H locs hP hS => ?_)
        refine lv_ineg hx hb dX7_fly_228 ?_
        obtain ⟨h86, hF⟩ := g_if hF
        obtain ⟨g87, h85, hF⟩ := g_bind hF
        refine g_callv (va_runV (As := [.int x1, .int (-v84)]) (rest := []) ⟨hx, hb, hml, hown, hts⟩ (k7_strengthen l D base g83 a0 x1 (-v84) g87 h85) (cwV 2 hts gX7_fly_X7_strengthen rfl rfl rfl (by decide +kernel) ⟨Nat.le_of_ble_eq_true rfl, Nat.le_of_ble_eq_true rfl⟩) (gC.preV hE hP hS 7 rfl (by decide) h86 [.int x1, .int (-v84)]) rfl rfl hl.1 rfl (lv_room (Nat.le_of_ble_eq_true rfl)) dX7_fly_229 ⟨(Nat.le_of_ble_eq_true rfl), (Nat.le_of_ble_eq_true rfl)⟩) hS (fun H locs hP hS => ?_)
        exact g_retV hx hb hr hlocks hF hP hS (Nat.le_of_ble_eq_true rfl) (Nat.le_of_ble_eq_true rfl) dX7_fly_232
      · have hF := g_f c68 hF
        exact HB194 _ _ _ _ _ _ hF hP hS (lv_sub hl [2, 3] rfl)
  have HB126 : ∀ (g : g_H) (a0 : Nat) (x1 : Int32) (H : Heap) (locs : List Loc) (ls : Array Slot), f7_fly_126 g a0 x1 = some gz → gP base D s g H → va_S (gA base) s.heap H locs → lv_has ls 4 [(0, .ref a0), (1, .int x1)] → W p l e ({ frames := 2, cells := 0, slots := 0, locals := 47 } : Room) s m args below meth c H locs 0 0 (MQ below (gQv base D gz) args s 0 0 (gA base)) (F0 m 126 ls []) := by
    intro g a0 x1 H locs ls hF hP hS hl
    unfold f7_fly_126 at hF
    refine lv_aload_n hx hb dX7_fly_126 rfl (lv_at hl 0 rfl) ?_
    refine lv_iload_n hx hb dX7_fly_127 rfl (lv_at hl 1 rfl) ?_
    refine lv_iconst (v := 0) hx hb dX7_fly_128 (by decide) ?_
    obtain ⟨h31, hF⟩ := g_if hF
    obtain ⟨v33, g32, h30, hF⟩ := g_bind2 hF
    refine g_calli (va_runV (As := [.int x1, .int ((0 : Int32))]) (rest := []) ⟨hx, hb, hml, hown, hts⟩ (k7_be l D base g a0 x1 ((0 : Int32)) v33 g32 h30) (cwV 2 hts gX7_fly_X7_be rfl rfl rfl (by decide +kernel) ⟨Nat.le_of_ble_eq_true rfl, Nat.le_of_ble_eq_true rfl⟩) (gC.preV hE hP hS 7 rfl (by decide) h31 [.int x1, .int ((0 : Int32))]) rfl rfl hl.1 rfl (lv_room (Nat.le_of_ble_eq_true rfl)) dX7_fly_129 ⟨(Nat.le_of_ble_eq_true rfl), (Nat.le_of_ble_eq_true rfl)⟩) hS (fun H locs hP hS => ?_)
    refine lv_aload_n hx hb dX7_fly_132 rfl (lv_at hl 0 rfl) ?_
    refine lv_iload_n hx hb dX7_fly_133 rfl (lv_at hl 1 rfl) ?_
    refine lv_bipush (v := 7) hx hb dX7_fly_134 (by decide) ?_
    obtain ⟨h35, hF⟩ := g_if hF
    obtain ⟨v37, g36, h34, hF⟩ := g_bind2 hF
    refine g_calli (va_runV (As := [.int x1, .int ((7 : Int32))]) (rest := [.int v33]) ⟨hx, hb, hml, hown, hts⟩ (k7_be l D base g32 a0 x1 ((7 : Int32)) v37 g36 h34) (cwV 2 hts gX7_fly_X7_be rfl rfl rfl (by decide +kernel) ⟨Nat.le_of_ble_eq_true rfl, Nat.le_of_ble_eq_true rfl⟩) (gC.preV hE hP hS 7 rfl (by decide) h35 [.int x1, .int ((7 : Int32))]) rfl rfl hl.1 rfl (lv_room (Nat.le_of_ble_eq_true rfl)) dX7_fly_136 ⟨(Nat.le_of_ble_eq_true rfl), (Nat.le_of_ble_eq_true rfl)⟩) hS (fun H locs hP hS => ?_)
    refine lv_iconst (v := 1) hx hb dX7_fly_139 (by decide) ?_
    refine lv_icmp_ne (tgt := 147) hx hb dX7_fly_140 (by decide) (fun c38 => ?_) (fun c38 => ?_)
    · have hF := g_f c38 hF
      refine lv_iconst (v := (-1)) hx hb dX7_fly_147 (by decide) ?_
      exact HB148 _ _ _ _ _ _ _ _ hF hP hS (lv_sub hl [0, 1] rfl)
    · have hF := g_t c38 hF
      refine lv_iconst (v := 1) hx hb dX7_fly_143 (by decide) ?_
      refine lv_goto (tgt := 148) hx hb dX7_fly_144 (by decide) ?_
      exact HB148 _ _ _ _ _ _ _ _ hF hP hS (lv_sub hl [0, 1] rfl)
  have HB107 : ∀ (g : g_H) (a0 : Nat) (x1 : Int32) (s0 : Int32) (s1 : Int32) (H : Heap) (locs : List Loc) (ls : Array Slot), f7_fly_107 g a0 x1 s0 s1 = some gz → gP base D s g H → va_S (gA base) s.heap H locs → lv_has ls 4 [(0, .ref a0), (1, .int x1)] → W p l e ({ frames := 2, cells := 0, slots := 0, locals := 47 } : Room) s m args below meth c H locs 0 0 (MQ below (gQv base D gz) args s 0 0 (gA base)) (F0 m 107 ls [.int s1, .int s0]) := by
    intro g a0 x1 s0 s1 H locs ls hF hP hS hl
    unfold f7_fly_107 at hF
    refine lv_icmp_ne (tgt := 126) hx hb dX7_fly_107 (by decide) (fun c29 => ?_) (fun c29 => ?_)
    · have hF := g_f c29 hF
      exact HB126 _ _ _ _ _ _ hF hP hS (lv_sub hl [0, 1] rfl)
    · have hF := g_t c29 hF
      refine lv_aload_n hx hb dX7_fly_110 rfl (lv_at hl 0 rfl) ?_
      refine lv_iload_n hx hb dX7_fly_111 rfl (lv_at hl 1 rfl) ?_
      refine lv_bipush (v := 7) hx hb dX7_fly_112 (by decide) ?_
      refine lv_iconst (v := 1) hx hb dX7_fly_114 (by decide) ?_
      refine lv_aload_n hx hb dX7_fly_115 rfl (lv_at hl 0 rfl) ?_
      refine lv_iload_n hx hb dX7_fly_116 rfl (lv_at hl 1 rfl) ?_
      refine lv_bipush (v := 7) hx hb dX7_fly_117 (by decide) ?_
      obtain ⟨h90, hF⟩ := g_if hF
      obtain ⟨v92, g91, h89, hF⟩ := g_bind2 hF
      refine g_calli (va_runV (As := [.int x1, .int ((7 : Int32))]) (rest := [.int ((1 : Int32)), .int ((7 : Int32)), .int x1, .ref a0]) ⟨hx, hb, hml, hown, hts⟩ (k7_be l D base g a0 x1 ((7 : Int32)) v92 g91 h89) (cwV 2 hts gX7_fly_X7_be rfl rfl rfl (by decide +kernel) ⟨Nat.le_of_ble_eq_true rfl, Nat.le_of_ble_eq_true rfl⟩) (gC.preV hE hP hS 7 rfl (by decide) h90 [.int x1, .int ((7 : Int32))]) rfl rfl hl.1 rfl (lv_room (Nat.le_of_ble_eq_true rfl)) dX7_fly_119 ⟨(Nat.le_of_ble_eq_true rfl), (Nat.le_of_ble_eq_true rfl)⟩) hS (fun H locs hP hS => ?_)
      refine lv_isub hx hb dX7_fly_122 ?_
      obtain ⟨h94, hF⟩ := g_if hF
      obtain ⟨g95, h93, hF⟩ := g_bind hF
      refine g_callv (va_runV (As := [.int x1, .int ((7 : Int32)), .int (((1 : Int32)) - v92)]) (rest := []) ⟨hx, hb, hml, hown, hts⟩ (k7_setBe l D base g91 a0 x1 ((7 : Int32)) (((1 : Int32)) - v92) g95 h93) (cwV 3 hts gX7_fly_X7_setBe rfl rfl rfl (by decide +kernel) ⟨Nat.le_of_ble_eq_true rfl, Nat.le_of_ble_eq_true rfl⟩) (gC.preV hE hP hS 7 rfl (by decide) h94 [.int x1, .int ((7 : Int32)), .int (((1 : Int32)) - v92)]) rfl rfl hl.1 rfl (lv_room (Nat.le_of_ble_eq_true rfl)) dX7_fly_123 ⟨(Nat.le_of_ble_eq_true rfl), (Nat.le_of_ble_eq_true rfl)⟩) hS (fun H locs hP hS => ?_)
      exact HB126 _ _ _ _ _ _ hF hP hS (lv_sub hl [0, 1] rfl)
  have HB67 : ∀ (g : g_H) (a0 : Nat) (x1 : Int32) (H : Heap) (locs : List Loc) (ls : Array Slot), f7_fly_67 g a0 x1 = some gz → gP base D s g H → va_S (gA base) s.heap H locs → lv_has ls 4 [(0, .ref a0), (1, .int x1)] → W p l e ({ frames := 2, cells := 0, slots := 0, locals := 47 } : Room) s m args below meth c H locs 0 0 (MQ below (gQv base D gz) args s 0 0 (gA base)) (F0 m 67 ls []) := by
    intro g a0 x1 H locs ls hF hP hS hl
    unfold f7_fly_67 at hF
    refine lv_aload_n hx hb dX7_fly_67 rfl (lv_at hl 0 rfl) ?_
    refine lv_iload_n hx hb dX7_fly_68 rfl (lv_at hl 1 rfl) ?_
    refine lv_iconst (v := 5) hx hb dX7_fly_69 (by decide) ?_
    obtain ⟨h16, hF⟩ := g_if hF
    obtain ⟨v18, g17, h15, hF⟩ := g_bind2 hF
    refine g_calli (va_runV (As := [.int x1, .int ((5 : Int32))]) (rest := []) ⟨hx, hb, hml, hown, hts⟩ (k7_be l D base g a0 x1 ((5 : Int32)) v18 g17 h15) (cwV 2 hts gX7_fly_X7_be rfl rfl rfl (by decide +kernel) ⟨Nat.le_of_ble_eq_true rfl, Nat.le_of_ble_eq_true rfl⟩) (gC.preV hE hP hS 7 rfl (by decide) h16 [.int x1, .int ((5 : Int32))]) rfl rfl hl.1 rfl (lv_room (Nat.le_of_ble_eq_true rfl)) dX7_fly_70 ⟨(Nat.le_of_ble_eq_true rfl), (Nat.le_of_ble_eq_true rfl)⟩) hS (fun H locs hP hS => ?_)
    refine lv_iconst (v := 1) hx hb dX7_fly_73 (by decide) ?_
    refine lv_icmp_ne (tgt := 78) hx hb dX7_fly_74 (by decide) (fun c19 => ?_) (fun c19 => ?_)
    · have hF := g_f c19 hF
      refine lv_aload_n hx hb dX7_fly_78 rfl (lv_at hl 0 rfl) ?_
      refine lv_iload_n hx hb dX7_fly_79 rfl (lv_at hl 1 rfl) ?_
      refine lv_iconst (v := 0) hx hb dX7_fly_80 (by decide) ?_
      obtain ⟨h21, hF⟩ := g_if hF
      obtain ⟨v23, g22, h20, hF⟩ := g_bind2 hF
      refine g_calli (va_runV (As := [.int x1, .int ((0 : Int32))]) (rest := []) ⟨hx, hb, hml, hown, hts⟩ (k7_be l D base g17 a0 x1 ((0 : Int32)) v23 g22 h20) (cwV 2 hts gX7_fly_X7_be rfl rfl rfl (by decide +kernel) ⟨Nat.le_of_ble_eq_true rfl, Nat.le_of_ble_eq_true rfl⟩) (gC.preV hE hP hS 7 rfl (by decide) h21 [.int x1, .int ((0 : Int32))]) rfl rfl hl.1 rfl (lv_room (Nat.le_of_ble_eq_true rfl)) dX7_fly_81 ⟨(Nat.le_of_ble_eq_true rfl), (Nat.le_of_ble_eq_true rfl)⟩) hS (fun H locs hP hS => ?_)
      refine lv_aload_n hx hb dX7_fly_84 rfl (lv_at hl 0 rfl) ?_
      refine lv_iload_n hx hb dX7_fly_85 rfl (lv_at hl 1 rfl) ?_
      refine lv_bipush (v := 7) hx hb dX7_fly_86 (by decide) ?_
      obtain ⟨h25, hF⟩ := g_if hF
      obtain ⟨v27, g26, h24, hF⟩ := g_bind2 hF
      refine g_calli (va_runV (As := [.int x1, .int ((7 : Int32))]) (rest := [.int v23]) ⟨hx, hb, hml, hown, hts⟩ (k7_be l D base g22 a0 x1 ((7 : Int32)) v27 g26 h24) (cwV 2 hts gX7_fly_X7_be rfl rfl rfl (by decide +kernel) ⟨Nat.le_of_ble_eq_true rfl, Nat.le_of_ble_eq_true rfl⟩) (gC.preV hE hP hS 7 rfl (by decide) h25 [.int x1, .int ((7 : Int32))]) rfl rfl hl.1 rfl (lv_room (Nat.le_of_ble_eq_true rfl)) dX7_fly_88 ⟨(Nat.le_of_ble_eq_true rfl), (Nat.le_of_ble_eq_true rfl)⟩) hS (fun H locs hP hS => ?_)
      refine lv_iconst (v := 1) hx hb dX7_fly_91 (by decide) ?_
      refine lv_icmp_ne (tgt := 106) hx hb dX7_fly_92 (by decide) (fun c28 => ?_) (fun c28 => ?_)
      · have hF := g_f c28 hF
        refine lv_iconst (v := 0) hx hb dX7_fly_106 (by decide) ?_
        exact HB107 _ _ _ _ _ _ _ _ hF hP hS (lv_sub hl [0, 1] rfl)
      · have hF := g_t c28 hF
        refine lv_aload_n hx hb dX7_fly_95 rfl (lv_at hl 0 rfl) ?_
        refine lv_iload_n hx hb dX7_fly_96 rfl (lv_at hl 1 rfl) ?_
        refine lv_iconst (v := 5) hx hb dX7_fly_97 (by decide) ?_
        obtain ⟨h98, hF⟩ := g_if hF
        obtain ⟨v100, g99, h97, hF⟩ := g_bind2 hF
        refine g_calli (va_runV (As := [.int x1, .int ((5 : Int32))]) (rest := [.int v23]) ⟨hx, hb, hml, hown, hts⟩ (k7_be l D base g26 a0 x1 ((5 : Int32)) v100 g99 h97) (cwV 2 hts gX7_fly_X7_be rfl rfl rfl (by decide +kernel) ⟨Nat.le_of_ble_eq_true rfl, Nat.le_of_ble_eq_true rfl⟩) (gC.preV hE hP hS 7 rfl (by decide) h98 [.int x1, .int ((5 : Int32))]) rfl rfl hl.1 rfl (lv_room (Nat.le_of_ble_eq_true rfl)) dX7_fly_98 ⟨(Nat.le_of_ble_eq_true rfl), (Nat.le_of_ble_eq_true rfl)⟩) hS (fun H locs hP hS => ?_)
        refine lv_iconst (v := 1) hx hb dX7_fly_101 (by decide) ?_
        refine lv_isub hx hb dX7_fly_102 ?_
        refine lv_goto (tgt := 107) hx hb dX7_fly_103 (by decide) ?_
        exact HB107 _ _ _ _ _ _ _ _ hF hP hS (lv_sub hl [0, 1] rfl)
    · have hF := g_t c19 hF
      exact g_retV hx hb hr hlocks hF hP hS (Nat.le_of_ble_eq_true rfl) (Nat.le_of_ble_eq_true rfl) dX7_fly_77
  unfold f7_fly at hF
  refine lv_aload_n hx hb dX7_fly_0 rfl (lv_at hl 0 rfl) ?_
  refine lv_iload_n hx hb dX7_fly_1 rfl (lv_at hl 1 rfl) ?_
  refine lv_iconst (v := 4) hx hb dX7_fly_2 (by decide) ?_
  obtain ⟨h2, hF⟩ := g_if hF
  obtain ⟨v4, g3, h1, hF⟩ := g_bind2 hF
  refine g_calli (va_runV (As := [.int x1, .int ((4 : Int32))]) (rest := []) ⟨hx, hb, hml, hown, hts⟩ (k7_be l D base g a0 x1 ((4 : Int32)) v4 g3 h1) (cwV 2 hts gX7_fly_X7_be rfl rfl rfl (by decide +kernel) ⟨Nat.le_of_ble_eq_true rfl, Nat.le_of_ble_eq_true rfl⟩) (gC.preV hE hP hS 7 rfl (by decide) h2 [.int x1, .int ((4 : Int32))]) rfl rfl hl.1 rfl (lv_room (Nat.le_of_ble_eq_true rfl)) dX7_fly_3 ⟨(Nat.le_of_ble_eq_true rfl), (Nat.le_of_ble_eq_true rfl)⟩) hS (fun H locs hP hS => ?_)
  refine lv_iconst (v := 1) hx hb dX7_fly_6 (by decide) ?_
  refine lv_icmp_ne (tgt := 35) hx hb dX7_fly_7 (by decide) (fun c5 => ?_) (fun c5 => ?_)
  · have hF := g_f c5 hF
    refine lv_aload_n hx hb dX7_fly_35 rfl (lv_at hl 0 rfl) ?_
    obtain ⟨h6, hF⟩ := g_if hF
    obtain ⟨q7, hq8, hF⟩ := g_bind hF
    refine g_get hx hb hts hiX7 hown hK hP 7 rfl (by decide) h6 2 (by decide) (hts (.fieldLink RX7 9 "CourierBeesModel" "hives" "[Z") (by decide +kernel)) (fun _ h9 => h9) ((gFv_r (by decide)).trans (congrArg va_rf hq8)) dX7_fly_36 ?_
    refine lv_aload_n hx hb dX7_fly_39 rfl (lv_at hl 0 rfl) ?_
    refine lv_iload_n hx hb dX7_fly_40 rfl (lv_at hl 1 rfl) ?_
    obtain ⟨v11, g10, h9, hF⟩ := g_bind2 hF
    refine g_calli (va_runV (As := [.int x1]) (rest := [.ref q7]) ⟨hx, hb, hml, hown, hts⟩ (k7_house l D base g3 a0 x1 v11 g10 h9) (cwV 1 hts gX7_fly_X7_house rfl rfl rfl (by decide +kernel) ⟨Nat.le_of_ble_eq_true rfl, Nat.le_of_ble_eq_true rfl⟩) (gC.preV hE hP hS 7 rfl (by decide) h6 [.int x1]) rfl rfl hl.1 rfl (lv_room (Nat.le_of_ble_eq_true rfl)) dX7_fly_41 ⟨(Nat.le_of_ble_eq_true rfl), (Nat.le_of_ble_eq_true rfl)⟩) hS (fun H locs hP hS => ?_)
    obtain ⟨h12, hF⟩ := g_if hF
    obtain ⟨h13, hF⟩ := g_if hF
    refine g_zald hx hb hP (g_pr h12) h13 dX7_fly_44 ?_
    refine lv_if_eq (tgt := 67) hx hb dX7_fly_45 (by decide) (fun c14 => ?_) (fun c14 => ?_)
    · have hF := g_t c14 hF
      exact HB67 _ _ _ _ _ _ hF hP hS (lv_sub hl [0, 1] rfl)
    · have hF := g_f c14 hF
      refine lv_aload_n hx hb dX7_fly_48 rfl (lv_at hl 0 rfl) ?_
      refine lv_iload_n hx hb dX7_fly_49 rfl (lv_at hl 1 rfl) ?_
      refine lv_iconst (v := 2) hx hb dX7_fly_50 (by decide) ?_
      obtain ⟨h102, hF⟩ := g_if hF
      obtain ⟨v104, g103, h101, hF⟩ := g_bind2 hF
      refine g_calli (va_runV (As := [.int x1, .int ((2 : Int32))]) (rest := []) ⟨hx, hb, hml, hown, hts⟩ (k7_be l D base g10 a0 x1 ((2 : Int32)) v104 g103 h101) (cwV 2 hts gX7_fly_X7_be rfl rfl rfl (by decide +kernel) ⟨Nat.le_of_ble_eq_true rfl, Nat.le_of_ble_eq_true rfl⟩) (gC.preV hE hP hS 7 rfl (by decide) h102 [.int x1, .int ((2 : Int32))]) rfl rfl hl.1 rfl (lv_room (Nat.le_of_ble_eq_true rfl)) dX7_fly_51 ⟨(Nat.le_of_ble_eq_true rfl), (Nat.le_of_ble_eq_true rfl)⟩) hS (fun H locs hP hS => ?_)
      refine lv_bipush (v := 10) hx hb dX7_fly_54 (by decide) ?_
      refine lv_icmp_ge (tgt := 67) hx hb dX7_fly_56 (by decide) (fun c105 => ?_) (fun c105 => ?_)
      · have hF := g_t c105 hF
        exact HB67 _ _ _ _ _ _ hF hP hS (lv_sub hl [0, 1] rfl)
      · have hF := g_f c105 hF
        refine lv_aload_n hx hb dX7_fly_59 rfl (lv_at hl 0 rfl) ?_
        refine lv_iload_n hx hb dX7_fly_60 rfl (lv_at hl 1 rfl) ?_
        refine lv_iconst (v := 4) hx hb dX7_fly_61 (by decide) ?_
        refine lv_iconst (v := 1) hx hb dX7_fly_62 (by decide) ?_
        obtain ⟨h107, hF⟩ := g_if hF
        obtain ⟨g108, h106, hF⟩ := g_bind hF
        refine g_callv (va_runV (As := [.int x1, .int ((4 : Int32)), .int ((1 : Int32))]) (rest := []) ⟨hx, hb, hml, hown, hts⟩ (k7_setBe l D base g103 a0 x1 ((4 : Int32)) ((1 : Int32)) g108 h106) (cwV 3 hts gX7_fly_X7_setBe rfl rfl rfl (by decide +kernel) ⟨Nat.le_of_ble_eq_true rfl, Nat.le_of_ble_eq_true rfl⟩) (gC.preV hE hP hS 7 rfl (by decide) h107 [.int x1, .int ((4 : Int32)), .int ((1 : Int32))]) rfl rfl hl.1 rfl (lv_room (Nat.le_of_ble_eq_true rfl)) dX7_fly_63 ⟨(Nat.le_of_ble_eq_true rfl), (Nat.le_of_ble_eq_true rfl)⟩) hS (fun H locs hP hS => ?_)
        exact g_retV hx hb hr hlocks hF hP hS (Nat.le_of_ble_eq_true rfl) (Nat.le_of_ble_eq_true rfl) dX7_fly_66
  · have hF := g_t c5 hF
    refine lv_aload_n hx hb dX7_fly_10 rfl (lv_at hl 0 rfl) ?_
    refine lv_iload_n hx hb dX7_fly_11 rfl (lv_at hl 1 rfl) ?_
    refine lv_iconst (v := 3) hx hb dX7_fly_12 (by decide) ?_
    obtain ⟨h111, hF⟩ := g_if hF
    obtain ⟨g112, h110, hF⟩ := g_bind hF
    refine g_callv (va_runV (As := [.int x1, .int ((3 : Int32))]) (rest := []) ⟨hx, hb, hml, hown, hts⟩ (k7_strengthen l D base g3 a0 x1 ((3 : Int32)) g112 h110) (cwV 2 hts gX7_fly_X7_strengthen rfl rfl rfl (by decide +kernel) ⟨Nat.le_of_ble_eq_true rfl, Nat.le_of_ble_eq_true rfl⟩) (gC.preV hE hP hS 7 rfl (by decide) h111 [.int x1, .int ((3 : Int32))]) rfl rfl hl.1 rfl (lv_room (Nat.le_of_ble_eq_true rfl)) dX7_fly_13 ⟨(Nat.le_of_ble_eq_true rfl), (Nat.le_of_ble_eq_true rfl)⟩) hS (fun H locs hP hS => ?_)
    refine lv_aload_n hx hb dX7_fly_16 rfl (lv_at hl 0 rfl) ?_
    refine lv_iload_n hx hb dX7_fly_17 rfl (lv_at hl 1 rfl) ?_
    refine lv_iconst (v := 2) hx hb dX7_fly_18 (by decide) ?_
    obtain ⟨h115, hF⟩ := g_if hF
    obtain ⟨v117, g116, h114, hF⟩ := g_bind2 hF
    refine g_calli (va_runV (As := [.int x1, .int ((2 : Int32))]) (rest := []) ⟨hx, hb, hml, hown, hts⟩ (k7_be l D base g112 a0 x1 ((2 : Int32)) v117 g116 h114) (cwV 2 hts gX7_fly_X7_be rfl rfl rfl (by decide +kernel) ⟨Nat.le_of_ble_eq_true rfl, Nat.le_of_ble_eq_true rfl⟩) (gC.preV hE hP hS 7 rfl (by decide) h115 [.int x1, .int ((2 : Int32))]) rfl rfl hl.1 rfl (lv_room (Nat.le_of_ble_eq_true rfl)) dX7_fly_19 ⟨(Nat.le_of_ble_eq_true rfl), (Nat.le_of_ble_eq_true rfl)⟩) hS (fun H locs hP hS => ?_)
    refine lv_bipush (v := 20) hx hb dX7_fly_22 (by decide) ?_
    refine lv_icmp_lt (tgt := 34) hx hb dX7_fly_24 (by decide) (fun c118 => ?_) (fun c118 => ?_)
    · have hF := g_t c118 hF
      exact g_retV hx hb hr hlocks hF hP hS (Nat.le_of_ble_eq_true rfl) (Nat.le_of_ble_eq_true rfl) dX7_fly_34
    · have hF := g_f c118 hF
      refine lv_aload_n hx hb dX7_fly_27 rfl (lv_at hl 0 rfl) ?_
      refine lv_iload_n hx hb dX7_fly_28 rfl (lv_at hl 1 rfl) ?_
      refine lv_iconst (v := 4) hx hb dX7_fly_29 (by decide) ?_
      refine lv_iconst (v := 0) hx hb dX7_fly_30 (by decide) ?_
      obtain ⟨h120, hF⟩ := g_if hF
      obtain ⟨g121, h119, hF⟩ := g_bind hF
      refine g_callv (va_runV (As := [.int x1, .int ((4 : Int32)), .int ((0 : Int32))]) (rest := []) ⟨hx, hb, hml, hown, hts⟩ (k7_setBe l D base g116 a0 x1 ((4 : Int32)) ((0 : Int32)) g121 h119) (cwV 3 hts gX7_fly_X7_setBe rfl rfl rfl (by decide +kernel) ⟨Nat.le_of_ble_eq_true rfl, Nat.le_of_ble_eq_true rfl⟩) (gC.preV hE hP hS 7 rfl (by decide) h120 [.int x1, .int ((4 : Int32)), .int ((0 : Int32))]) rfl rfl hl.1 rfl (lv_room (Nat.le_of_ble_eq_true rfl)) dX7_fly_31 ⟨(Nat.le_of_ble_eq_true rfl), (Nat.le_of_ble_eq_true rfl)⟩) hS (fun H locs hP hS => ?_)
      exact g_retV hx hb hr hlocks hF hP hS (Nat.le_of_ble_eq_true rfl) (Nat.le_of_ble_eq_true rfl) dX7_fly_34
set_option maxHeartbeats 4000000 in
set_option maxRecDepth 100000 in
theorem k7_quarterOn (l : Launch) (D : va_G) (base : Nat) (g : g_H) (a0 : Nat) (rr : Int32) (gz : g_H) (hF : f7_quarterOn g a0 = some (rr, gz)) : Met l yX7_quarterOn wsX7_quarterOn ({ frames := 4, cells := 0, slots := 0, locals := 96 } : Room) (va_Pc [.ref a0] (gC base D g)) (gQi base D rr gz) 0 0 (gA base) := by
  refine g_met (cc := cX7_quarterOn) (maxL := 3) (ret := (some .int)) (lst := [(0, .ref a0)]) (by decide) rfl (Nat.le_of_ble_eq_true rfl) rfl ?_
  intro p e s m args below meth c ls hx hb hr hml hown hlocks hname hts hE hP hl
  have hown : s.vm.findClass RX7 = some m.cls := hown
  have hK := hE.1
  have hov := hE.2.2.2.2.2.2.2.1
  have hbz := hE.2.2.2.2.2.2.2.2.2.2.2.2
  have hS : va_S (gA base) s.heap s.heap [] := va_S.rf
  have hiX7 : ∀ w ∈ wsX70, w ∈ wsX7_quarterOn := by decide +kernel
  have HL4 : ∀ (n4 : Nat), ∀ (g : g_H) (a0 : Nat) (x1 : Int32) (x2 : Int32) (H : Heap) (locs : List Loc) (ls : Array Slot), f7_quarterOn_4 n4 g a0 x1 x2 = some (rr, gz) → gP base D s g H → va_S (gA base) s.heap H locs → lv_has ls 3 [(0, .ref a0), (1, .int x1), (2, .int x2)] → W p l e ({ frames := 4, cells := 0, slots := 0, locals := 96 } : Room) s m args below meth c H locs 0 0 (MQ below (gQi base D rr gz) args s 0 0 (gA base)) (F0 m 4 ls []) := by
    intro n4
    induction n4 with
    | zero => intro g a0 x1 x2 H locs ls hF hP hS hl; exact g_no hF
    | succ n4 ih4 =>
      have HB60 : ∀ (g : g_H) (a0 : Nat) (x1 : Int32) (x2 : Int32) (H : Heap) (locs : List Loc) (ls : Array Slot), f7_quarterOn_60 (f7_quarterOn_4 n4) g a0 x1 x2 = some (rr, gz) → gP base D s g H → va_S (gA base) s.heap H locs → lv_has ls 3 [(0, .ref a0), (1, .int x1), (2, .int x2)] → W p l e ({ frames := 4, cells := 0, slots := 0, locals := 96 } : Room) s m args below meth c H locs 0 0 (MQ below (gQi base D rr gz) args s 0 0 (gA base)) (F0 m 60 ls []) := by
        intro g a0 x1 x2 H locs ls hF hP hS hl
        unfold f7_quarterOn_60 at hF
        refine lv_iinc (v := x2 + (1 : Int32)) (lv' := [(2, .int (x2 + (1 : Int32))), (0, .ref a0), (1, .int x1)]) hx hb dX7_quarterOn_60 hl (k := 2) rfl rfl (by decide) rfl (fun ls hl => ?_)
        refine lv_goto (tgt := 4) hx hb dX7_quarterOn_63 (by decide) ?_
        exact ih4 _ _ _ _ _ _ _ hF hP hS (lv_sub hl [1, 2, 0] rfl)
      have HB35 : ∀ (g : g_H) (a0 : Nat) (x1 : Int32) (x2 : Int32) (H : Heap) (locs : List Loc) (ls : Array Slot), f7_quarterOn_35 (f7_quarterOn_4 n4) g a0 x1 x2 = some (rr, gz) → gP base D s g H → va_S (gA base) s.heap H locs → lv_has ls 3 [(0, .ref a0), (1, .int x1), (2, .int x2)] → W p l e ({ frames := 4, cells := 0, slots := 0, locals := 96 } : Room) s m args below meth c H locs 0 0 (MQ below (gQi base D rr gz) args s 0 0 (gA base)) (F0 m 35 ls []) := by
        intro g a0 x1 x2 H locs ls hF hP hS hl
        unfold f7_quarterOn_35 at hF
        refine lv_aload_n hx hb dX7_quarterOn_35 rfl (lv_at hl 0 rfl) ?_
        refine lv_iload_n hx hb dX7_quarterOn_36 rfl (lv_at hl 2 rfl) ?_
        refine lv_iconst (v := 1) hx hb dX7_quarterOn_37 (by decide) ?_
        obtain ⟨h15, hF⟩ := g_if hF
        obtain ⟨v17, g16, h14, hF⟩ := g_bind2 hF
        refine g_calli (va_runV (As := [.int x2, .int ((1 : Int32))]) (rest := []) ⟨hx, hb, hml, hown, hts⟩ (k7_be l D base g a0 x2 ((1 : Int32)) v17 g16 h14) (cwV 2 hts gX7_quarterOn_X7_be rfl rfl rfl (by decide +kernel) ⟨Nat.le_of_ble_eq_true rfl, Nat.le_of_ble_eq_true rfl⟩) (gC.preV hE hP hS 7 rfl (by decide) h15 [.int x2, .int ((1 : Int32))]) rfl rfl hl.1 rfl (lv_room (Nat.le_of_ble_eq_true rfl)) dX7_quarterOn_38 ⟨(Nat.le_of_ble_eq_true rfl), (Nat.le_of_ble_eq_true rfl)⟩) hS (fun H locs hP hS => ?_)
        refine lv_if_le (tgt := 47) hx hb dX7_quarterOn_41 (by decide) (fun c18 => ?_) (fun c18 => ?_)
        · have hF := g_t c18 hF
          refine lv_iload_n hx hb dX7_quarterOn_47 rfl (lv_at hl 1 rfl) ?_
          refine lv_aload_n hx hb dX7_quarterOn_48 rfl (lv_at hl 0 rfl) ?_
          refine lv_iload_n hx hb dX7_quarterOn_49 rfl (lv_at hl 2 rfl) ?_
          obtain ⟨h20, hF⟩ := g_if hF
          obtain ⟨v22, g21, h19, hF⟩ := g_bind2 hF
          refine g_calli (va_runV (As := [.int x2]) (rest := [.int x1]) ⟨hx, hb, hml, hown, hts⟩ (k7_deal l D base g16 a0 x2 v22 g21 h19) (cwV 1 hts gX7_quarterOn_X7_deal rfl rfl rfl (by decide +kernel) ⟨Nat.le_of_ble_eq_true rfl, Nat.le_of_ble_eq_true rfl⟩) (gC.preV hE hP hS 7 rfl (by decide) h20 [.int x2]) rfl rfl hl.1 rfl (lv_room (Nat.le_of_ble_eq_true rfl)) dX7_quarterOn_50 ⟨(Nat.le_of_ble_eq_true rfl), (Nat.le_of_ble_eq_true rfl)⟩) hS (fun H locs hP hS => ?_)
          refine lv_iadd hx hb dX7_quarterOn_53 ?_
          refine lv_istore_n (lv' := [(1, .int (x1 + v22)), (0, .ref a0), (2, .int x2)]) hx hb dX7_quarterOn_54 rfl hl (by decide) rfl (fun ls hl => ?_)
          refine lv_aload_n hx hb dX7_quarterOn_55 rfl (lv_at hl 1 rfl) ?_
          refine lv_iload_n hx hb dX7_quarterOn_56 rfl (lv_at hl 2 rfl) ?_
          obtain ⟨h24, hF⟩ := g_if hF
          obtain ⟨g25, h23, hF⟩ := g_bind hF
          refine g_callv (va_runV (As := [.int x2]) (rest := []) ⟨hx, hb, hml, hown, hts⟩ (k7_fly l D base g21 a0 x2 g25 h23) (cwV 1 hts gX7_quarterOn_X7_fly rfl rfl rfl (by decide +kernel) ⟨Nat.le_of_ble_eq_true rfl, Nat.le_of_ble_eq_true rfl⟩) (gC.preV hE hP hS 7 rfl (by decide) h24 [.int x2]) rfl rfl hl.1 rfl (lv_room (Nat.le_of_ble_eq_true rfl)) dX7_quarterOn_57 ⟨(Nat.le_of_ble_eq_true rfl), (Nat.le_of_ble_eq_true rfl)⟩) hS (fun H locs hP hS => ?_)
          exact HB60 _ _ _ _ _ _ _ hF hP hS (lv_sub hl [1, 0, 2] rfl)
        · have hF := g_f c18 hF
          refine lv_goto (tgt := 60) hx hb dX7_quarterOn_44 (by decide) ?_
          exact HB60 _ _ _ _ _ _ _ hF hP hS (lv_sub hl [0, 1, 2] rfl)
      intro g a0 x1 x2 H locs ls hF hP hS hl
      have hF : f7_quarterOn_4b (f7_quarterOn_4 n4) g a0 x1 x2 = some (rr, gz) := hF
      unfold f7_quarterOn_4b at hF
      refine lv_iload_n hx hb dX7_quarterOn_4 rfl (lv_at hl 2 rfl) ?_
      refine lv_aload_n hx hb dX7_quarterOn_5 rfl (lv_at hl 0 rfl) ?_
      obtain ⟨h1, hF⟩ := g_if hF
      refine g_get hx hb hts hiX7 hown hK hP 7 rfl (by decide) h1 6 (by decide) (hts (.fieldLink RX7 49 "CourierBeesModel" "bees" "I") (by decide +kernel)) (fun _ h9 => h9) (gFv_i (Or.inl rfl)) dX7_quarterOn_6 ?_
      refine lv_icmp_ge (tgt := 66) hx hb dX7_quarterOn_9 (by decide) (fun c2 => ?_) (fun c2 => ?_)
      · have hF := g_t c2 hF
        refine lv_aload_n hx hb dX7_quarterOn_66 rfl (lv_at hl 0 rfl) ?_
        obtain ⟨q3, hq4, hF⟩ := g_bind hF
        refine g_get hx hb hts hiX7 hown hK hP 7 rfl (by decide) h1 11 (by decide) (hts (.fieldLink RX7 29 "CourierBeesModel" "quarter" "[I") (by decide +kernel)) (fun _ h9 => h9) ((gFv_r (by decide)).trans (congrArg va_rf hq4)) dX7_quarterOn_67 ?_
        refine lv_iconst (v := 0) hx hb dX7_quarterOn_70 (by decide) ?_
        refine lv_dup2_11 hx hb dX7_quarterOn_71 rfl rfl ?_
        obtain ⟨h5, hF⟩ := g_if hF
        obtain ⟨h6, hF⟩ := g_if hF
        refine g_iald hx hb hP (g_pr h5) h6 dX7_quarterOn_72 ?_
        refine lv_iconst (v := 1) hx hb dX7_quarterOn_73 (by decide) ?_
        refine lv_iadd hx hb dX7_quarterOn_74 ?_
        obtain ⟨y7, e8, hF⟩ := g_let hF
        rw [e8]
        obtain ⟨h9, hF⟩ := g_if hF
        refine g_iast hx hb hP hS (g_pr h5) h9 dX7_quarterOn_75 (fun H locs hP hS => ?_)
        refine lv_iload_n hx hb dX7_quarterOn_76 rfl (lv_at hl 1 rfl) ?_
        exact g_retI hx hb hr hlocks hF hP hS (Nat.le_of_ble_eq_true rfl) (Nat.le_of_ble_eq_true rfl) dX7_quarterOn_77
      · have hF := g_f c2 hF
        refine lv_aload_n hx hb dX7_quarterOn_12 rfl (lv_at hl 0 rfl) ?_
        refine lv_iload_n hx hb dX7_quarterOn_13 rfl (lv_at hl 2 rfl) ?_
        refine lv_iconst (v := 1) hx hb dX7_quarterOn_14 (by decide) ?_
        obtain ⟨v12, g11, h10, hF⟩ := g_bind2 hF
        refine g_calli (va_runV (As := [.int x2, .int ((1 : Int32))]) (rest := []) ⟨hx, hb, hml, hown, hts⟩ (k7_be l D base g a0 x2 ((1 : Int32)) v12 g11 h10) (cwV 2 hts gX7_quarterOn_X7_be rfl rfl rfl (by decide +kernel) ⟨Nat.le_of_ble_eq_true rfl, Nat.le_of_ble_eq_true rfl⟩) (gC.preV hE hP hS 7 rfl (by decide) h1 [.int x2, .int ((1 : Int32))]) rfl rfl hl.1 rfl (lv_room (Nat.le_of_ble_eq_true rfl)) dX7_quarterOn_15 ⟨(Nat.le_of_ble_eq_true rfl), (Nat.le_of_ble_eq_true rfl)⟩) hS (fun H locs hP hS => ?_)
        refine lv_if_le (tgt := 35) hx hb dX7_quarterOn_18 (by decide) (fun c13 => ?_) (fun c13 => ?_)
        · have hF := g_t c13 hF
          exact HB35 _ _ _ _ _ _ _ hF hP hS (lv_sub hl [0, 1, 2] rfl)
        · have hF := g_f c13 hF
          refine lv_aload_n hx hb dX7_quarterOn_21 rfl (lv_at hl 0 rfl) ?_
          refine lv_iload_n hx hb dX7_quarterOn_22 rfl (lv_at hl 2 rfl) ?_
          refine lv_iconst (v := 1) hx hb dX7_quarterOn_23 (by decide) ?_
          refine lv_aload_n hx hb dX7_quarterOn_24 rfl (lv_at hl 0 rfl) ?_
          refine lv_iload_n hx hb dX7_quarterOn_25 rfl (lv_at hl 2 rfl) ?_
          refine lv_iconst (v := 1) hx hb dX7_quarterOn_26 (by decide) ?_
          obtain ⟨h28, hF⟩ := g_if hF
          obtain ⟨v30, g29, h27, hF⟩ := g_bind2 hF
          refine g_calli (va_runV (As := [.int x2, .int ((1 : Int32))]) (rest := [.int ((1 : Int32)), .int x2, .ref a0]) ⟨hx, hb, hml, hown, hts⟩ (k7_be l D base g11 a0 x2 ((1 : Int32)) v30 g29 h27) (cwV 2 hts gX7_quarterOn_X7_be rfl rfl rfl (by decide +kernel) ⟨Nat.le_of_ble_eq_true rfl, Nat.le_of_ble_eq_true rfl⟩) (gC.preV hE hP hS 7 rfl (by decide) h28 [.int x2, .int ((1 : Int32))]) rfl rfl hl.1 rfl (lv_room (Nat.le_of_ble_eq_true rfl)) dX7_quarterOn_27 ⟨(Nat.le_of_ble_eq_true rfl), (Nat.le_of_ble_eq_true rfl)⟩) hS (fun H locs hP hS => ?_)
          refine lv_iconst (v := 1) hx hb dX7_quarterOn_30 (by decide) ?_
          refine lv_isub hx hb dX7_quarterOn_31 ?_
          obtain ⟨h32, hF⟩ := g_if hF
          obtain ⟨g33, h31, hF⟩ := g_bind hF
          refine g_callv (va_runV (As := [.int x2, .int ((1 : Int32)), .int (v30 - ((1 : Int32)))]) (rest := []) ⟨hx, hb, hml, hown, hts⟩ (k7_setBe l D base g29 a0 x2 ((1 : Int32)) (v30 - ((1 : Int32))) g33 h31) (cwV 3 hts gX7_quarterOn_X7_setBe rfl rfl rfl (by decide +kernel) ⟨Nat.le_of_ble_eq_true rfl, Nat.le_of_ble_eq_true rfl⟩) (gC.preV hE hP hS 7 rfl (by decide) h32 [.int x2, .int ((1 : Int32)), .int (v30 - ((1 : Int32)))]) rfl rfl hl.1 rfl (lv_room (Nat.le_of_ble_eq_true rfl)) dX7_quarterOn_32 ⟨(Nat.le_of_ble_eq_true rfl), (Nat.le_of_ble_eq_true rfl)⟩) hS (fun H locs hP hS => ?_)
          exact HB35 _ _ _ _ _ _ _ hF hP hS (lv_sub hl [0, 1, 2] rfl)
  unfold f7_quarterOn at hF
  refine lv_iconst (v := 0) hx hb dX7_quarterOn_0 (by decide) ?_
  refine lv_istore_n (lv' := [(1, .int ((0 : Int32))), (0, .ref a0)]) hx hb dX7_quarterOn_1 rfl hl (by decide) rfl (fun ls hl => ?_)
  refine lv_iconst (v := 0) hx hb dX7_quarterOn_2 (by decide) ?_
  refine lv_istore_n (lv' := [(2, .int ((0 : Int32))), (1, .int ((0 : Int32))), (0, .ref a0)]) hx hb dX7_quarterOn_3 rfl hl (by decide) rfl (fun ls hl => ?_)
  exact HL4 300 _ _ _ _ _ _ _ hF hP hS (lv_sub hl [2, 1, 0] rfl)
set_option maxHeartbeats 4000000 in
set_option maxRecDepth 100000 in
theorem k7_pass (l : Launch) (D : va_G) (base : Nat) (g : g_H) (a0 : Nat) (x1 : Int32) (rr : Int32) (gz : g_H) (hF : f7_pass g a0 x1 = some (rr, gz)) : Met l yX7_pass wsX7_pass ({ frames := 5, cells := 0, slots := 0, locals := 118 } : Room) (va_Pc [.ref a0, .int x1] (gC base D g)) (gQi base D rr gz) 0 0 (gA base) := by
  refine g_met (cc := cX7_pass) (maxL := 4) (ret := (some .int)) (lst := [(0, .ref a0), (1, .int x1)]) (by decide) rfl (Nat.le_of_ble_eq_true rfl) rfl ?_
  intro p e s m args below meth c ls hx hb hr hml hown hlocks hname hts hE hP hl
  have hown : s.vm.findClass RX7 = some m.cls := hown
  have hK := hE.1
  have hov := hE.2.2.2.2.2.2.2.1
  have hbz := hE.2.2.2.2.2.2.2.2.2.2.2.2
  have hS : va_S (gA base) s.heap s.heap [] := va_S.rf
  have hiX7 : ∀ w ∈ wsX70, w ∈ wsX7_pass := by decide +kernel
  have HL26 : ∀ (n26 : Nat), ∀ (g : g_H) (a0 : Nat) (x1 : Int32) (x2 : Int32) (x3 : Int32) (H : Heap) (locs : List Loc) (ls : Array Slot), f7_pass_26 n26 g a0 x1 x2 x3 = some (rr, gz) → gP base D s g H → va_S (gA base) s.heap H locs → lv_has ls 4 [(0, .ref a0), (1, .int x1), (2, .int x2), (3, .int x3)] → W p l e ({ frames := 5, cells := 0, slots := 0, locals := 118 } : Room) s m args below meth c H locs 0 0 (MQ below (gQi base D rr gz) args s 0 0 (gA base)) (F0 m 26 ls []) := by
    intro n26
    induction n26 with
    | zero => intro g a0 x1 x2 x3 H locs ls hF hP hS hl; exact g_no hF
    | succ n26 ih26 =>
      intro g a0 x1 x2 x3 H locs ls hF hP hS hl
      have hF : f7_pass_26b (f7_pass_26 n26) g a0 x1 x2 x3 = some (rr, gz) := hF
      unfold f7_pass_26b at hF
      refine lv_iload_n hx hb dX7_pass_26 rfl (lv_at hl 3 rfl) ?_
      refine lv_iload_n hx hb dX7_pass_27 rfl (lv_at hl 1 rfl) ?_
      refine lv_icmp_ge (tgt := 44) hx hb dX7_pass_28 (by decide) (fun c6 => ?_) (fun c6 => ?_)
      · have hF := g_t c6 hF
        refine lv_iload_n hx hb dX7_pass_44 rfl (lv_at hl 2 rfl) ?_
        exact g_retI hx hb hr hlocks hF hP hS (Nat.le_of_ble_eq_true rfl) (Nat.le_of_ble_eq_true rfl) dX7_pass_45
      · have hF := g_f c6 hF
        refine lv_iload_n hx hb dX7_pass_31 rfl (lv_at hl 2 rfl) ?_
        refine lv_aload_n hx hb dX7_pass_32 rfl (lv_at hl 0 rfl) ?_
        obtain ⟨h8, hF⟩ := g_if hF
        obtain ⟨v10, g9, h7, hF⟩ := g_bind2 hF
        refine g_calli (va_runV (As := []) (rest := [.int x2]) ⟨hx, hb, hml, hown, hts⟩ (k7_quarterOn l D base g a0 v10 g9 h7) (cwV 0 hts gX7_pass_X7_quarterOn rfl rfl rfl (by decide +kernel) ⟨Nat.le_of_ble_eq_true rfl, Nat.le_of_ble_eq_true rfl⟩) (gC.preV hE hP hS 7 rfl (by decide) h8 []) rfl rfl hl.1 rfl (lv_room (Nat.le_of_ble_eq_true rfl)) dX7_pass_33 ⟨(Nat.le_of_ble_eq_true rfl), (Nat.le_of_ble_eq_true rfl)⟩) hS (fun H locs hP hS => ?_)
        refine lv_iadd hx hb dX7_pass_36 ?_
        refine lv_istore_n (lv' := [(2, .int (x2 + v10)), (0, .ref a0), (1, .int x1), (3, .int x3)]) hx hb dX7_pass_37 rfl hl (by decide) rfl (fun ls hl => ?_)
        refine lv_iinc (v := x3 + (1 : Int32)) (lv' := [(3, .int (x3 + (1 : Int32))), (2, .int (x2 + v10)), (0, .ref a0), (1, .int x1)]) hx hb dX7_pass_38 hl (k := 3) rfl rfl (by decide) rfl (fun ls hl => ?_)
        refine lv_goto (tgt := 26) hx hb dX7_pass_41 (by decide) ?_
        exact ih26 _ _ _ _ _ _ _ _ hF hP hS (lv_sub hl [2, 3, 1, 0] rfl)
  unfold f7_pass at hF
  refine lv_aload_n hx hb dX7_pass_0 rfl (lv_at hl 0 rfl) ?_
  refine lv_iconst (v := 0) hx hb dX7_pass_1 (by decide) ?_
  obtain ⟨h1, hF⟩ := g_if hF
  refine g_puti hx hb hts hiX7 tyX7 tyX7_ok nmX7 hown hK hP hS 7 rfl (by decide) h1 0 (by decide) (hts (.fieldLink RX7 35 "CourierBeesModel" "thrown" "I") (by decide +kernel)) (fun _ h9 => h9) (Or.inl rfl) (Or.inl rfl) rfl rfl dX7_pass_2 (fun H locs hP hS => ?_)
  refine lv_iload_n hx hb dX7_pass_5 rfl (lv_at hl 1 rfl) ?_
  refine lv_iconst (v := 1) hx hb dX7_pass_6 (by decide) ?_
  refine lv_sipush (v := 240) hx hb dX7_pass_7 (by decide) ?_
  obtain ⟨v4, g3, h2, hF⟩ := g_bind2 hF
  refine g_calli (va_runS (As := [.int x1, .int ((1 : Int32)), .int ((240 : Int32))]) (rest := []) ⟨hx, hb, hml, hown, hts⟩ (k7_isIn l D base (gPI g a0 0 ((0 : Int32))) x1 ((1 : Int32)) ((240 : Int32)) v4 g3 h2) (va_cwS 3 hts gX7_pass_X7_isIn rfl rfl rfl (by decide +kernel) ⟨Nat.le_of_ble_eq_true rfl, Nat.le_of_ble_eq_true rfl⟩) (gC.preS hE hP hS [.int x1, .int ((1 : Int32)), .int ((240 : Int32))]) rfl rfl hl.1 rfl (lv_room (Nat.le_of_ble_eq_true rfl)) dX7_pass_10 ⟨(Nat.le_of_ble_eq_true rfl), (Nat.le_of_ble_eq_true rfl)⟩) hS (fun H locs hP hS => ?_)
  refine lv_if_ne (tgt := 22) hx hb dX7_pass_13 (by decide) (fun c5 => ?_) (fun c5 => ?_)
  · have hF := g_f c5 hF
    refine lv_iconst (v := 0) hx hb dX7_pass_22 (by decide) ?_
    refine lv_istore_n (lv' := [(2, .int ((0 : Int32))), (0, .ref a0), (1, .int x1)]) hx hb dX7_pass_23 rfl hl (by decide) rfl (fun ls hl => ?_)
    refine lv_iconst (v := 0) hx hb dX7_pass_24 (by decide) ?_
    refine lv_istore_n (lv' := [(3, .int ((0 : Int32))), (2, .int ((0 : Int32))), (0, .ref a0), (1, .int x1)]) hx hb dX7_pass_25 rfl hl (by decide) rfl (fun ls hl => ?_)
    exact HL26 300 _ _ _ _ _ _ _ _ hF hP hS (lv_sub hl [2, 3, 1, 0] rfl)
  · have hF := g_t c5 hF
    refine lv_aload_n hx hb dX7_pass_16 rfl (lv_at hl 0 rfl) ?_
    refine lv_iconst (v := 1) hx hb dX7_pass_17 (by decide) ?_
    obtain ⟨h12, hF⟩ := g_if hF
    obtain ⟨v14, g13, h11, hF⟩ := g_bind2 hF
    refine g_calli (va_runV (As := [.int ((1 : Int32))]) (rest := []) ⟨hx, hb, hml, hown, hts⟩ (k7_fail l D base g3 a0 ((1 : Int32)) v14 g13 h11) (cwV 1 hts gX7_pass_X7_fail rfl rfl rfl (by decide +kernel) ⟨Nat.le_of_ble_eq_true rfl, Nat.le_of_ble_eq_true rfl⟩) (gC.preV hE hP hS 7 rfl (by decide) h12 [.int ((1 : Int32))]) rfl rfl hl.1 rfl (lv_room (Nat.le_of_ble_eq_true rfl)) dX7_pass_18 ⟨(Nat.le_of_ble_eq_true rfl), (Nat.le_of_ble_eq_true rfl)⟩) hS (fun H locs hP hS => ?_)
    exact g_retI hx hb hr hlocks hF hP hS (Nat.le_of_ble_eq_true rfl) (Nat.le_of_ble_eq_true rfl) dX7_pass_21
set_option maxHeartbeats 4000000 in
set_option maxRecDepth 100000 in
theorem k7_counted (l : Launch) (D : va_G) (base : Nat) (g : g_H) (a0 : Nat) (x1 : Int32) (rr : Int32) (gz : g_H) (hF : f7_counted g a0 x1 = some (rr, gz)) : Met l yX7_counted wsX7_counted ({ frames := 2, cells := 0, slots := 0, locals := 43 } : Room) (va_Pc [.ref a0, .int x1] (gC base D g)) (gQi base D rr gz) 0 0 (gA base) := by
  refine g_met (cc := cX7_counted) (maxL := 4) (ret := (some .int)) (lst := [(0, .ref a0), (1, .int x1)]) (by decide) rfl (Nat.le_of_ble_eq_true rfl) rfl ?_
  intro p e s m args below meth c ls hx hb hr hml hown hlocks hname hts hE hP hl
  have hown : s.vm.findClass RX7 = some m.cls := hown
  have hK := hE.1
  have hov := hE.2.2.2.2.2.2.2.1
  have hbz := hE.2.2.2.2.2.2.2.2.2.2.2.2
  have hS : va_S (gA base) s.heap s.heap [] := va_S.rf
  have hiX7 : ∀ w ∈ wsX70, w ∈ wsX7_counted := by decide +kernel
  have HL77 : ∀ (n77 : Nat), ∀ (g : g_H) (a0 : Nat) (x1 : Int32) (x2 : Int32) (x3 : Int32) (H : Heap) (locs : List Loc) (ls : Array Slot), f7_counted_77 n77 g a0 x1 x2 x3 = some (rr, gz) → gP base D s g H → va_S (gA base) s.heap H locs → lv_has ls 4 [(0, .ref a0), (1, .int x1), (2, .int x2), (3, .int x3)] → W p l e ({ frames := 2, cells := 0, slots := 0, locals := 43 } : Room) s m args below meth c H locs 0 0 (MQ below (gQi base D rr gz) args s 0 0 (gA base)) (F0 m 77 ls []) := by
    intro n77
    induction n77 with
    | zero => intro g a0 x1 x2 x3 H locs ls hF hP hS hl; exact g_no hF
    | succ n77 ih77 =>
      have HB110 : ∀ (g : g_H) (a0 : Nat) (x1 : Int32) (x3 : Int32) (s0 : Int32) (s1 : Int32) (H : Heap) (locs : List Loc) (ls : Array Slot), f7_counted_110 (f7_counted_77 n77) g a0 x1 x3 s0 s1 = some (rr, gz) → gP base D s g H → va_S (gA base) s.heap H locs → lv_has ls 4 [(0, .ref a0), (1, .int x1), (3, .int x3)] → W p l e ({ frames := 2, cells := 0, slots := 0, locals := 43 } : Room) s m args below meth c H locs 0 0 (MQ below (gQi base D rr gz) args s 0 0 (gA base)) (F0 m 110 ls [.int s1, .int s0]) := by
        intro g a0 x1 x3 s0 s1 H locs ls hF hP hS hl
        unfold f7_counted_110 at hF
        refine lv_iadd hx hb dX7_counted_110 ?_
        refine lv_istore_n (lv' := [(2, .int (s0 + s1)), (0, .ref a0), (1, .int x1), (3, .int x3)]) hx hb dX7_counted_111 rfl hl (by decide) rfl (fun ls hl => ?_)
        refine lv_iinc (v := x3 + (1 : Int32)) (lv' := [(3, .int (x3 + (1 : Int32))), (2, .int (s0 + s1)), (0, .ref a0), (1, .int x1)]) hx hb dX7_counted_112 hl (k := 3) rfl rfl (by decide) rfl (fun ls hl => ?_)
        refine lv_goto (tgt := 77) hx hb dX7_counted_115 (by decide) ?_
        exact ih77 _ _ _ _ _ _ _ _ hF hP hS (lv_sub hl [2, 3, 1, 0] rfl)
      have HB98 : ∀ (g : g_H) (a0 : Nat) (x1 : Int32) (x3 : Int32) (s0 : Int32) (s1 : Nat) (s2 : Int32) (s3 : Int32) (H : Heap) (locs : List Loc) (ls : Array Slot), f7_counted_98 (f7_counted_77 n77) g a0 x1 x3 s0 s1 s2 s3 = some (rr, gz) → gP base D s g H → va_S (gA base) s.heap H locs → lv_has ls 4 [(0, .ref a0), (1, .int x1), (3, .int x3)] → W p l e ({ frames := 2, cells := 0, slots := 0, locals := 43 } : Room) s m args below meth c H locs 0 0 (MQ below (gQi base D rr gz) args s 0 0 (gA base)) (F0 m 98 ls [.int s3, .int s2, .ref s1, .int s0]) := by
        intro g a0 x1 x3 s0 s1 s2 s3 H locs ls hF hP hS hl
        unfold f7_counted_98 at hF
        obtain ⟨h22, hF⟩ := g_if hF
        obtain ⟨v24, g23, h21, hF⟩ := g_bind2 hF
        refine g_calli (va_runV (As := [.int s2, .int s3]) (rest := [.int s0]) ⟨hx, hb, hml, hown, hts⟩ (k7_le l D base g s1 s2 s3 v24 g23 h21) (cwV 2 hts gX7_counted_X7_le rfl rfl rfl (by decide +kernel) ⟨Nat.le_of_ble_eq_true rfl, Nat.le_of_ble_eq_true rfl⟩) (gC.preV hE hP hS 7 rfl (by decide) h22 [.int s2, .int s3]) rfl rfl hl.1 rfl (lv_room (Nat.le_of_ble_eq_true rfl)) dX7_counted_98 ⟨(Nat.le_of_ble_eq_true rfl), (Nat.le_of_ble_eq_true rfl)⟩) hS (fun H locs hP hS => ?_)
        refine lv_iconst (v := (-1)) hx hb dX7_counted_101 (by decide) ?_
        refine lv_icmp_ne (tgt := 109) hx hb dX7_counted_102 (by decide) (fun c25 => ?_) (fun c25 => ?_)
        · have hF := g_f c25 hF
          refine lv_iconst (v := 1) hx hb dX7_counted_109 (by decide) ?_
          exact HB110 _ _ _ _ _ _ _ _ _ hF hP hS (lv_sub hl [0, 1, 2] rfl)
        · have hF := g_t c25 hF
          refine lv_iconst (v := 0) hx hb dX7_counted_105 (by decide) ?_
          refine lv_goto (tgt := 110) hx hb dX7_counted_106 (by decide) ?_
          exact HB110 _ _ _ _ _ _ _ _ _ hF hP hS (lv_sub hl [0, 1, 2] rfl)
      intro g a0 x1 x2 x3 H locs ls hF hP hS hl
      have hF : f7_counted_77b (f7_counted_77 n77) g a0 x1 x2 x3 = some (rr, gz) := hF
      unfold f7_counted_77b at hF
      refine lv_iload_n hx hb dX7_counted_77 rfl (lv_at hl 3 rfl) ?_
      refine lv_aload_n hx hb dX7_counted_78 rfl (lv_at hl 0 rfl) ?_
      obtain ⟨h18, hF⟩ := g_if hF
      refine g_get hx hb hts hiX7 hown hK hP 7 rfl (by decide) h18 9 (by decide) (hts (.fieldLink RX7 52 "CourierBeesModel" "letters" "I") (by decide +kernel)) (fun _ h9 => h9) (gFv_i (Or.inl rfl)) dX7_counted_79 ?_
      refine lv_icmp_ge (tgt := 118) hx hb dX7_counted_82 (by decide) (fun c19 => ?_) (fun c19 => ?_)
      · have hF := g_t c19 hF
        refine lv_iload_n hx hb dX7_counted_118 rfl (lv_at hl 2 rfl) ?_
        exact g_retI hx hb hr hlocks hF hP hS (Nat.le_of_ble_eq_true rfl) (Nat.le_of_ble_eq_true rfl) dX7_counted_119
      · have hF := g_f c19 hF
        refine lv_iload_n hx hb dX7_counted_85 rfl (lv_at hl 2 rfl) ?_
        refine lv_aload_n hx hb dX7_counted_86 rfl (lv_at hl 0 rfl) ?_
        refine lv_iload_n hx hb dX7_counted_87 rfl (lv_at hl 3 rfl) ?_
        refine lv_iload_n hx hb dX7_counted_88 rfl (lv_at hl 1 rfl) ?_
        refine lv_iconst (v := 5) hx hb dX7_counted_89 (by decide) ?_
        refine lv_icmp_ne (tgt := 97) hx hb dX7_counted_90 (by decide) (fun c20 => ?_) (fun c20 => ?_)
        · have hF := g_f c20 hF
          refine lv_iconst (v := 2) hx hb dX7_counted_97 (by decide) ?_
          exact HB98 _ _ _ _ _ _ _ _ _ _ _ hF hP hS (lv_sub hl [0, 1, 3] rfl)
        · have hF := g_t c20 hF
          refine lv_iconst (v := 3) hx hb dX7_counted_93 (by decide) ?_
          refine lv_goto (tgt := 98) hx hb dX7_counted_94 (by decide) ?_
          exact HB98 _ _ _ _ _ _ _ _ _ _ _ hF hP hS (lv_sub hl [0, 1, 3] rfl)
  have HB75 : ∀ (g : g_H) (a0 : Nat) (x1 : Int32) (x2 : Int32) (H : Heap) (locs : List Loc) (ls : Array Slot), f7_counted_75 g a0 x1 x2 = some (rr, gz) → gP base D s g H → va_S (gA base) s.heap H locs → lv_has ls 4 [(0, .ref a0), (1, .int x1), (2, .int x2)] → W p l e ({ frames := 2, cells := 0, slots := 0, locals := 43 } : Room) s m args below meth c H locs 0 0 (MQ below (gQi base D rr gz) args s 0 0 (gA base)) (F0 m 75 ls []) := by
    intro g a0 x1 x2 H locs ls hF hP hS hl
    unfold f7_counted_75 at hF
    refine lv_iconst (v := 0) hx hb dX7_counted_75 (by decide) ?_
    refine lv_istore_n (lv' := [(3, .int ((0 : Int32))), (0, .ref a0), (1, .int x1), (2, .int x2)]) hx hb dX7_counted_76 rfl hl (by decide) rfl (fun ls hl => ?_)
    exact HL77 300 _ _ _ _ _ _ _ _ hF hP hS (lv_sub hl [1, 2, 3, 0] rfl)
  have HL122 : ∀ (n122 : Nat), ∀ (g : g_H) (a0 : Nat) (x2 : Int32) (x3 : Int32) (H : Heap) (locs : List Loc) (ls : Array Slot), f7_counted_122 n122 g a0 x2 x3 = some (rr, gz) → gP base D s g H → va_S (gA base) s.heap H locs → lv_has ls 4 [(0, .ref a0), (2, .int x2), (3, .int x3)] → W p l e ({ frames := 2, cells := 0, slots := 0, locals := 43 } : Room) s m args below meth c H locs 0 0 (MQ below (gQi base D rr gz) args s 0 0 (gA base)) (F0 m 122 ls []) := by
    intro n122
    induction n122 with
    | zero => intro g a0 x2 x3 H locs ls hF hP hS hl; exact g_no hF
    | succ n122 ih122 =>
      intro g a0 x2 x3 H locs ls hF hP hS hl
      have hF : f7_counted_122b (f7_counted_122 n122) g a0 x2 x3 = some (rr, gz) := hF
      unfold f7_counted_122b at hF
      refine lv_iload_n hx hb dX7_counted_122 rfl (lv_at hl 2 rfl) ?_
      refine lv_aload_n hx hb dX7_counted_123 rfl (lv_at hl 0 rfl) ?_
      obtain ⟨h26, hF⟩ := g_if hF
      refine g_get hx hb hts hiX7 hown hK hP 7 rfl (by decide) h26 6 (by decide) (hts (.fieldLink RX7 49 "CourierBeesModel" "bees" "I") (by decide +kernel)) (fun _ h9 => h9) (gFv_i (Or.inl rfl)) dX7_counted_124 ?_
      refine lv_icmp_ge (tgt := 145) hx hb dX7_counted_127 (by decide) (fun c27 => ?_) (fun c27 => ?_)
      · have hF := g_t c27 hF
        refine lv_iload_n hx hb dX7_counted_145 rfl (lv_at hl 1 rfl) ?_
        exact g_retI hx hb hr hlocks hF hP hS (Nat.le_of_ble_eq_true rfl) (Nat.le_of_ble_eq_true rfl) dX7_counted_146
      · have hF := g_f c27 hF
        refine lv_iload_n hx hb dX7_counted_130 rfl (lv_at hl 1 rfl) ?_
        refine lv_aload_n hx hb dX7_counted_131 rfl (lv_at hl 0 rfl) ?_
        refine lv_iload_n hx hb dX7_counted_132 rfl (lv_at hl 2 rfl) ?_
        refine lv_iconst (v := 4) hx hb dX7_counted_133 (by decide) ?_
        obtain ⟨v30, g29, h28, hF⟩ := g_bind2 hF
        refine g_calli (va_runV (As := [.int x3, .int ((4 : Int32))]) (rest := [.int x2]) ⟨hx, hb, hml, hown, hts⟩ (k7_be l D base g a0 x3 ((4 : Int32)) v30 g29 h28) (cwV 2 hts gX7_counted_X7_be rfl rfl rfl (by decide +kernel) ⟨Nat.le_of_ble_eq_true rfl, Nat.le_of_ble_eq_true rfl⟩) (gC.preV hE hP hS 7 rfl (by decide) h26 [.int x3, .int ((4 : Int32))]) rfl rfl hl.1 rfl (lv_room (Nat.le_of_ble_eq_true rfl)) dX7_counted_134 ⟨(Nat.le_of_ble_eq_true rfl), (Nat.le_of_ble_eq_true rfl)⟩) hS (fun H locs hP hS => ?_)
        refine lv_iadd hx hb dX7_counted_137 ?_
        refine lv_istore_n (lv' := [(2, .int (x2 + v30)), (0, .ref a0), (3, .int x3)]) hx hb dX7_counted_138 rfl hl (by decide) rfl (fun ls hl => ?_)
        refine lv_iinc (v := x3 + (1 : Int32)) (lv' := [(3, .int (x3 + (1 : Int32))), (2, .int (x2 + v30)), (0, .ref a0)]) hx hb dX7_counted_139 hl (k := 2) rfl rfl (by decide) rfl (fun ls hl => ?_)
        refine lv_goto (tgt := 122) hx hb dX7_counted_142 (by decide) ?_
        exact ih122 _ _ _ _ _ _ _ hF hP hS (lv_sub hl [2, 1, 0] rfl)
  have HL149 : ∀ (n149 : Nat), ∀ (g : g_H) (a0 : Nat) (x2 : Int32) (x3 : Int32) (H : Heap) (locs : List Loc) (ls : Array Slot), f7_counted_149 n149 g a0 x2 x3 = some (rr, gz) → gP base D s g H → va_S (gA base) s.heap H locs → lv_has ls 4 [(0, .ref a0), (2, .int x2), (3, .int x3)] → W p l e ({ frames := 2, cells := 0, slots := 0, locals := 43 } : Room) s m args below meth c H locs 0 0 (MQ below (gQi base D rr gz) args s 0 0 (gA base)) (F0 m 149 ls []) := by
    intro n149
    induction n149 with
    | zero => intro g a0 x2 x3 H locs ls hF hP hS hl; exact g_no hF
    | succ n149 ih149 =>
      have HB171 : ∀ (g : g_H) (a0 : Nat) (x3 : Int32) (s0 : Int32) (s1 : Int32) (H : Heap) (locs : List Loc) (ls : Array Slot), f7_counted_171 (f7_counted_149 n149) g a0 x3 s0 s1 = some (rr, gz) → gP base D s g H → va_S (gA base) s.heap H locs → lv_has ls 4 [(0, .ref a0), (3, .int x3)] → W p l e ({ frames := 2, cells := 0, slots := 0, locals := 43 } : Room) s m args below meth c H locs 0 0 (MQ below (gQi base D rr gz) args s 0 0 (gA base)) (F0 m 171 ls [.int s1, .int s0]) := by
        intro g a0 x3 s0 s1 H locs ls hF hP hS hl
        unfold f7_counted_171 at hF
        refine lv_iadd hx hb dX7_counted_171 ?_
        refine lv_istore_n (lv' := [(2, .int (s0 + s1)), (0, .ref a0), (3, .int x3)]) hx hb dX7_counted_172 rfl hl (by decide) rfl (fun ls hl => ?_)
        refine lv_iinc (v := x3 + (1 : Int32)) (lv' := [(3, .int (x3 + (1 : Int32))), (2, .int (s0 + s1)), (0, .ref a0)]) hx hb dX7_counted_173 hl (k := 2) rfl rfl (by decide) rfl (fun ls hl => ?_)
        refine lv_goto (tgt := 149) hx hb dX7_counted_176 (by decide) ?_
        exact ih149 _ _ _ _ _ _ _ hF hP hS (lv_sub hl [2, 1, 0] rfl)
      intro g a0 x2 x3 H locs ls hF hP hS hl
      have hF : f7_counted_149b (f7_counted_149 n149) g a0 x2 x3 = some (rr, gz) := hF
      unfold f7_counted_149b at hF
      refine lv_iload_n hx hb dX7_counted_149 rfl (lv_at hl 2 rfl) ?_
      refine lv_aload_n hx hb dX7_counted_150 rfl (lv_at hl 0 rfl) ?_
      obtain ⟨h31, hF⟩ := g_if hF
      refine g_get hx hb hts hiX7 hown hK hP 7 rfl (by decide) h31 3 (by decide) (hts (.fieldLink RX7 46 "CourierBeesModel" "lanes" "I") (by decide +kernel)) (fun _ h9 => h9) (gFv_i (Or.inl rfl)) dX7_counted_151 ?_
      refine lv_icmp_ge (tgt := 179) hx hb dX7_counted_154 (by decide) (fun c32 => ?_) (fun c32 => ?_)
      · have hF := g_t c32 hF
        refine lv_iload_n hx hb dX7_counted_179 rfl (lv_at hl 1 rfl) ?_
        exact g_retI hx hb hr hlocks hF hP hS (Nat.le_of_ble_eq_true rfl) (Nat.le_of_ble_eq_true rfl) dX7_counted_180
      · have hF := g_f c32 hF
        refine lv_iload_n hx hb dX7_counted_157 rfl (lv_at hl 1 rfl) ?_
        refine lv_aload_n hx hb dX7_counted_158 rfl (lv_at hl 0 rfl) ?_
        refine lv_iload_n hx hb dX7_counted_159 rfl (lv_at hl 2 rfl) ?_
        obtain ⟨v35, g34, h33, hF⟩ := g_bind2 hF
        refine g_calli (va_runV (As := [.int x3]) (rest := [.int x2]) ⟨hx, hb, hml, hown, hts⟩ (k7_isOpen l D base g a0 x3 v35 g34 h33) (cwV 1 hts gX7_counted_X7_isOpen rfl rfl rfl (by decide +kernel) ⟨Nat.le_of_ble_eq_true rfl, Nat.le_of_ble_eq_true rfl⟩) (gC.preV hE hP hS 7 rfl (by decide) h31 [.int x3]) rfl rfl hl.1 rfl (lv_room (Nat.le_of_ble_eq_true rfl)) dX7_counted_160 ⟨(Nat.le_of_ble_eq_true rfl), (Nat.le_of_ble_eq_true rfl)⟩) hS (fun H locs hP hS => ?_)
        refine lv_if_eq (tgt := 170) hx hb dX7_counted_163 (by decide) (fun c36 => ?_) (fun c36 => ?_)
        · have hF := g_t c36 hF
          refine lv_iconst (v := 0) hx hb dX7_counted_170 (by decide) ?_
          exact HB171 _ _ _ _ _ _ _ _ hF hP hS (lv_sub hl [0, 2] rfl)
        · have hF := g_f c36 hF
          refine lv_iconst (v := 1) hx hb dX7_counted_166 (by decide) ?_
          refine lv_goto (tgt := 171) hx hb dX7_counted_167 (by decide) ?_
          exact HB171 _ _ _ _ _ _ _ _ hF hP hS (lv_sub hl [0, 2] rfl)
  unfold f7_counted at hF
  refine lv_iconst (v := 0) hx hb dX7_counted_0 (by decide) ?_
  refine lv_istore_n (lv' := [(2, .int ((0 : Int32))), (0, .ref a0), (1, .int x1)]) hx hb dX7_counted_1 rfl hl (by decide) rfl (fun ls hl => ?_)
  refine lv_iload_n hx hb dX7_counted_2 rfl (lv_at hl 2 rfl) ?_
  by_cases c1 : x1 = (0 : Int32)
  · have hF := g_t c1 hF
    refine lv_tableIn (off := 45) (tgt := 48) hx hb dX7_counted_3 (by rw [c1]; decide) (by rw [c1]; decide) (by rw [c1]; rfl) (by decide) ?_
    refine lv_aload_n hx hb dX7_counted_48 rfl (lv_at hl 1 rfl) ?_
    obtain ⟨h9, hF⟩ := g_if hF
    obtain ⟨q10, hq11, hF⟩ := g_bind hF
    refine g_get hx hb hts hiX7 hown hK hP 7 rfl (by decide) h9 11 (by decide) (hts (.fieldLink RX7 29 "CourierBeesModel" "quarter" "[I") (by decide +kernel)) (fun _ h9 => h9) ((gFv_r (by decide)).trans (congrArg va_rf hq11)) dX7_counted_49 ?_
    refine lv_iconst (v := 0) hx hb dX7_counted_52 (by decide) ?_
    obtain ⟨h12, hF⟩ := g_if hF
    obtain ⟨h13, hF⟩ := g_if hF
    refine g_iald hx hb hP (g_pr h12) h13 dX7_counted_53 ?_
    exact g_retI hx hb hr hlocks hF hP hS (Nat.le_of_ble_eq_true rfl) (Nat.le_of_ble_eq_true rfl) dX7_counted_54
  · have hF := g_f c1 hF
    by_cases c2 : x1 = (1 : Int32)
    · have hF := g_t c2 hF
      refine lv_tableIn (off := 52) (tgt := 55) hx hb dX7_counted_3 (by rw [c2]; decide) (by rw [c2]; decide) (by rw [c2]; rfl) (by decide) ?_
      refine lv_aload_n hx hb dX7_counted_55 rfl (lv_at hl 1 rfl) ?_
      obtain ⟨h14, hF⟩ := g_if hF
      refine g_get hx hb hts hiX7 hown hK hP 7 rfl (by decide) h14 1 (by decide) (hts (.fieldLink RX7 39 "CourierBeesModel" "houses" "I") (by decide +kernel)) (fun _ h9 => h9) (gFv_i (Or.inl rfl)) dX7_counted_56 ?_
      exact g_retI hx hb hr hlocks hF hP hS (Nat.le_of_ble_eq_true rfl) (Nat.le_of_ble_eq_true rfl) dX7_counted_59
    · have hF := g_f c2 hF
      by_cases c3 : x1 = (2 : Int32)
      · have hF := g_t c3 hF
        refine lv_tableIn (off := 57) (tgt := 60) hx hb dX7_counted_3 (by rw [c3]; decide) (by rw [c3]; decide) (by rw [c3]; rfl) (by decide) ?_
        refine lv_aload_n hx hb dX7_counted_60 rfl (lv_at hl 1 rfl) ?_
        obtain ⟨h15, hF⟩ := g_if hF
        refine g_get hx hb hts hiX7 hown hK hP 7 rfl (by decide) h15 3 (by decide) (hts (.fieldLink RX7 46 "CourierBeesModel" "lanes" "I") (by decide +kernel)) (fun _ h9 => h9) (gFv_i (Or.inl rfl)) dX7_counted_61 ?_
        exact g_retI hx hb hr hlocks hF hP hS (Nat.le_of_ble_eq_true rfl) (Nat.le_of_ble_eq_true rfl) dX7_counted_64
      · have hF := g_f c3 hF
        by_cases c4 : x1 = (3 : Int32)
        · have hF := g_t c4 hF
          refine lv_tableIn (off := 62) (tgt := 65) hx hb dX7_counted_3 (by rw [c4]; decide) (by rw [c4]; decide) (by rw [c4]; rfl) (by decide) ?_
          refine lv_aload_n hx hb dX7_counted_65 rfl (lv_at hl 1 rfl) ?_
          obtain ⟨h16, hF⟩ := g_if hF
          refine g_get hx hb hts hiX7 hown hK hP 7 rfl (by decide) h16 6 (by decide) (hts (.fieldLink RX7 49 "CourierBeesModel" "bees" "I") (by decide +kernel)) (fun _ h9 => h9) (gFv_i (Or.inl rfl)) dX7_counted_66 ?_
          exact g_retI hx hb hr hlocks hF hP hS (Nat.le_of_ble_eq_true rfl) (Nat.le_of_ble_eq_true rfl) dX7_counted_69
        · have hF := g_f c4 hF
          by_cases c5 : x1 = (4 : Int32)
          · have hF := g_t c5 hF
            refine lv_tableIn (off := 67) (tgt := 70) hx hb dX7_counted_3 (by rw [c5]; decide) (by rw [c5]; decide) (by rw [c5]; rfl) (by decide) ?_
            refine lv_aload_n hx hb dX7_counted_70 rfl (lv_at hl 1 rfl) ?_
            obtain ⟨h17, hF⟩ := g_if hF
            refine g_get hx hb hts hiX7 hown hK hP 7 rfl (by decide) h17 9 (by decide) (hts (.fieldLink RX7 52 "CourierBeesModel" "letters" "I") (by decide +kernel)) (fun _ h9 => h9) (gFv_i (Or.inl rfl)) dX7_counted_71 ?_
            exact g_retI hx hb hr hlocks hF hP hS (Nat.le_of_ble_eq_true rfl) (Nat.le_of_ble_eq_true rfl) dX7_counted_74
          · have hF := g_f c5 hF
            by_cases c6 : x1 = (5 : Int32)
            · have hF := g_t c6 hF
              refine lv_tableIn (off := 72) (tgt := 75) hx hb dX7_counted_3 (by rw [c6]; decide) (by rw [c6]; decide) (by rw [c6]; rfl) (by decide) ?_
              exact HB75 _ _ _ _ _ _ _ hF hP hS (lv_sub hl [1, 2, 0] rfl)
            · have hF := g_f c6 hF
              by_cases c7 : x1 = (6 : Int32)
              · have hF := g_t c7 hF
                refine lv_tableIn (off := 72) (tgt := 75) hx hb dX7_counted_3 (by rw [c7]; decide) (by rw [c7]; decide) (by rw [c7]; rfl) (by decide) ?_
                exact HB75 _ _ _ _ _ _ _ hF hP hS (lv_sub hl [1, 2, 0] rfl)
              · have hF := g_f c7 hF
                by_cases c8 : x1 = (7 : Int32)
                · have hF := g_t c8 hF
                  refine lv_tableIn (off := 117) (tgt := 120) hx hb dX7_counted_3 (by rw [c8]; decide) (by rw [c8]; decide) (by rw [c8]; rfl) (by decide) ?_
                  refine lv_iconst (v := 0) hx hb dX7_counted_120 (by decide) ?_
                  refine lv_istore_n (lv' := [(3, .int ((0 : Int32))), (2, .int ((0 : Int32))), (0, .ref a0), (1, .int x1)]) hx hb dX7_counted_121 rfl hl (by decide) rfl (fun ls hl => ?_)
                  exact HL122 300 _ _ _ _ _ _ _ hF hP hS (lv_sub hl [2, 1, 0] rfl)
                · have hF := g_f c8 hF
                  refine lv_tableOut (tgt := 147) hx hb dX7_counted_3 (by have h9 := g_out x1 7 (by decide) (fun k hk => by rcases (show k = 0 ∨ k = 1 ∨ k = 2 ∨ k = 3 ∨ k = 4 ∨ k = 5 ∨ k = 6 ∨ k = 7 by omega) with rfl | rfl | rfl | rfl | rfl | rfl | rfl | rfl <;> assumption); omega) (by decide) ?_
                  refine lv_iconst (v := 0) hx hb dX7_counted_147 (by decide) ?_
                  refine lv_istore_n (lv' := [(3, .int ((0 : Int32))), (2, .int ((0 : Int32))), (0, .ref a0), (1, .int x1)]) hx hb dX7_counted_148 rfl hl (by decide) rfl (fun ls hl => ?_)
                  exact HL149 300 _ _ _ _ _ _ _ hF hP hS (lv_sub hl [2, 1, 0] rfl)
set_option maxHeartbeats 4000000 in
set_option maxRecDepth 100000 in
theorem k7_count (l : Launch) (D : va_G) (base : Nat) (g : g_H) (a0 : Nat) (x1 : Int32) (rr : Int32) (gz : g_H) (hF : f7_count g a0 x1 = some (rr, gz)) : Met l yX7_count wsX7_count ({ frames := 3, cells := 0, slots := 0, locals := 66 } : Room) (va_Pc [.ref a0, .int x1] (gC base D g)) (gQi base D rr gz) 0 0 (gA base) := by
  refine g_met (cc := cX7_count) (maxL := 2) (ret := (some .int)) (lst := [(0, .ref a0), (1, .int x1)]) (by decide) rfl (Nat.le_of_ble_eq_true rfl) rfl ?_
  intro p e s m args below meth c ls hx hb hr hml hown hlocks hname hts hE hP hl
  have hown : s.vm.findClass RX7 = some m.cls := hown
  have hK := hE.1
  have hov := hE.2.2.2.2.2.2.2.1
  have hbz := hE.2.2.2.2.2.2.2.2.2.2.2.2
  have hS : va_S (gA base) s.heap s.heap [] := va_S.rf
  have hiX7 : ∀ w ∈ wsX70, w ∈ wsX7_count := by decide +kernel
  unfold f7_count at hF
  refine lv_aload_n hx hb dX7_count_0 rfl (lv_at hl 0 rfl) ?_
  refine lv_iconst (v := 0) hx hb dX7_count_1 (by decide) ?_
  obtain ⟨h1, hF⟩ := g_if hF
  refine g_puti hx hb hts hiX7 tyX7 tyX7_ok nmX7 hown hK hP hS 7 rfl (by decide) h1 0 (by decide) (hts (.fieldLink RX7 35 "CourierBeesModel" "thrown" "I") (by decide +kernel)) (fun _ h9 => h9) (Or.inl rfl) (Or.inl rfl) rfl rfl dX7_count_2 (fun H locs hP hS => ?_)
  refine lv_iload_n hx hb dX7_count_5 rfl (lv_at hl 1 rfl) ?_
  refine lv_iconst (v := 0) hx hb dX7_count_6 (by decide) ?_
  refine lv_bipush (v := 8) hx hb dX7_count_7 (by decide) ?_
  obtain ⟨v4, g3, h2, hF⟩ := g_bind2 hF
  refine g_calli (va_runS (As := [.int x1, .int ((0 : Int32)), .int ((8 : Int32))]) (rest := []) ⟨hx, hb, hml, hown, hts⟩ (k7_isIn l D base (gPI g a0 0 ((0 : Int32))) x1 ((0 : Int32)) ((8 : Int32)) v4 g3 h2) (va_cwS 3 hts gX7_count_X7_isIn rfl rfl rfl (by decide +kernel) ⟨Nat.le_of_ble_eq_true rfl, Nat.le_of_ble_eq_true rfl⟩) (gC.preS hE hP hS [.int x1, .int ((0 : Int32)), .int ((8 : Int32))]) rfl rfl hl.1 rfl (lv_room (Nat.le_of_ble_eq_true rfl)) dX7_count_9 ⟨(Nat.le_of_ble_eq_true rfl), (Nat.le_of_ble_eq_true rfl)⟩) hS (fun H locs hP hS => ?_)
  refine lv_if_eq (tgt := 23) hx hb dX7_count_12 (by decide) (fun c5 => ?_) (fun c5 => ?_)
  · have hF := g_t c5 hF
    refine lv_aload_n hx hb dX7_count_23 rfl (lv_at hl 0 rfl) ?_
    refine lv_iconst (v := 1) hx hb dX7_count_24 (by decide) ?_
    obtain ⟨h7, hF⟩ := g_if hF
    obtain ⟨v9, g8, h6, hF⟩ := g_bind2 hF
    refine g_calli (va_runV (As := [.int ((1 : Int32))]) (rest := []) ⟨hx, hb, hml, hown, hts⟩ (k7_fail l D base g3 a0 ((1 : Int32)) v9 g8 h6) (cwV 1 hts gX7_count_X7_fail rfl rfl rfl (by decide +kernel) ⟨Nat.le_of_ble_eq_true rfl, Nat.le_of_ble_eq_true rfl⟩) (gC.preV hE hP hS 7 rfl (by decide) h7 [.int ((1 : Int32))]) rfl rfl hl.1 rfl (lv_room (Nat.le_of_ble_eq_true rfl)) dX7_count_25 ⟨(Nat.le_of_ble_eq_true rfl), (Nat.le_of_ble_eq_true rfl)⟩) hS (fun H locs hP hS => ?_)
    exact g_retI hx hb hr hlocks hF hP hS (Nat.le_of_ble_eq_true rfl) (Nat.le_of_ble_eq_true rfl) dX7_count_28
  · have hF := g_f c5 hF
    refine lv_aload_n hx hb dX7_count_15 rfl (lv_at hl 0 rfl) ?_
    refine lv_iload_n hx hb dX7_count_16 rfl (lv_at hl 1 rfl) ?_
    obtain ⟨h11, hF⟩ := g_if hF
    obtain ⟨v13, g12, h10, hF⟩ := g_bind2 hF
    refine g_calli (va_runV (As := [.int x1]) (rest := []) ⟨hx, hb, hml, hown, hts⟩ (k7_counted l D base g3 a0 x1 v13 g12 h10) (cwV 1 hts gX7_count_X7_counted rfl rfl rfl (by decide +kernel) ⟨Nat.le_of_ble_eq_true rfl, Nat.le_of_ble_eq_true rfl⟩) (gC.preV hE hP hS 7 rfl (by decide) h11 [.int x1]) rfl rfl hl.1 rfl (lv_room (Nat.le_of_ble_eq_true rfl)) dX7_count_17 ⟨(Nat.le_of_ble_eq_true rfl), (Nat.le_of_ble_eq_true rfl)⟩) hS (fun H locs hP hS => ?_)
    refine lv_goto (tgt := 28) hx hb dX7_count_20 (by decide) ?_
    exact g_retI hx hb hr hlocks hF hP hS (Nat.le_of_ble_eq_true rfl) (Nat.le_of_ble_eq_true rfl) dX7_count_28
set_option maxHeartbeats 4000000 in
set_option maxRecDepth 100000 in
theorem k7_kept (l : Launch) (D : va_G) (base : Nat) (g : g_H) (a0 : Nat) (rr : Nat) (gz : g_H) (hF : f7_kept g a0 = some (rr, gz)) : Met l yX7_kept wsX7_kept ({ frames := 1, cells := 4, slots := 387, locals := 30 } : Room) (va_Pc [.ref a0] (gC base D g)) (gQr base D rr gz) 4 387 (gA base) := by
  refine g_met (cc := cX7_kept) (maxL := 1) (ret := (some (.array (.array .int)))) (lst := [(0, .ref a0)]) (by decide) rfl (Nat.le_of_ble_eq_true rfl) rfl ?_
  intro p e s m args below meth c ls hx hb hr hml hown hlocks hname hts hE hP hl
  have hown : s.vm.findClass RX7 = some m.cls := hown
  have hK := hE.1
  have hov := hE.2.2.2.2.2.2.2.1
  have hbz := hE.2.2.2.2.2.2.2.2.2.2.2.2
  have hS : va_S (gA base) s.heap s.heap [] := va_S.rf
  have hiX7 : ∀ w ∈ wsX70, w ∈ wsX7_kept := by decide +kernel
  unfold f7_kept at hF
  refine lv_iconst (v := 3) hx hb dX7_kept_0 (by decide) ?_
  obtain ⟨q1, g2, e3, e4, h5, hF⟩ := g_nw hF
  refine g_newqA hx hb hown (hts (.classLink RX7 155 (FieldType.array .int).toString) (by decide +kernel)) hov hP hS hbz (n := 3) (N' := 3) (by decide) (by decide) (Nat.le_of_ble_eq_true rfl) (Nat.le_of_ble_eq_true rfl) (Nat.le_of_ble_eq_true rfl) dX7_kept_1 (fun H hP hS => ?_)
  rw [e4] at hP
  rw [e3]
  refine lv_dup hx hb dX7_kept_4 rfl ?_
  refine lv_iconst (v := 0) hx hb dX7_kept_5 (by decide) ?_
  refine lv_aload_n hx hb dX7_kept_6 rfl (lv_at hl 0 rfl) ?_
  obtain ⟨h6, hF⟩ := g_if hF
  obtain ⟨q7, hq8, hF⟩ := g_bind hF
  refine g_get hx hb hts hiX7 hown hK hP 7 rfl (by decide) h6 7 (by decide) (hts (.fieldLink RX7 20 "CourierBeesModel" "swarm" "[I") (by decide +kernel)) (fun _ h9 => h9) ((gFv_r (by decide)).trans (congrArg va_rf hq8)) dX7_kept_7 ?_
  obtain ⟨h9, hF⟩ := g_if hF
  obtain ⟨h10, hF⟩ := g_if hF
  obtain ⟨q11, g12, e13, e14, h15, hF⟩ := g_nw hF
  refine g_clone hx hb (hml.trans hl.1.symm) hown (hts (.methodLink RX7 156 ⟨"[I", "clone", "()Ljava/lang/Object;"⟩) (by decide +kernel)) (hts (.sameMethod "[I" "java/lang/Object" "clone" "()Ljava/lang/Object;") (by decide +kernel)) (hts (.native ⟨"java/lang/Object", "clone", "()Ljava/lang/Object;"⟩) (by decide +kernel)) (hts (.instanceMethod ⟨"java/lang/Object", "clone", "()Ljava/lang/Object;"⟩) (by decide +kernel)) (hts (.selects "[I" ⟨"[I", "clone", "()Ljava/lang/Object;"⟩ ⟨"java/lang/Object", "clone", "()Ljava/lang/Object;"⟩) (by decide +kernel)) (hE.2.2.2.2.2.2.2.2.1 ("[I", "java/lang/Cloneable") (by decide)) hP hS hbz (g_pr h9) (Nat.le_of_ble_eq_true rfl) (Nat.le_of_ble_eq_true rfl) 128 h10 (Nat.le_of_ble_eq_true rfl) (Nat.le_of_ble_eq_true rfl) dX7_kept_10 (fun H hP hS => ?_)
  rw [e14] at hP
  rw [e13]
  refine g_castI hx hb hown (hts (.classLink RX7 155 "[I") (by decide +kernel)) hP (g_pr h15) dX7_kept_13 ?_
  obtain ⟨h16, hF⟩ := g_if hF
  obtain ⟨h17, hF⟩ := g_if hF
  refine g_aastA hx hb hP hS (g_pr h16) (g_pr h15) hov h17 dX7_kept_16 (fun H locs hP hS => ?_)
  refine lv_dup hx hb dX7_kept_17 rfl ?_
  refine lv_iconst (v := 1) hx hb dX7_kept_18 (by decide) ?_
  refine lv_aload_n hx hb dX7_kept_19 rfl (lv_at hl 0 rfl) ?_
  obtain ⟨h18, hF⟩ := g_if hF
  obtain ⟨q19, hq20, hF⟩ := g_bind hF
  refine g_get hx hb hts hiX7 hown hK hP 7 rfl (by decide) h18 10 (by decide) (hts (.fieldLink RX7 26 "CourierBeesModel" "post" "[I") (by decide +kernel)) (fun _ h9 => h9) ((gFv_r (by decide)).trans (congrArg va_rf hq20)) dX7_kept_20 ?_
  obtain ⟨h21, hF⟩ := g_if hF
  obtain ⟨h22, hF⟩ := g_if hF
  obtain ⟨q23, g24, e25, e26, h27, hF⟩ := g_nw hF
  refine g_clone hx hb (hml.trans hl.1.symm) hown (hts (.methodLink RX7 156 ⟨"[I", "clone", "()Ljava/lang/Object;"⟩) (by decide +kernel)) (hts (.sameMethod "[I" "java/lang/Object" "clone" "()Ljava/lang/Object;") (by decide +kernel)) (hts (.native ⟨"java/lang/Object", "clone", "()Ljava/lang/Object;"⟩) (by decide +kernel)) (hts (.instanceMethod ⟨"java/lang/Object", "clone", "()Ljava/lang/Object;"⟩) (by decide +kernel)) (hts (.selects "[I" ⟨"[I", "clone", "()Ljava/lang/Object;"⟩ ⟨"java/lang/Object", "clone", "()Ljava/lang/Object;"⟩) (by decide +kernel)) (hE.2.2.2.2.2.2.2.2.1 ("[I", "java/lang/Cloneable") (by decide)) hP hS hbz (g_pr h21) (Nat.le_of_ble_eq_true rfl) (Nat.le_of_ble_eq_true rfl) 128 h22 (Nat.le_of_ble_eq_true rfl) (Nat.le_of_ble_eq_true rfl) dX7_kept_23 (fun H hP hS => ?_)
  rw [e26] at hP
  rw [e25]
  refine g_castI hx hb hown (hts (.classLink RX7 155 "[I") (by decide +kernel)) hP (g_pr h27) dX7_kept_26 ?_
  obtain ⟨h28, hF⟩ := g_if hF
  obtain ⟨h29, hF⟩ := g_if hF
  refine g_aastA hx hb hP hS (g_pr h28) (g_pr h27) hov h29 dX7_kept_29 (fun H locs hP hS => ?_)
  refine lv_dup hx hb dX7_kept_30 rfl ?_
  refine lv_iconst (v := 2) hx hb dX7_kept_31 (by decide) ?_
  refine lv_aload_n hx hb dX7_kept_32 rfl (lv_at hl 0 rfl) ?_
  obtain ⟨h30, hF⟩ := g_if hF
  obtain ⟨q31, hq32, hF⟩ := g_bind hF
  refine g_get hx hb hts hiX7 hown hK hP 7 rfl (by decide) h30 11 (by decide) (hts (.fieldLink RX7 29 "CourierBeesModel" "quarter" "[I") (by decide +kernel)) (fun _ h9 => h9) ((gFv_r (by decide)).trans (congrArg va_rf hq32)) dX7_kept_33 ?_
  obtain ⟨h33, hF⟩ := g_if hF
  obtain ⟨h34, hF⟩ := g_if hF
  obtain ⟨q35, g36, e37, e38, h39, hF⟩ := g_nw hF
  refine g_clone hx hb (hml.trans hl.1.symm) hown (hts (.methodLink RX7 156 ⟨"[I", "clone", "()Ljava/lang/Object;"⟩) (by decide +kernel)) (hts (.sameMethod "[I" "java/lang/Object" "clone" "()Ljava/lang/Object;") (by decide +kernel)) (hts (.native ⟨"java/lang/Object", "clone", "()Ljava/lang/Object;"⟩) (by decide +kernel)) (hts (.instanceMethod ⟨"java/lang/Object", "clone", "()Ljava/lang/Object;"⟩) (by decide +kernel)) (hts (.selects "[I" ⟨"[I", "clone", "()Ljava/lang/Object;"⟩ ⟨"java/lang/Object", "clone", "()Ljava/lang/Object;"⟩) (by decide +kernel)) (hE.2.2.2.2.2.2.2.2.1 ("[I", "java/lang/Cloneable") (by decide)) hP hS hbz (g_pr h33) (Nat.le_of_ble_eq_true rfl) (Nat.le_of_ble_eq_true rfl) 128 h34 (Nat.le_of_ble_eq_true rfl) (Nat.le_of_ble_eq_true rfl) dX7_kept_36 (fun H hP hS => ?_)
  rw [e38] at hP
  rw [e37]
  refine g_castI hx hb hown (hts (.classLink RX7 155 "[I") (by decide +kernel)) hP (g_pr h39) dX7_kept_39 ?_
  obtain ⟨h40, hF⟩ := g_if hF
  obtain ⟨h41, hF⟩ := g_if hF
  refine g_aastA hx hb hP hS (g_pr h40) (g_pr h39) hov h41 dX7_kept_42 (fun H locs hP hS => ?_)
  exact g_retA hx hb hr (Or.inr ⟨_, rfl⟩) hlocks hF hP hS (Nat.le_of_ble_eq_true rfl) (Nat.le_of_ble_eq_true rfl) dX7_kept_43
set_option maxHeartbeats 4000000 in
set_option maxRecDepth 100000 in
theorem k7_bringBack (l : Launch) (D : va_G) (base : Nat) (g : g_H) (a0 : Nat) (a1 : Nat) (gz : g_H) (hF : f7_bringBack g a0 a1 = some gz) : Met l yX7_bringBack wsX7_bringBack ({ frames := 1, cells := 0, slots := 0, locals := 30 } : Room) (va_Pc [.ref a0, .ref a1] (gC base D g)) (gQv base D gz) 0 0 (gA base) := by
  refine g_met (cc := cX7_bringBack) (maxL := 2) (ret := none) (lst := [(0, .ref a0), (1, .ref a1)]) (by decide) rfl (Nat.le_of_ble_eq_true rfl) rfl ?_
  intro p e s m args below meth c ls hx hb hr hml hown hlocks hname hts hE hP hl
  have hown : s.vm.findClass RX7 = some m.cls := hown
  have hK := hE.1
  have hov := hE.2.2.2.2.2.2.2.1
  have hbz := hE.2.2.2.2.2.2.2.2.2.2.2.2
  have hS : va_S (gA base) s.heap s.heap [] := va_S.rf
  have hiX7 : ∀ w ∈ wsX70, w ∈ wsX7_bringBack := by decide +kernel
  unfold f7_bringBack at hF
  refine lv_aload_n hx hb dX7_bringBack_0 rfl (lv_at hl 1 rfl) ?_
  refine lv_iconst (v := 0) hx hb dX7_bringBack_1 (by decide) ?_
  obtain ⟨h1, hF⟩ := g_if hF
  obtain ⟨h2, hF⟩ := g_if hF
  obtain ⟨q3, hq4, hF⟩ := g_bind hF
  refine g_aald hx hb hP (g_pr h1) (by decide) h2 hq4 dX7_bringBack_2 ?_
  refine lv_iconst (v := 0) hx hb dX7_bringBack_3 (by decide) ?_
  refine lv_aload_n hx hb dX7_bringBack_4 rfl (lv_at hl 0 rfl) ?_
  obtain ⟨h5, hF⟩ := g_if hF
  obtain ⟨q6, hq7, hF⟩ := g_bind hF
  refine g_get hx hb hts hiX7 hown hK hP 7 rfl (by decide) h5 7 (by decide) (hts (.fieldLink RX7 20 "CourierBeesModel" "swarm" "[I") (by decide +kernel)) (fun _ h9 => h9) ((gFv_r (by decide)).trans (congrArg va_rf hq7)) dX7_bringBack_5 ?_
  refine lv_iconst (v := 0) hx hb dX7_bringBack_8 (by decide) ?_
  refine lv_aload_n hx hb dX7_bringBack_9 rfl (lv_at hl 0 rfl) ?_
  obtain ⟨q8, hq9, hF⟩ := g_bind hF
  refine g_get hx hb hts hiX7 hown hK hP 7 rfl (by decide) h5 7 (by decide) (hts (.fieldLink RX7 20 "CourierBeesModel" "swarm" "[I") (by decide +kernel)) (fun _ h9 => h9) ((gFv_r (by decide)).trans (congrArg va_rf hq9)) dX7_bringBack_10 ?_
  obtain ⟨h10, hF⟩ := g_if hF
  refine g_alen hx hb hP (g_pr h10) (by decide) dX7_bringBack_13 ?_
  obtain ⟨h11, hF⟩ := g_if hF
  obtain ⟨h12, hF⟩ := g_if hF
  obtain ⟨h13, hF⟩ := g_if hF
  refine g_copy hx hb (hml.trans hl.1.symm) hown (hts (.methodLink RX7 75 arraycopyName) (by decide +kernel)) (hts (.native arraycopyName) (by decide +kernel)) (hts (.static arraycopyName) (by decide +kernel)) (hts (.initialized "java/lang/System") (by decide +kernel)) hP hS (g_pr h11) (g_pr h12) h13.1 h13.2.1 h13.2.2.1 h13.2.2.2.1 h13.2.2.2.2 (Nat.le_of_ble_eq_true rfl) (by decide) dX7_bringBack_14 (fun H locs hP hS => ?_)
  refine lv_aload_n hx hb dX7_bringBack_17 rfl (lv_at hl 1 rfl) ?_
  refine lv_iconst (v := 1) hx hb dX7_bringBack_18 (by decide) ?_
  obtain ⟨h14, hF⟩ := g_if hF
  obtain ⟨q15, hq16, hF⟩ := g_bind hF
  refine g_aald hx hb hP (g_pr h1) (by decide) h14 hq16 dX7_bringBack_19 ?_
  refine lv_iconst (v := 0) hx hb dX7_bringBack_20 (by decide) ?_
  refine lv_aload_n hx hb dX7_bringBack_21 rfl (lv_at hl 0 rfl) ?_
  obtain ⟨q17, hq18, hF⟩ := g_bind hF
  refine g_get hx hb hts hiX7 hown hK hP 7 rfl (by decide) h5 10 (by decide) (hts (.fieldLink RX7 26 "CourierBeesModel" "post" "[I") (by decide +kernel)) (fun _ h9 => h9) ((gFv_r (by decide)).trans (congrArg va_rf hq18)) dX7_bringBack_22 ?_
  refine lv_iconst (v := 0) hx hb dX7_bringBack_25 (by decide) ?_
  refine lv_aload_n hx hb dX7_bringBack_26 rfl (lv_at hl 0 rfl) ?_
  obtain ⟨q19, hq20, hF⟩ := g_bind hF
  refine g_get hx hb hts hiX7 hown hK hP 7 rfl (by decide) h5 10 (by decide) (hts (.fieldLink RX7 26 "CourierBeesModel" "post" "[I") (by decide +kernel)) (fun _ h9 => h9) ((gFv_r (by decide)).trans (congrArg va_rf hq20)) dX7_bringBack_27 ?_
  obtain ⟨h21, hF⟩ := g_if hF
  refine g_alen hx hb hP (g_pr h21) (by decide) dX7_bringBack_30 ?_
  obtain ⟨h22, hF⟩ := g_if hF
  obtain ⟨h23, hF⟩ := g_if hF
  obtain ⟨h24, hF⟩ := g_if hF
  refine g_copy hx hb (hml.trans hl.1.symm) hown (hts (.methodLink RX7 75 arraycopyName) (by decide +kernel)) (hts (.native arraycopyName) (by decide +kernel)) (hts (.static arraycopyName) (by decide +kernel)) (hts (.initialized "java/lang/System") (by decide +kernel)) hP hS (g_pr h22) (g_pr h23) h24.1 h24.2.1 h24.2.2.1 h24.2.2.2.1 h24.2.2.2.2 (Nat.le_of_ble_eq_true rfl) (by decide) dX7_bringBack_31 (fun H locs hP hS => ?_)
  obtain ⟨g25, e26, hF⟩ := g_let hF
  rw [e26] at hP
  have h27 : (gS g25 a1).1 = 14 := by rw [← e26]; exact h1
  have h28 : (gS g25 a0).1 = 8 := by rw [← e26]; exact h5
  have h29 : (gS g25 q8).1 = 11 := by rw [← e26]; exact h10
  have h30 : (gS g25 q3).1 = 11 := by rw [← e26]; exact h11
  have h31 : (gS g25 q6).1 = 11 := by rw [← e26]; exact h12
  have h32 : (gS g25 q19).1 = 11 := by rw [← e26]; exact h21
  have h33 : (gS g25 q15).1 = 11 := by rw [← e26]; exact h22
  have h34 : (gS g25 q17).1 = 11 := by rw [← e26]; exact h23
  refine lv_aload_n hx hb dX7_bringBack_34 rfl (lv_at hl 0 rfl) ?_
  obtain ⟨q35, hq36, hF⟩ := g_bind hF
  refine g_get hx hb hts hiX7 hown hK hP 7 rfl (by decide) h28 11 (by decide) (hts (.fieldLink RX7 29 "CourierBeesModel" "quarter" "[I") (by decide +kernel)) (fun _ h9 => h9) ((gFv_r (by decide)).trans (congrArg va_rf hq36)) dX7_bringBack_35 ?_
  refine lv_iconst (v := 0) hx hb dX7_bringBack_38 (by decide) ?_
  refine lv_aload_n hx hb dX7_bringBack_39 rfl (lv_at hl 1 rfl) ?_
  refine lv_iconst (v := 2) hx hb dX7_bringBack_40 (by decide) ?_
  obtain ⟨h37, hF⟩ := g_if hF
  obtain ⟨q38, hq39, hF⟩ := g_bind hF
  refine g_aald hx hb hP (g_pr h27) (by decide) h37 hq39 dX7_bringBack_41 ?_
  refine lv_iconst (v := 0) hx hb dX7_bringBack_42 (by decide) ?_
  obtain ⟨h40, hF⟩ := g_if hF
  obtain ⟨h41, hF⟩ := g_if hF
  refine g_iald hx hb hP (g_pr h40) h41 dX7_bringBack_43 ?_
  obtain ⟨y42, e43, hF⟩ := g_let hF
  rw [e43]
  obtain ⟨h44, hF⟩ := g_if hF
  obtain ⟨h45, hF⟩ := g_if hF
  refine g_iast hx hb hP hS (g_pr h44) h45 dX7_bringBack_44 (fun H locs hP hS => ?_)
  exact g_retV hx hb hr hlocks hF hP hS (Nat.le_of_ble_eq_true rfl) (Nat.le_of_ble_eq_true rfl) dX7_bringBack_45
set_option maxHeartbeats 4000000 in
set_option maxRecDepth 100000 in
theorem k7_comes (l : Launch) (D : va_G) (base : Nat) (g : g_H) (a0 : Nat) (x1 : Int32) (rr : Int32) (gz : g_H) (hF : f7_comes g a0 x1 = some (rr, gz)) : Met l yX7_comes wsX7_comes ({ frames := 5, cells := 4, slots := 387, locals := 118 } : Room) (va_Pc [.ref a0, .int x1] (gC base D g)) (gQi base D rr gz) 4 387 (gA base) := by
  refine g_met (cc := cX7_comes) (maxL := 4) (ret := (some .int)) (lst := [(0, .ref a0), (1, .int x1)]) (by decide) rfl (Nat.le_of_ble_eq_true rfl) rfl ?_
  intro p e s m args below meth c ls hx hb hr hml hown hlocks hname hts hE hP hl
  have hown : s.vm.findClass RX7 = some m.cls := hown
  have hK := hE.1
  have hov := hE.2.2.2.2.2.2.2.1
  have hbz := hE.2.2.2.2.2.2.2.2.2.2.2.2
  have hS : va_S (gA base) s.heap s.heap [] := va_S.rf
  have hiX7 : ∀ w ∈ wsX70, w ∈ wsX7_comes := by decide +kernel
  have HB66 : ∀ (g : g_H) (a0 : Nat) (a2 : Nat) (x3 : Int32) (H : Heap) (locs : List Loc) (ls : Array Slot), f7_comes_66 g a0 a2 x3 = some (rr, gz) → gP base D s g H → va_S (gA base) s.heap H locs → lv_has ls 4 [(0, .ref a0), (2, .ref a2), (3, .int x3)] → W p l e ({ frames := 5, cells := 4, slots := 387, locals := 118 } : Room) s m args below meth c H locs 4 387 (MQ below (gQi base D rr gz) args s 4 387 (gA base)) (F0 m 66 ls []) := by
    intro g a0 a2 x3 H locs ls hF hP hS hl
    unfold f7_comes_66 at hF
    refine lv_aload_n hx hb dX7_comes_66 rfl (lv_at hl 0 rfl) ?_
    refine lv_aload_n hx hb dX7_comes_67 rfl (lv_at hl 1 rfl) ?_
    obtain ⟨h17, hF⟩ := g_if hF
    obtain ⟨g18, h16, hF⟩ := g_bind hF
    refine g_callv (va_runV (As := [.ref a2]) (rest := []) ⟨hx, hb, hml, hown, hts⟩ (k7_bringBack l D base g a0 a2 g18 h16) (cwV 1 hts gX7_comes_X7_bringBack rfl rfl rfl (by decide +kernel) ⟨Nat.le_of_ble_eq_true rfl, Nat.le_of_ble_eq_true rfl⟩) (gC.preV hE hP hS 7 rfl (by decide) h17 [.ref a2]) rfl rfl hl.1 rfl (lv_room (Nat.le_of_ble_eq_true rfl)) dX7_comes_68 ⟨(Nat.le_of_ble_eq_true rfl), (Nat.le_of_ble_eq_true rfl)⟩) hS (fun H locs hP hS => ?_)
    refine lv_iload_n hx hb dX7_comes_71 rfl (lv_at hl 2 rfl) ?_
    exact g_retI hx hb hr hlocks hF hP hS (Nat.le_of_ble_eq_true rfl) (Nat.le_of_ble_eq_true rfl) dX7_comes_72
  have HB54 : ∀ (g : g_H) (a0 : Nat) (x1 : Int32) (a2 : Nat) (x3 : Int32) (H : Heap) (locs : List Loc) (ls : Array Slot), f7_comes_54 g a0 x1 a2 x3 = some (rr, gz) → gP base D s g H → va_S (gA base) s.heap H locs → lv_has ls 4 [(0, .ref a0), (1, .int x1), (2, .ref a2), (3, .int x3)] → W p l e ({ frames := 5, cells := 4, slots := 387, locals := 118 } : Room) s m args below meth c H locs 4 387 (MQ below (gQi base D rr gz) args s 4 387 (gA base)) (F0 m 54 ls []) := by
    intro g a0 x1 a2 x3 H locs ls hF hP hS hl
    unfold f7_comes_54 at hF
    refine lv_aload_n hx hb dX7_comes_54 rfl (lv_at hl 0 rfl) ?_
    refine lv_iload_n hx hb dX7_comes_55 rfl (lv_at hl 1 rfl) ?_
    refine lv_iconst (v := 3) hx hb dX7_comes_56 (by decide) ?_
    obtain ⟨h12, hF⟩ := g_if hF
    obtain ⟨v14, g13, h11, hF⟩ := g_bind2 hF
    refine g_calli (va_runV (As := [.int x1, .int ((3 : Int32))]) (rest := []) ⟨hx, hb, hml, hown, hts⟩ (k7_le l D base g a0 x1 ((3 : Int32)) v14 g13 h11) (cwV 2 hts gX7_comes_X7_le rfl rfl rfl (by decide +kernel) ⟨Nat.le_of_ble_eq_true rfl, Nat.le_of_ble_eq_true rfl⟩) (gC.preV hE hP hS 7 rfl (by decide) h12 [.int x1, .int ((3 : Int32))]) rfl rfl hl.1 rfl (lv_room (Nat.le_of_ble_eq_true rfl)) dX7_comes_57 ⟨(Nat.le_of_ble_eq_true rfl), (Nat.le_of_ble_eq_true rfl)⟩) hS (fun H locs hP hS => ?_)
    refine lv_iconst (v := (-1)) hx hb dX7_comes_60 (by decide) ?_
    refine lv_icmp_ne (tgt := 66) hx hb dX7_comes_61 (by decide) (fun c15 => ?_) (fun c15 => ?_)
    · have hF := g_f c15 hF
      exact HB66 _ _ _ _ _ _ _ hF hP hS (lv_sub hl [0, 2, 3] rfl)
    · have hF := g_t c15 hF
      refine lv_iconst (v := (-1)) hx hb dX7_comes_64 (by decide) ?_
      refine lv_istore_n (lv' := [(3, .int ((-1 : Int32))), (0, .ref a0), (1, .int x1), (2, .ref a2)]) hx hb dX7_comes_65 rfl hl (by decide) rfl (fun ls hl => ?_)
      exact HB66 _ _ _ _ _ _ _ hF hP hS (lv_sub hl [1, 3, 0] rfl)
  have HL26 : ∀ (n26 : Nat), ∀ (g : g_H) (a0 : Nat) (x1 : Int32) (a2 : Nat) (x3 : Int32) (H : Heap) (locs : List Loc) (ls : Array Slot), f7_comes_26 n26 g a0 x1 a2 x3 = some (rr, gz) → gP base D s g H → va_S (gA base) s.heap H locs → lv_has ls 4 [(0, .ref a0), (1, .int x1), (2, .ref a2), (3, .int x3)] → W p l e ({ frames := 5, cells := 4, slots := 387, locals := 118 } : Room) s m args below meth c H locs 4 387 (MQ below (gQi base D rr gz) args s 4 387 (gA base)) (F0 m 26 ls []) := by
    intro n26
    induction n26 with
    | zero => intro g a0 x1 a2 x3 H locs ls hF hP hS hl; exact g_no hF
    | succ n26 ih26 =>
      intro g a0 x1 a2 x3 H locs ls hF hP hS hl
      have hF : f7_comes_26b (f7_comes_26 n26) g a0 x1 a2 x3 = some (rr, gz) := hF
      unfold f7_comes_26b at hF
      refine lv_iload_n hx hb dX7_comes_26 rfl (lv_at hl 3 rfl) ?_
      refine lv_sipush (v := 240) hx hb dX7_comes_27 (by decide) ?_
      refine lv_icmp_ge (tgt := 54) hx hb dX7_comes_30 (by decide) (fun c10 => ?_) (fun c10 => ?_)
      · have hF := g_t c10 hF
        exact HB54 _ _ _ _ _ _ _ _ hF hP hS (lv_sub hl [0, 1, 2, 3] rfl)
      · have hF := g_f c10 hF
        refine lv_aload_n hx hb dX7_comes_33 rfl (lv_at hl 0 rfl) ?_
        refine lv_iload_n hx hb dX7_comes_34 rfl (lv_at hl 1 rfl) ?_
        refine lv_iconst (v := 3) hx hb dX7_comes_35 (by decide) ?_
        obtain ⟨h21, hF⟩ := g_if hF
        obtain ⟨v23, g22, h20, hF⟩ := g_bind2 hF
        refine g_calli (va_runV (As := [.int x1, .int ((3 : Int32))]) (rest := []) ⟨hx, hb, hml, hown, hts⟩ (k7_le l D base g a0 x1 ((3 : Int32)) v23 g22 h20) (cwV 2 hts gX7_comes_X7_le rfl rfl rfl (by decide +kernel) ⟨Nat.le_of_ble_eq_true rfl, Nat.le_of_ble_eq_true rfl⟩) (gC.preV hE hP hS 7 rfl (by decide) h21 [.int x1, .int ((3 : Int32))]) rfl rfl hl.1 rfl (lv_room (Nat.le_of_ble_eq_true rfl)) dX7_comes_36 ⟨(Nat.le_of_ble_eq_true rfl), (Nat.le_of_ble_eq_true rfl)⟩) hS (fun H locs hP hS => ?_)
        refine lv_iconst (v := (-1)) hx hb dX7_comes_39 (by decide) ?_
        refine lv_icmp_ne (tgt := 54) hx hb dX7_comes_40 (by decide) (fun c24 => ?_) (fun c24 => ?_)
        · have hF := g_f c24 hF
          exact HB54 _ _ _ _ _ _ _ _ hF hP hS (lv_sub hl [0, 1, 2, 3] rfl)
        · have hF := g_t c24 hF
          refine lv_aload_n hx hb dX7_comes_43 rfl (lv_at hl 0 rfl) ?_
          obtain ⟨h26, hF⟩ := g_if hF
          obtain ⟨v28, g27, h25, hF⟩ := g_bind2 hF
          refine g_calli (va_runV (As := []) (rest := []) ⟨hx, hb, hml, hown, hts⟩ (k7_quarterOn l D base g22 a0 v28 g27 h25) (cwV 0 hts gX7_comes_X7_quarterOn rfl rfl rfl (by decide +kernel) ⟨Nat.le_of_ble_eq_true rfl, Nat.le_of_ble_eq_true rfl⟩) (gC.preV hE hP hS 7 rfl (by decide) h26 []) rfl rfl hl.1 rfl (lv_room (Nat.le_of_ble_eq_true rfl)) dX7_comes_44 ⟨(Nat.le_of_ble_eq_true rfl), (Nat.le_of_ble_eq_true rfl)⟩) hS (fun H locs hP hS => ?_)
          refine lv_pop hx hb dX7_comes_47 rfl ?_
          refine lv_iinc (v := x3 + (1 : Int32)) (lv' := [(3, .int (x3 + (1 : Int32))), (0, .ref a0), (1, .int x1), (2, .ref a2)]) hx hb dX7_comes_48 hl (k := 3) rfl rfl (by decide) rfl (fun ls hl => ?_)
          refine lv_goto (tgt := 26) hx hb dX7_comes_51 (by decide) ?_
          exact ih26 _ _ _ _ _ _ _ _ hF hP hS (lv_sub hl [1, 2, 3, 0] rfl)
  unfold f7_comes at hF
  refine lv_aload_n hx hb dX7_comes_0 rfl (lv_at hl 0 rfl) ?_
  refine lv_iconst (v := 0) hx hb dX7_comes_1 (by decide) ?_
  obtain ⟨h1, hF⟩ := g_if hF
  refine g_puti hx hb hts hiX7 tyX7 tyX7_ok nmX7 hown hK hP hS 7 rfl (by decide) h1 0 (by decide) (hts (.fieldLink RX7 35 "CourierBeesModel" "thrown" "I") (by decide +kernel)) (fun _ h9 => h9) (Or.inl rfl) (Or.inl rfl) rfl rfl dX7_comes_2 (fun H locs hP hS => ?_)
  refine lv_aload_n hx hb dX7_comes_5 rfl (lv_at hl 0 rfl) ?_
  refine lv_iload_n hx hb dX7_comes_6 rfl (lv_at hl 1 rfl) ?_
  obtain ⟨v4, g3, h2, hF⟩ := g_bind2 hF
  refine g_calli (va_runV (As := [.int x1]) (rest := []) ⟨hx, hb, hml, hown, hts⟩ (k7_isLetter l D base (gPI g a0 0 ((0 : Int32))) a0 x1 v4 g3 h2) (cwV 1 hts gX7_comes_X7_isLetter rfl rfl rfl (by decide +kernel) ⟨Nat.le_of_ble_eq_true rfl, Nat.le_of_ble_eq_true rfl⟩) (gC.preV hE hP hS 7 rfl (by decide) h1 [.int x1]) rfl rfl hl.1 rfl (lv_room (Nat.le_of_ble_eq_true rfl)) dX7_comes_7 ⟨(Nat.le_of_ble_eq_true rfl), (Nat.le_of_ble_eq_true rfl)⟩) hS (fun H locs hP hS => ?_)
  refine lv_if_ne (tgt := 19) hx hb dX7_comes_10 (by decide) (fun c5 => ?_) (fun c5 => ?_)
  · have hF := g_f c5 hF
    refine lv_aload_n hx hb dX7_comes_19 rfl (lv_at hl 0 rfl) ?_
    obtain ⟨h7, hF⟩ := g_if hF
    obtain ⟨v9, g8, h6, hF⟩ := g_bind2 hF
    refine g_callr (va_runV (As := []) (rest := []) ⟨hx, hb, hml, hown, hts⟩ (k7_kept l D base g3 a0 v9 g8 h6) (cwV 0 hts gX7_comes_X7_kept rfl rfl rfl (by decide +kernel) ⟨Nat.le_of_ble_eq_true rfl, Nat.le_of_ble_eq_true rfl⟩) (gC.preV hE hP hS 7 rfl (by decide) h7 []) rfl rfl hl.1 rfl (lv_room (Nat.le_of_ble_eq_true rfl)) dX7_comes_20 ⟨(Nat.le_of_ble_eq_true rfl), (Nat.le_of_ble_eq_true rfl)⟩) hS (fun H locs hP hS => ?_)
    refine lv_astore_n (lv' := [(2, .ref v9), (0, .ref a0), (1, .int x1)]) hx hb dX7_comes_23 rfl hl (by decide) rfl (fun ls hl => ?_)
    refine lv_iconst (v := 0) hx hb dX7_comes_24 (by decide) ?_
    refine lv_istore_n (lv' := [(3, .int ((0 : Int32))), (2, .ref v9), (0, .ref a0), (1, .int x1)]) hx hb dX7_comes_25 rfl hl (by decide) rfl (fun ls hl => ?_)
    exact HL26 300 _ _ _ _ _ _ _ _ hF hP hS (lv_sub hl [2, 3, 1, 0] rfl)
  · have hF := g_t c5 hF
    refine lv_aload_n hx hb dX7_comes_13 rfl (lv_at hl 0 rfl) ?_
    refine lv_iconst (v := 1) hx hb dX7_comes_14 (by decide) ?_
    obtain ⟨h30, hF⟩ := g_if hF
    obtain ⟨v32, g31, h29, hF⟩ := g_bind2 hF
    refine g_calli (va_runV (As := [.int ((1 : Int32))]) (rest := []) ⟨hx, hb, hml, hown, hts⟩ (k7_fail l D base g3 a0 ((1 : Int32)) v32 g31 h29) (cwV 1 hts gX7_comes_X7_fail rfl rfl rfl (by decide +kernel) ⟨Nat.le_of_ble_eq_true rfl, Nat.le_of_ble_eq_true rfl⟩) (gC.preV hE hP hS 7 rfl (by decide) h30 [.int ((1 : Int32))]) rfl rfl hl.1 rfl (lv_room (Nat.le_of_ble_eq_true rfl)) dX7_comes_15 ⟨(Nat.le_of_ble_eq_true rfl), (Nat.le_of_ble_eq_true rfl)⟩) hS (fun H locs hP hS => ?_)
    exact g_retI hx hb hr hlocks hF hP hS (Nat.le_of_ble_eq_true rfl) (Nat.le_of_ble_eq_true rfl) dX7_comes_18
