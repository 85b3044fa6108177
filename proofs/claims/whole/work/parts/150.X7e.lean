set_option maxHeartbeats 4000000 in
set_option maxRecDepth 100000 in
theorem k7_advise (l : Launch) (D : va_G) (base : Nat) (g : g_H) (a0 : Nat) (x1 : Int32) (rr : Int32) (gz : g_H) (hF : f7_advise g a0 x1 = some (rr, gz)) : Met l yX7_advise wsX7_advise ({ frames := 5, cells := 4, slots := 387, locals := 118 } : Room) (va_Pc [.ref a0, .int x1] (gC base D g)) (gQi base D rr gz) 4 387 (gA base) := by
  refine g_met (cc := cX7_advise) (maxL := 10) (ret := (some .int)) (lst := [(0, .ref a0), (1, .int x1)]) (by decide) rfl (Nat.le_of_ble_eq_true rfl) rfl ?_
  intro p e s m args below meth c ls hx hb hr hml hown hlocks hname hts hE hP hl
  have hown : s.vm.findClass RX7 = some m.cls := hown
  have hK := hE.1
  have hov := hE.2.2.2.2.2.2.2.1
  have hbz := hE.2.2.2.2.2.2.2.2.2.2.2.2
  have hS : va_S (gA base) s.heap s.heap [] := va_S.rf
  have hiX7 : ∀ w ∈ wsX70, w ∈ wsX7_advise := by decide +kernel
  have HL34 : ∀ (n34 : Nat), ∀ (g : g_H) (a0 : Nat) (x1 : Int32) (a2 : Nat) (x3 : Int32) (x4 : Int32) (x5 : Int32) (H : Heap) (locs : List Loc) (ls : Array Slot), f7_advise_34 n34 g a0 x1 a2 x3 x4 x5 = some (rr, gz) → gP base D s g H → va_S (gA base) s.heap H locs → lv_has ls 10 [(0, .ref a0), (1, .int x1), (2, .ref a2), (3, .int x3), (4, .int x4), (5, .int x5)] → W p l e ({ frames := 5, cells := 4, slots := 387, locals := 118 } : Room) s m args below meth c H locs 4 387 (MQ below (gQi base D rr gz) args s 4 387 (gA base)) (F0 m 34 ls []) := by
    intro n34
    induction n34 with
    | zero => intro g a0 x1 a2 x3 x4 x5 H locs ls hF hP hS hl; exact g_no hF
    | succ n34 ih34 =>
      have HB169 : ∀ (g : g_H) (a0 : Nat) (x1 : Int32) (a2 : Nat) (x3 : Int32) (x4 : Int32) (x5 : Int32) (H : Heap) (locs : List Loc) (ls : Array Slot), f7_advise_169 (f7_advise_34 n34) g a0 x1 a2 x3 x4 x5 = some (rr, gz) → gP base D s g H → va_S (gA base) s.heap H locs → lv_has ls 10 [(0, .ref a0), (1, .int x1), (2, .ref a2), (3, .int x3), (4, .int x4), (5, .int x5)] → W p l e ({ frames := 5, cells := 4, slots := 387, locals := 118 } : Room) s m args below meth c H locs 4 387 (MQ below (gQi base D rr gz) args s 4 387 (gA base)) (F0 m 169 ls []) := by
        intro g a0 x1 a2 x3 x4 x5 H locs ls hF hP hS hl
        unfold f7_advise_169 at hF
        refine lv_iinc (v := x5 + (1 : Int32)) (lv' := [(5, .int (x5 + (1 : Int32))), (0, .ref a0), (1, .int x1), (2, .ref a2), (3, .int x3), (4, .int x4)]) hx hb dX7_advise_169 hl (k := 5) rfl rfl (by decide) rfl (fun ls hl => ?_)
        refine lv_goto (tgt := 34) hx hb dX7_advise_172 (by decide) ?_
        exact ih34 _ _ _ _ _ _ _ _ _ _ hF hP hS (lv_sub hl [1, 2, 3, 4, 5, 0] rfl)
      have HB162 : ∀ (g : g_H) (a0 : Nat) (x1 : Int32) (a2 : Nat) (x5 : Int32) (x8 : Int32) (H : Heap) (locs : List Loc) (ls : Array Slot), f7_advise_162 (f7_advise_34 n34) g a0 x1 a2 x5 x8 = some (rr, gz) → gP base D s g H → va_S (gA base) s.heap H locs → lv_has ls 10 [(0, .ref a0), (1, .int x1), (2, .ref a2), (5, .int x5), (8, .int x8)] → W p l e ({ frames := 5, cells := 4, slots := 387, locals := 118 } : Room) s m args below meth c H locs 4 387 (MQ below (gQi base D rr gz) args s 4 387 (gA base)) (F0 m 162 ls []) := by
        intro g a0 x1 a2 x5 x8 H locs ls hF hP hS hl
        unfold f7_advise_162 at hF
        refine lv_iload hx hb dX7_advise_162 (lv_at hl 3 rfl) ?_
        refine lv_istore_n (lv' := [(3, .int x5), (0, .ref a0), (1, .int x1), (2, .ref a2), (5, .int x5), (8, .int x8)]) hx hb dX7_advise_164 rfl hl (by decide) rfl (fun ls hl => ?_)
        refine lv_iload hx hb dX7_advise_165 (lv_at hl 5 rfl) ?_
        refine lv_istore (lv' := [(4, .int x8), (3, .int x5), (0, .ref a0), (1, .int x1), (2, .ref a2), (5, .int x5), (8, .int x8)]) hx hb dX7_advise_167 hl (by decide) rfl (fun ls hl => ?_)
        exact HB169 _ _ _ _ _ _ _ _ _ _ hF hP hS (lv_sub hl [2, 3, 4, 1, 0, 5] rfl)
      have HB146 : ∀ (g : g_H) (a0 : Nat) (x1 : Int32) (a2 : Nat) (x3 : Int32) (x4 : Int32) (x5 : Int32) (x8 : Int32) (H : Heap) (locs : List Loc) (ls : Array Slot), f7_advise_146 (f7_advise_34 n34) g a0 x1 a2 x3 x4 x5 x8 = some (rr, gz) → gP base D s g H → va_S (gA base) s.heap H locs → lv_has ls 10 [(0, .ref a0), (1, .int x1), (2, .ref a2), (3, .int x3), (4, .int x4), (5, .int x5), (8, .int x8)] → W p l e ({ frames := 5, cells := 4, slots := 387, locals := 118 } : Room) s m args below meth c H locs 4 387 (MQ below (gQi base D rr gz) args s 4 387 (gA base)) (F0 m 146 ls []) := by
        intro g a0 x1 a2 x3 x4 x5 x8 H locs ls hF hP hS hl
        unfold f7_advise_146 at hF
        refine lv_iload hx hb dX7_advise_146 (lv_at hl 5 rfl) ?_
        refine lv_iconst (v := (-1)) hx hb dX7_advise_148 (by decide) ?_
        refine lv_icmp_eq (tgt := 162) hx hb dX7_advise_149 (by decide) (fun c28 => ?_) (fun c28 => ?_)
        · have hF := g_t c28 hF
          exact HB162 _ _ _ _ _ _ _ _ _ hF hP hS (lv_sub hl [0, 1, 2, 5, 6] rfl)
        · have hF := g_f c28 hF
          refine lv_iload hx hb dX7_advise_152 (lv_at hl 6 rfl) ?_
          refine lv_iload hx hb dX7_advise_154 (lv_at hl 4 rfl) ?_
          refine lv_icmp_gt (tgt := 162) hx hb dX7_advise_156 (by decide) (fun c29 => ?_) (fun c29 => ?_)
          · have hF := g_t c29 hF
            exact HB162 _ _ _ _ _ _ _ _ _ hF hP hS (lv_sub hl [0, 1, 2, 5, 6] rfl)
          · have hF := g_f c29 hF
            refine lv_goto (tgt := 169) hx hb dX7_advise_159 (by decide) ?_
            exact HB169 _ _ _ _ _ _ _ _ _ _ hF hP hS (lv_sub hl [0, 1, 2, 3, 4, 5] rfl)
      have HL103 : ∀ (n103 : Nat), ∀ (g : g_H) (a0 : Nat) (x1 : Int32) (a2 : Nat) (x3 : Int32) (x4 : Int32) (x5 : Int32) (x6 : Int32) (x7 : Int32) (x8 : Int32) (x9 : Int32) (H : Heap) (locs : List Loc) (ls : Array Slot), f7_advise_103 (f7_advise_34 n34) n103 g a0 x1 a2 x3 x4 x5 x6 x7 x8 x9 = some (rr, gz) → gP base D s g H → va_S (gA base) s.heap H locs → lv_has ls 10 [(0, .ref a0), (1, .int x1), (2, .ref a2), (3, .int x3), (4, .int x4), (5, .int x5), (6, .int x6), (7, .int x7), (8, .int x8), (9, .int x9)] → W p l e ({ frames := 5, cells := 4, slots := 387, locals := 118 } : Room) s m args below meth c H locs 4 387 (MQ below (gQi base D rr gz) args s 4 387 (gA base)) (F0 m 103 ls []) := by
        intro n103
        induction n103 with
        | zero => intro g a0 x1 a2 x3 x4 x5 x6 x7 x8 x9 H locs ls hF hP hS hl; exact g_no hF
        | succ n103 ih103 =>
          intro g a0 x1 a2 x3 x4 x5 x6 x7 x8 x9 H locs ls hF hP hS hl
          have hF : f7_advise_103b (f7_advise_34 n34) (f7_advise_103 (f7_advise_34 n34) n103) g a0 x1 a2 x3 x4 x5 x6 x7 x8 x9 = some (rr, gz) := hF
          unfold f7_advise_103b at hF
          refine lv_iload hx hb dX7_advise_103 (lv_at hl 9 rfl) ?_
          refine lv_iload_n hx hb dX7_advise_105 rfl (lv_at hl 1 rfl) ?_
          refine lv_icmp_ge (tgt := 124) hx hb dX7_advise_106 (by decide) (fun c22 => ?_) (fun c22 => ?_)
          · have hF := g_t c22 hF
            refine lv_aload_n hx hb dX7_advise_124 rfl (lv_at hl 0 rfl) ?_
            refine lv_aload_n hx hb dX7_advise_125 rfl (lv_at hl 2 rfl) ?_
            obtain ⟨h24, hF⟩ := g_if hF
            obtain ⟨g25, h23, hF⟩ := g_bind hF
            refine g_callv (va_runV (As := [.ref a2]) (rest := []) ⟨hx, hb, hml, hown, hts⟩ (k7_bringBack l D base g a0 a2 g25 h23) (cwV 1 hts gX7_advise_X7_bringBack rfl rfl rfl (by decide +kernel) ⟨Nat.le_of_ble_eq_true rfl, Nat.le_of_ble_eq_true rfl⟩) (gC.preV hE hP hS 7 rfl (by decide) h24 [.ref a2]) rfl rfl hl.1 rfl (lv_room (Nat.le_of_ble_eq_true rfl)) dX7_advise_126 ⟨(Nat.le_of_ble_eq_true rfl), (Nat.le_of_ble_eq_true rfl)⟩) hS (fun H locs hP hS => ?_)
            refine lv_iload hx hb dX7_advise_129 (lv_at hl 5 rfl) ?_
            refine lv_iconst (v := (-1)) hx hb dX7_advise_131 (by decide) ?_
            refine lv_icmp_eq (tgt := 146) hx hb dX7_advise_132 (by decide) (fun c27 => ?_) (fun c27 => ?_)
            · have hF := g_t c27 hF
              exact HB146 _ _ _ _ _ _ _ _ _ _ _ hF hP hS (lv_sub hl [0, 1, 2, 3, 4, 5, 8] rfl)
            · have hF := g_f c27 hF
              refine lv_aload_n hx hb dX7_advise_135 rfl (lv_at hl 0 rfl) ?_
              refine lv_iload hx hb dX7_advise_136 (lv_at hl 5 rfl) ?_
              refine lv_iload hx hb dX7_advise_138 (lv_at hl 6 rfl) ?_
              refine lv_iload hx hb dX7_advise_140 (lv_at hl 7 rfl) ?_
              obtain ⟨h31, hF⟩ := g_if hF
              obtain ⟨v33, g32, h30, hF⟩ := g_bind2 hF
              refine g_calli (va_runV (As := [.int x5, .int x6, .int x7]) (rest := []) ⟨hx, hb, hml, hown, hts⟩ (k7_setGate l D base g25 a0 x5 x6 x7 v33 g32 h30) (cwV 3 hts gX7_advise_X7_setGate rfl rfl rfl (by decide +kernel) ⟨Nat.le_of_ble_eq_true rfl, Nat.le_of_ble_eq_true rfl⟩) (gC.preV hE hP hS 7 rfl (by decide) h31 [.int x5, .int x6, .int x7]) rfl rfl hl.1 rfl (lv_room (Nat.le_of_ble_eq_true rfl)) dX7_advise_142 ⟨(Nat.le_of_ble_eq_true rfl), (Nat.le_of_ble_eq_true rfl)⟩) hS (fun H locs hP hS => ?_)
              refine lv_pop hx hb dX7_advise_145 rfl ?_
              exact HB146 _ _ _ _ _ _ _ _ _ _ _ hF hP hS (lv_sub hl [0, 1, 2, 3, 4, 5, 8] rfl)
          · have hF := g_f c22 hF
            refine lv_iload hx hb dX7_advise_109 (lv_at hl 8 rfl) ?_
            refine lv_aload_n hx hb dX7_advise_111 rfl (lv_at hl 0 rfl) ?_
            obtain ⟨h35, hF⟩ := g_if hF
            obtain ⟨v37, g36, h34, hF⟩ := g_bind2 hF
            refine g_calli (va_runV (As := []) (rest := [.int x8]) ⟨hx, hb, hml, hown, hts⟩ (k7_quarterOn l D base g a0 v37 g36 h34) (cwV 0 hts gX7_advise_X7_quarterOn rfl rfl rfl (by decide +kernel) ⟨Nat.le_of_ble_eq_true rfl, Nat.le_of_ble_eq_true rfl⟩) (gC.preV hE hP hS 7 rfl (by decide) h35 []) rfl rfl hl.1 rfl (lv_room (Nat.le_of_ble_eq_true rfl)) dX7_advise_112 ⟨(Nat.le_of_ble_eq_true rfl), (Nat.le_of_ble_eq_true rfl)⟩) hS (fun H locs hP hS => ?_)
            refine lv_iadd hx hb dX7_advise_115 ?_
            refine lv_istore (lv' := [(8, .int (x8 + v37)), (0, .ref a0), (1, .int x1), (2, .ref a2), (3, .int x3), (4, .int x4), (5, .int x5), (6, .int x6), (7, .int x7), (9, .int x9)]) hx hb dX7_advise_116 hl (by decide) rfl (fun ls hl => ?_)
            refine lv_iinc (v := x9 + (1 : Int32)) (lv' := [(9, .int (x9 + (1 : Int32))), (8, .int (x8 + v37)), (0, .ref a0), (1, .int x1), (2, .ref a2), (3, .int x3), (4, .int x4), (5, .int x5), (6, .int x6), (7, .int x7)]) hx hb dX7_advise_118 hl (k := 9) rfl rfl (by decide) rfl (fun ls hl => ?_)
            refine lv_goto (tgt := 103) hx hb dX7_advise_121 (by decide) ?_
            exact ih103 _ _ _ _ _ _ _ _ _ _ _ _ _ _ hF hP hS (lv_sub hl [2, 3, 4, 5, 6, 7, 8, 9, 1, 0] rfl)
      have HB97 : ∀ (g : g_H) (a0 : Nat) (x1 : Int32) (a2 : Nat) (x3 : Int32) (x4 : Int32) (x5 : Int32) (x6 : Int32) (x7 : Int32) (H : Heap) (locs : List Loc) (ls : Array Slot), f7_advise_97 (f7_advise_34 n34) g a0 x1 a2 x3 x4 x5 x6 x7 = some (rr, gz) → gP base D s g H → va_S (gA base) s.heap H locs → lv_has ls 10 [(0, .ref a0), (1, .int x1), (2, .ref a2), (3, .int x3), (4, .int x4), (5, .int x5), (6, .int x6), (7, .int x7)] → W p l e ({ frames := 5, cells := 4, slots := 387, locals := 118 } : Room) s m args below meth c H locs 4 387 (MQ below (gQi base D rr gz) args s 4 387 (gA base)) (F0 m 97 ls []) := by
        intro g a0 x1 a2 x3 x4 x5 x6 x7 H locs ls hF hP hS hl
        unfold f7_advise_97 at hF
        refine lv_iconst (v := 0) hx hb dX7_advise_97 (by decide) ?_
        refine lv_istore (lv' := [(8, .int ((0 : Int32))), (0, .ref a0), (1, .int x1), (2, .ref a2), (3, .int x3), (4, .int x4), (5, .int x5), (6, .int x6), (7, .int x7)]) hx hb dX7_advise_98 hl (by decide) rfl (fun ls hl => ?_)
        refine lv_iconst (v := 0) hx hb dX7_advise_100 (by decide) ?_
        refine lv_istore (lv' := [(9, .int ((0 : Int32))), (8, .int ((0 : Int32))), (0, .ref a0), (1, .int x1), (2, .ref a2), (3, .int x3), (4, .int x4), (5, .int x5), (6, .int x6), (7, .int x7)]) hx hb dX7_advise_101 hl (by decide) rfl (fun ls hl => ?_)
        exact HL103 300 _ _ _ _ _ _ _ _ _ _ _ _ _ _ hF hP hS (lv_sub hl [2, 3, 4, 5, 6, 7, 8, 9, 1, 0] rfl)
      have HB79 : ∀ (g : g_H) (a0 : Nat) (x1 : Int32) (a2 : Nat) (x3 : Int32) (x4 : Int32) (x5 : Int32) (x6 : Int32) (s0 : Int32) (H : Heap) (locs : List Loc) (ls : Array Slot), f7_advise_79 (f7_advise_34 n34) g a0 x1 a2 x3 x4 x5 x6 s0 = some (rr, gz) → gP base D s g H → va_S (gA base) s.heap H locs → lv_has ls 10 [(0, .ref a0), (1, .int x1), (2, .ref a2), (3, .int x3), (4, .int x4), (5, .int x5), (6, .int x6)] → W p l e ({ frames := 5, cells := 4, slots := 387, locals := 118 } : Room) s m args below meth c H locs 4 387 (MQ below (gQi base D rr gz) args s 4 387 (gA base)) (F0 m 79 ls [.int s0]) := by
        intro g a0 x1 a2 x3 x4 x5 x6 s0 H locs ls hF hP hS hl
        unfold f7_advise_79 at hF
        refine lv_istore (lv' := [(7, .int s0), (0, .ref a0), (1, .int x1), (2, .ref a2), (3, .int x3), (4, .int x4), (5, .int x5), (6, .int x6)]) hx hb dX7_advise_79 hl (by decide) rfl (fun ls hl => ?_)
        refine lv_iload hx hb dX7_advise_81 (lv_at hl 6 rfl) ?_
        refine lv_iconst (v := (-1)) hx hb dX7_advise_83 (by decide) ?_
        refine lv_icmp_eq (tgt := 97) hx hb dX7_advise_84 (by decide) (fun c21 => ?_) (fun c21 => ?_)
        · have hF := g_t c21 hF
          exact HB97 _ _ _ _ _ _ _ _ _ _ _ _ hF hP hS (lv_sub hl [1, 2, 3, 4, 5, 6, 7, 0] rfl)
        · have hF := g_f c21 hF
          refine lv_aload_n hx hb dX7_advise_87 rfl (lv_at hl 1 rfl) ?_
          refine lv_iload hx hb dX7_advise_88 (lv_at hl 6 rfl) ?_
          refine lv_iconst (v := 0) hx hb dX7_advise_90 (by decide) ?_
          refine lv_bipush (v := 24) hx hb dX7_advise_91 (by decide) ?_
          obtain ⟨h39, hF⟩ := g_if hF
          obtain ⟨v41, g40, h38, hF⟩ := g_bind2 hF
          refine g_calli (va_runV (As := [.int x5, .int ((0 : Int32)), .int ((24 : Int32))]) (rest := []) ⟨hx, hb, hml, hown, hts⟩ (k7_setGate l D base g a0 x5 ((0 : Int32)) ((24 : Int32)) v41 g40 h38) (cwV 3 hts gX7_advise_X7_setGate rfl rfl rfl (by decide +kernel) ⟨Nat.le_of_ble_eq_true rfl, Nat.le_of_ble_eq_true rfl⟩) (gC.preV hE hP hS 7 rfl (by decide) h39 [.int x5, .int ((0 : Int32)), .int ((24 : Int32))]) rfl rfl hl.1 rfl (lv_room (Nat.le_of_ble_eq_true rfl)) dX7_advise_93 ⟨(Nat.le_of_ble_eq_true rfl), (Nat.le_of_ble_eq_true rfl)⟩) hS (fun H locs hP hS => ?_)
          refine lv_pop hx hb dX7_advise_96 rfl ?_
          exact HB97 _ _ _ _ _ _ _ _ _ _ _ _ hF hP hS (lv_sub hl [1, 2, 3, 4, 5, 6, 7, 0] rfl)
      have HB60 : ∀ (g : g_H) (a0 : Nat) (x1 : Int32) (a2 : Nat) (x3 : Int32) (x4 : Int32) (x5 : Int32) (s0 : Int32) (H : Heap) (locs : List Loc) (ls : Array Slot), f7_advise_60 (f7_advise_34 n34) g a0 x1 a2 x3 x4 x5 s0 = some (rr, gz) → gP base D s g H → va_S (gA base) s.heap H locs → lv_has ls 10 [(0, .ref a0), (1, .int x1), (2, .ref a2), (3, .int x3), (4, .int x4), (5, .int x5)] → W p l e ({ frames := 5, cells := 4, slots := 387, locals := 118 } : Room) s m args below meth c H locs 4 387 (MQ below (gQi base D rr gz) args s 4 387 (gA base)) (F0 m 60 ls [.int s0]) := by
        intro g a0 x1 a2 x3 x4 x5 s0 H locs ls hF hP hS hl
        unfold f7_advise_60 at hF
        refine lv_istore (lv' := [(6, .int s0), (0, .ref a0), (1, .int x1), (2, .ref a2), (3, .int x3), (4, .int x4), (5, .int x5)]) hx hb dX7_advise_60 hl (by decide) rfl (fun ls hl => ?_)
        refine lv_iload hx hb dX7_advise_62 (lv_at hl 6 rfl) ?_
        refine lv_iconst (v := (-1)) hx hb dX7_advise_64 (by decide) ?_
        refine lv_icmp_ne (tgt := 72) hx hb dX7_advise_65 (by decide) (fun c16 => ?_) (fun c16 => ?_)
        · have hF := g_f c16 hF
          refine lv_aload_n hx hb dX7_advise_72 rfl (lv_at hl 1 rfl) ?_
          refine lv_iload hx hb dX7_advise_73 (lv_at hl 6 rfl) ?_
          refine lv_iconst (v := 4) hx hb dX7_advise_75 (by decide) ?_
          obtain ⟨h18, hF⟩ := g_if hF
          obtain ⟨v20, g19, h17, hF⟩ := g_bind2 hF
          refine g_calli (va_runV (As := [.int x5, .int ((4 : Int32))]) (rest := []) ⟨hx, hb, hml, hown, hts⟩ (k7_ro l D base g a0 x5 ((4 : Int32)) v20 g19 h17) (cwV 2 hts gX7_advise_X7_ro rfl rfl rfl (by decide +kernel) ⟨Nat.le_of_ble_eq_true rfl, Nat.le_of_ble_eq_true rfl⟩) (gC.preV hE hP hS 7 rfl (by decide) h18 [.int x5, .int ((4 : Int32))]) rfl rfl hl.1 rfl (lv_room (Nat.le_of_ble_eq_true rfl)) dX7_advise_76 ⟨(Nat.le_of_ble_eq_true rfl), (Nat.le_of_ble_eq_true rfl)⟩) hS (fun H locs hP hS => ?_)
          exact HB79 _ _ _ _ _ _ _ _ _ _ _ _ hF hP hS (lv_sub hl [1, 2, 3, 4, 5, 6, 0] rfl)
        · have hF := g_t c16 hF
          refine lv_iconst (v := 0) hx hb dX7_advise_68 (by decide) ?_
          refine lv_goto (tgt := 79) hx hb dX7_advise_69 (by decide) ?_
          exact HB79 _ _ _ _ _ _ _ _ _ _ _ _ hF hP hS (lv_sub hl [1, 2, 3, 4, 5, 6, 0] rfl)
      intro g a0 x1 a2 x3 x4 x5 H locs ls hF hP hS hl
      have hF : f7_advise_34b (f7_advise_34 n34) g a0 x1 a2 x3 x4 x5 = some (rr, gz) := hF
      unfold f7_advise_34b at hF
      refine lv_iload hx hb dX7_advise_34 (lv_at hl 5 rfl) ?_
      refine lv_aload_n hx hb dX7_advise_36 rfl (lv_at hl 0 rfl) ?_
      obtain ⟨h10, hF⟩ := g_if hF
      refine g_get hx hb hts hiX7 hown hK hP 7 rfl (by decide) h10 3 (by decide) (hts (.fieldLink RX7 46 "CourierBeesModel" "lanes" "I") (by decide +kernel)) (fun _ h9 => h9) (gFv_i (Or.inl rfl)) dX7_advise_37 ?_
      refine lv_icmp_ge (tgt := 175) hx hb dX7_advise_40 (by decide) (fun c11 => ?_) (fun c11 => ?_)
      · have hF := g_t c11 hF
        refine lv_iload_n hx hb dX7_advise_175 rfl (lv_at hl 3 rfl) ?_
        exact g_retI hx hb hr hlocks hF hP hS (Nat.le_of_ble_eq_true rfl) (Nat.le_of_ble_eq_true rfl) dX7_advise_176
      · have hF := g_f c11 hF
        refine lv_iload hx hb dX7_advise_43 (lv_at hl 5 rfl) ?_
        refine lv_iconst (v := (-1)) hx hb dX7_advise_45 (by decide) ?_
        refine lv_icmp_ne (tgt := 53) hx hb dX7_advise_46 (by decide) (fun c12 => ?_) (fun c12 => ?_)
        · have hF := g_f c12 hF
          refine lv_aload_n hx hb dX7_advise_53 rfl (lv_at hl 0 rfl) ?_
          refine lv_iload hx hb dX7_advise_54 (lv_at hl 5 rfl) ?_
          refine lv_iconst (v := 3) hx hb dX7_advise_56 (by decide) ?_
          obtain ⟨v15, g14, h13, hF⟩ := g_bind2 hF
          refine g_calli (va_runV (As := [.int x5, .int ((3 : Int32))]) (rest := []) ⟨hx, hb, hml, hown, hts⟩ (k7_ro l D base g a0 x5 ((3 : Int32)) v15 g14 h13) (cwV 2 hts gX7_advise_X7_ro rfl rfl rfl (by decide +kernel) ⟨Nat.le_of_ble_eq_true rfl, Nat.le_of_ble_eq_true rfl⟩) (gC.preV hE hP hS 7 rfl (by decide) h10 [.int x5, .int ((3 : Int32))]) rfl rfl hl.1 rfl (lv_room (Nat.le_of_ble_eq_true rfl)) dX7_advise_57 ⟨(Nat.le_of_ble_eq_true rfl), (Nat.le_of_ble_eq_true rfl)⟩) hS (fun H locs hP hS => ?_)
          exact HB60 _ _ _ _ _ _ _ _ _ _ _ hF hP hS (lv_sub hl [0, 1, 2, 3, 4, 5] rfl)
        · have hF := g_t c12 hF
          refine lv_iconst (v := 0) hx hb dX7_advise_49 (by decide) ?_
          refine lv_goto (tgt := 60) hx hb dX7_advise_50 (by decide) ?_
          exact HB60 _ _ _ _ _ _ _ _ _ _ _ hF hP hS (lv_sub hl [0, 1, 2, 3, 4, 5] rfl)
  unfold f7_advise at hF
  refine lv_aload_n hx hb dX7_advise_0 rfl (lv_at hl 0 rfl) ?_
  refine lv_iconst (v := 0) hx hb dX7_advise_1 (by decide) ?_
  obtain ⟨h1, hF⟩ := g_if hF
  refine g_puti hx hb hts hiX7 tyX7 tyX7_ok nmX7 hown hK hP hS 7 rfl (by decide) h1 0 (by decide) (hts (.fieldLink RX7 35 "CourierBeesModel" "thrown" "I") (by decide +kernel)) (fun _ h9 => h9) (Or.inl rfl) (Or.inl rfl) rfl rfl dX7_advise_2 (fun H locs hP hS => ?_)
  refine lv_iload_n hx hb dX7_advise_5 rfl (lv_at hl 1 rfl) ?_
  refine lv_iconst (v := 1) hx hb dX7_advise_6 (by decide) ?_
  refine lv_bipush (v := 120) hx hb dX7_advise_7 (by decide) ?_
  obtain ⟨v4, g3, h2, hF⟩ := g_bind2 hF
  refine g_calli (va_runS (As := [.int x1, .int ((1 : Int32)), .int ((120 : Int32))]) (rest := []) ⟨hx, hb, hml, hown, hts⟩ (k7_isIn l D base (gPI g a0 0 ((0 : Int32))) x1 ((1 : Int32)) ((120 : Int32)) v4 g3 h2) (va_cwS 3 hts gX7_advise_X7_isIn rfl rfl rfl (by decide +kernel) ⟨Nat.le_of_ble_eq_true rfl, Nat.le_of_ble_eq_true rfl⟩) (gC.preS hE hP hS [.int x1, .int ((1 : Int32)), .int ((120 : Int32))]) rfl rfl hl.1 rfl (lv_room (Nat.le_of_ble_eq_true rfl)) dX7_advise_9 ⟨(Nat.le_of_ble_eq_true rfl), (Nat.le_of_ble_eq_true rfl)⟩) hS (fun H locs hP hS => ?_)
  refine lv_if_ne (tgt := 21) hx hb dX7_advise_12 (by decide) (fun c5 => ?_) (fun c5 => ?_)
  · have hF := g_f c5 hF
    refine lv_aload_n hx hb dX7_advise_21 rfl (lv_at hl 0 rfl) ?_
    obtain ⟨h7, hF⟩ := g_if hF
    obtain ⟨v9, g8, h6, hF⟩ := g_bind2 hF
    refine g_callr (va_runV (As := []) (rest := []) ⟨hx, hb, hml, hown, hts⟩ (k7_kept l D base g3 a0 v9 g8 h6) (cwV 0 hts gX7_advise_X7_kept rfl rfl rfl (by decide +kernel) ⟨Nat.le_of_ble_eq_true rfl, Nat.le_of_ble_eq_true rfl⟩) (gC.preV hE hP hS 7 rfl (by decide) h7 []) rfl rfl hl.1 rfl (lv_room (Nat.le_of_ble_eq_true rfl)) dX7_advise_22 ⟨(Nat.le_of_ble_eq_true rfl), (Nat.le_of_ble_eq_true rfl)⟩) hS (fun H locs hP hS => ?_)
    refine lv_astore_n (lv' := [(2, .ref v9), (0, .ref a0), (1, .int x1)]) hx hb dX7_advise_25 rfl hl (by decide) rfl (fun ls hl => ?_)
    refine lv_iconst (v := (-1)) hx hb dX7_advise_26 (by decide) ?_
    refine lv_istore_n (lv' := [(3, .int ((-1 : Int32))), (2, .ref v9), (0, .ref a0), (1, .int x1)]) hx hb dX7_advise_27 rfl hl (by decide) rfl (fun ls hl => ?_)
    refine lv_iconst (v := 0) hx hb dX7_advise_28 (by decide) ?_
    refine lv_istore (lv' := [(4, .int ((0 : Int32))), (3, .int ((-1 : Int32))), (2, .ref v9), (0, .ref a0), (1, .int x1)]) hx hb dX7_advise_29 hl (by decide) rfl (fun ls hl => ?_)
    refine lv_iconst (v := (-1)) hx hb dX7_advise_31 (by decide) ?_
    refine lv_istore (lv' := [(5, .int ((-1 : Int32))), (4, .int ((0 : Int32))), (3, .int ((-1 : Int32))), (2, .ref v9), (0, .ref a0), (1, .int x1)]) hx hb dX7_advise_32 hl (by decide) rfl (fun ls hl => ?_)
    exact HL34 300 _ _ _ _ _ _ _ _ _ _ hF hP hS (lv_sub hl [4, 5, 3, 2, 1, 0] rfl)
  · have hF := g_t c5 hF
    refine lv_aload_n hx hb dX7_advise_15 rfl (lv_at hl 0 rfl) ?_
    refine lv_iconst (v := 1) hx hb dX7_advise_16 (by decide) ?_
    obtain ⟨h43, hF⟩ := g_if hF
    obtain ⟨v45, g44, h42, hF⟩ := g_bind2 hF
    refine g_calli (va_runV (As := [.int ((1 : Int32))]) (rest := []) ⟨hx, hb, hml, hown, hts⟩ (k7_fail l D base g3 a0 ((1 : Int32)) v45 g44 h42) (cwV 1 hts gX7_advise_X7_fail rfl rfl rfl (by decide +kernel) ⟨Nat.le_of_ble_eq_true rfl, Nat.le_of_ble_eq_true rfl⟩) (gC.preV hE hP hS 7 rfl (by decide) h43 [.int ((1 : Int32))]) rfl rfl hl.1 rfl (lv_room (Nat.le_of_ble_eq_true rfl)) dX7_advise_17 ⟨(Nat.le_of_ble_eq_true rfl), (Nat.le_of_ble_eq_true rfl)⟩) hS (fun H locs hP hS => ?_)
    exact g_retI hx hb hr hlocks hF hP hS (Nat.le_of_ble_eq_true rfl) (Nat.le_of_ble_eq_true rfl) dX7_advise_20
set_option maxHeartbeats 4000000 in
set_option maxRecDepth 100000 in
theorem k7_trusted (l : Launch) (D : va_G) (base : Nat) (g : g_H) (a0 : Nat) (x1 : Int32) (rr : Int32) (gz : g_H) (hF : f7_trusted g a0 x1 = some (rr, gz)) : Met l yX7_trusted wsX7_trusted ({ frames := 3, cells := 0, slots := 0, locals := 71 } : Room) (va_Pc [.ref a0, .int x1] (gC base D g)) (gQi base D rr gz) 0 0 (gA base) := by
  refine g_met (cc := cX7_trusted) (maxL := 6) (ret := (some .int)) (lst := [(0, .ref a0), (1, .int x1)]) (by decide) rfl (Nat.le_of_ble_eq_true rfl) rfl ?_
  intro p e s m args below meth c ls hx hb hr hml hown hlocks hname hts hE hP hl
  have hown : s.vm.findClass RX7 = some m.cls := hown
  have hK := hE.1
  have hov := hE.2.2.2.2.2.2.2.1
  have hbz := hE.2.2.2.2.2.2.2.2.2.2.2.2
  have hS : va_S (gA base) s.heap s.heap [] := va_S.rf
  have hiX7 : ∀ w ∈ wsX70, w ∈ wsX7_trusted := by decide +kernel
  have HL23 : ∀ (n23 : Nat), ∀ (g : g_H) (a0 : Nat) (x1 : Int32) (x2 : Int32) (x3 : Int32) (H : Heap) (locs : List Loc) (ls : Array Slot), f7_trusted_23 n23 g a0 x1 x2 x3 = some (rr, gz) → gP base D s g H → va_S (gA base) s.heap H locs → lv_has ls 6 [(0, .ref a0), (1, .int x1), (2, .int x2), (3, .int x3)] → W p l e ({ frames := 3, cells := 0, slots := 0, locals := 71 } : Room) s m args below meth c H locs 0 0 (MQ below (gQi base D rr gz) args s 0 0 (gA base)) (F0 m 23 ls []) := by
    intro n23
    induction n23 with
    | zero => intro g a0 x1 x2 x3 H locs ls hF hP hS hl; exact g_no hF
    | succ n23 ih23 =>
      have HB105 : ∀ (g : g_H) (a0 : Nat) (x1 : Int32) (x2 : Int32) (x3 : Int32) (H : Heap) (locs : List Loc) (ls : Array Slot), f7_trusted_105 (f7_trusted_23 n23) g a0 x1 x2 x3 = some (rr, gz) → gP base D s g H → va_S (gA base) s.heap H locs → lv_has ls 6 [(0, .ref a0), (1, .int x1), (2, .int x2), (3, .int x3)] → W p l e ({ frames := 3, cells := 0, slots := 0, locals := 71 } : Room) s m args below meth c H locs 0 0 (MQ below (gQi base D rr gz) args s 0 0 (gA base)) (F0 m 105 ls []) := by
        intro g a0 x1 x2 x3 H locs ls hF hP hS hl
        unfold f7_trusted_105 at hF
        refine lv_iinc (v := x3 + (1 : Int32)) (lv' := [(3, .int (x3 + (1 : Int32))), (0, .ref a0), (1, .int x1), (2, .int x2)]) hx hb dX7_trusted_105 hl (k := 3) rfl rfl (by decide) rfl (fun ls hl => ?_)
        refine lv_goto (tgt := 23) hx hb dX7_trusted_108 (by decide) ?_
        exact ih23 _ _ _ _ _ _ _ _ hF hP hS (lv_sub hl [1, 2, 3, 0] rfl)
      have HB98 : ∀ (g : g_H) (a0 : Nat) (x1 : Int32) (x2 : Int32) (x3 : Int32) (x5 : Int32) (H : Heap) (locs : List Loc) (ls : Array Slot), f7_trusted_98 (f7_trusted_23 n23) g a0 x1 x2 x3 x5 = some (rr, gz) → gP base D s g H → va_S (gA base) s.heap H locs → lv_has ls 6 [(0, .ref a0), (1, .int x1), (2, .int x2), (3, .int x3), (5, .int x5)] → W p l e ({ frames := 3, cells := 0, slots := 0, locals := 71 } : Room) s m args below meth c H locs 0 0 (MQ below (gQi base D rr gz) args s 0 0 (gA base)) (F0 m 98 ls []) := by
        intro g a0 x1 x2 x3 x5 H locs ls hF hP hS hl
        unfold f7_trusted_98 at hF
        refine lv_iload hx hb dX7_trusted_98 (lv_at hl 4 rfl) ?_
        refine lv_if_ge (tgt := 105) hx hb dX7_trusted_100 (by decide) (fun c26 => ?_) (fun c26 => ?_)
        · have hF := g_t c26 hF
          exact HB105 _ _ _ _ _ _ _ _ hF hP hS (lv_sub hl [0, 1, 2, 3] rfl)
        · have hF := g_f c26 hF
          refine lv_iload_n hx hb dX7_trusted_103 rfl (lv_at hl 3 rfl) ?_
          refine lv_istore_n (lv' := [(2, .int x3), (0, .ref a0), (1, .int x1), (3, .int x3), (5, .int x5)]) hx hb dX7_trusted_104 rfl hl (by decide) rfl (fun ls hl => ?_)
          exact HB105 _ _ _ _ _ _ _ _ hF hP hS (lv_sub hl [1, 2, 0, 3] rfl)
      have HB76 : ∀ (g : g_H) (a0 : Nat) (x1 : Int32) (x2 : Int32) (x3 : Int32) (s0 : Int32) (H : Heap) (locs : List Loc) (ls : Array Slot), f7_trusted_76 (f7_trusted_23 n23) g a0 x1 x2 x3 s0 = some (rr, gz) → gP base D s g H → va_S (gA base) s.heap H locs → lv_has ls 6 [(0, .ref a0), (1, .int x1), (2, .int x2), (3, .int x3)] → W p l e ({ frames := 3, cells := 0, slots := 0, locals := 71 } : Room) s m args below meth c H locs 0 0 (MQ below (gQi base D rr gz) args s 0 0 (gA base)) (F0 m 76 ls [.int s0]) := by
        intro g a0 x1 x2 x3 s0 H locs ls hF hP hS hl
        unfold f7_trusted_76 at hF
        refine lv_istore (lv' := [(5, .int s0), (0, .ref a0), (1, .int x1), (2, .int x2), (3, .int x3)]) hx hb dX7_trusted_76 hl (by decide) rfl (fun ls hl => ?_)
        refine lv_iload hx hb dX7_trusted_78 (lv_at hl 0 rfl) ?_
        refine lv_if_ne (tgt := 98) hx hb dX7_trusted_80 (by decide) (fun c25 => ?_) (fun c25 => ?_)
        · have hF := g_f c25 hF
          exact HB98 _ _ _ _ _ _ _ _ _ hF hP hS (lv_sub hl [1, 2, 3, 4, 0] rfl)
        · have hF := g_t c25 hF
          refine lv_aload_n hx hb dX7_trusted_83 rfl (lv_at hl 1 rfl) ?_
          refine lv_iload_n hx hb dX7_trusted_84 rfl (lv_at hl 3 rfl) ?_
          refine lv_iconst (v := 3) hx hb dX7_trusted_85 (by decide) ?_
          obtain ⟨h28, hF⟩ := g_if hF
          obtain ⟨v30, g29, h27, hF⟩ := g_bind2 hF
          refine g_calli (va_runV (As := [.int x2, .int ((3 : Int32))]) (rest := []) ⟨hx, hb, hml, hown, hts⟩ (k7_be l D base g a0 x2 ((3 : Int32)) v30 g29 h27) (cwV 2 hts gX7_trusted_X7_be rfl rfl rfl (by decide +kernel) ⟨Nat.le_of_ble_eq_true rfl, Nat.le_of_ble_eq_true rfl⟩) (gC.preV hE hP hS 7 rfl (by decide) h28 [.int x2, .int ((3 : Int32))]) rfl rfl hl.1 rfl (lv_room (Nat.le_of_ble_eq_true rfl)) dX7_trusted_86 ⟨(Nat.le_of_ble_eq_true rfl), (Nat.le_of_ble_eq_true rfl)⟩) hS (fun H locs hP hS => ?_)
          refine lv_aload_n hx hb dX7_trusted_89 rfl (lv_at hl 1 rfl) ?_
          refine lv_iload_n hx hb dX7_trusted_90 rfl (lv_at hl 4 rfl) ?_
          refine lv_iconst (v := 3) hx hb dX7_trusted_91 (by decide) ?_
          obtain ⟨h32, hF⟩ := g_if hF
          obtain ⟨v34, g33, h31, hF⟩ := g_bind2 hF
          refine g_calli (va_runV (As := [.int x3, .int ((3 : Int32))]) (rest := [.int v30]) ⟨hx, hb, hml, hown, hts⟩ (k7_be l D base g29 a0 x3 ((3 : Int32)) v34 g33 h31) (cwV 2 hts gX7_trusted_X7_be rfl rfl rfl (by decide +kernel) ⟨Nat.le_of_ble_eq_true rfl, Nat.le_of_ble_eq_true rfl⟩) (gC.preV hE hP hS 7 rfl (by decide) h32 [.int x3, .int ((3 : Int32))]) rfl rfl hl.1 rfl (lv_room (Nat.le_of_ble_eq_true rfl)) dX7_trusted_92 ⟨(Nat.le_of_ble_eq_true rfl), (Nat.le_of_ble_eq_true rfl)⟩) hS (fun H locs hP hS => ?_)
          refine lv_isub hx hb dX7_trusted_95 ?_
          refine lv_istore (lv' := [(5, .int (v30 - v34)), (0, .ref a0), (1, .int x1), (2, .int x2), (3, .int x3)]) hx hb dX7_trusted_96 hl (by decide) rfl (fun ls hl => ?_)
          exact HB98 _ _ _ _ _ _ _ _ _ hF hP hS (lv_sub hl [1, 2, 3, 4, 0] rfl)
      intro g a0 x1 x2 x3 H locs ls hF hP hS hl
      have hF : f7_trusted_23b (f7_trusted_23 n23) g a0 x1 x2 x3 = some (rr, gz) := hF
      unfold f7_trusted_23b at hF
      refine lv_iload_n hx hb dX7_trusted_23 rfl (lv_at hl 3 rfl) ?_
      refine lv_aload_n hx hb dX7_trusted_24 rfl (lv_at hl 0 rfl) ?_
      obtain ⟨h6, hF⟩ := g_if hF
      refine g_get hx hb hts hiX7 hown hK hP 7 rfl (by decide) h6 6 (by decide) (hts (.fieldLink RX7 49 "CourierBeesModel" "bees" "I") (by decide +kernel)) (fun _ h9 => h9) (gFv_i (Or.inl rfl)) dX7_trusted_25 ?_
      refine lv_icmp_ge (tgt := 111) hx hb dX7_trusted_28 (by decide) (fun c7 => ?_) (fun c7 => ?_)
      · have hF := g_t c7 hF
        refine lv_iload_n hx hb dX7_trusted_111 rfl (lv_at hl 2 rfl) ?_
        exact g_retI hx hb hr hlocks hF hP hS (Nat.le_of_ble_eq_true rfl) (Nat.le_of_ble_eq_true rfl) dX7_trusted_112
      · have hF := g_f c7 hF
        refine lv_aload_n hx hb dX7_trusted_31 rfl (lv_at hl 0 rfl) ?_
        refine lv_iload_n hx hb dX7_trusted_32 rfl (lv_at hl 3 rfl) ?_
        refine lv_iload_n hx hb dX7_trusted_33 rfl (lv_at hl 1 rfl) ?_
        obtain ⟨v10, g9, h8, hF⟩ := g_bind2 hF
        refine g_calli (va_runV (As := [.int x3, .int x1]) (rest := []) ⟨hx, hb, hml, hown, hts⟩ (k7_targetOf l D base g a0 x3 x1 v10 g9 h8) (cwV 2 hts gX7_trusted_X7_targetOf rfl rfl rfl (by decide +kernel) ⟨Nat.le_of_ble_eq_true rfl, Nat.le_of_ble_eq_true rfl⟩) (gC.preV hE hP hS 7 rfl (by decide) h6 [.int x3, .int x1]) rfl rfl hl.1 rfl (lv_room (Nat.le_of_ble_eq_true rfl)) dX7_trusted_34 ⟨(Nat.le_of_ble_eq_true rfl), (Nat.le_of_ble_eq_true rfl)⟩) hS (fun H locs hP hS => ?_)
        refine lv_istore (lv' := [(4, .int v10), (0, .ref a0), (1, .int x1), (2, .int x2), (3, .int x3)]) hx hb dX7_trusted_37 hl (by decide) rfl (fun ls hl => ?_)
        refine lv_iload hx hb dX7_trusted_39 (lv_at hl 0 rfl) ?_
        refine lv_iconst (v := (-1)) hx hb dX7_trusted_41 (by decide) ?_
        refine lv_icmp_ne (tgt := 48) hx hb dX7_trusted_42 (by decide) (fun c11 => ?_) (fun c11 => ?_)
        · have hF := g_f c11 hF
          refine lv_iload_n hx hb dX7_trusted_48 rfl (lv_at hl 3 rfl) ?_
          refine lv_iconst (v := (-1)) hx hb dX7_trusted_49 (by decide) ?_
          refine lv_icmp_ne (tgt := 57) hx hb dX7_trusted_50 (by decide) (fun c12 => ?_) (fun c12 => ?_)
          · have hF := g_f c12 hF
            refine lv_aload_n hx hb dX7_trusted_57 rfl (lv_at hl 1 rfl) ?_
            refine lv_iload hx hb dX7_trusted_58 (lv_at hl 0 rfl) ?_
            refine lv_iload_n hx hb dX7_trusted_60 rfl (lv_at hl 2 rfl) ?_
            obtain ⟨h14, hF⟩ := g_if hF
            obtain ⟨v16, g15, h13, hF⟩ := g_bind2 hF
            refine g_calli (va_runV (As := [.int v10, .int x1]) (rest := []) ⟨hx, hb, hml, hown, hts⟩ (k7_away l D base g9 a0 v10 x1 v16 g15 h13) (cwV 2 hts gX7_trusted_X7_away rfl rfl rfl (by decide +kernel) ⟨Nat.le_of_ble_eq_true rfl, Nat.le_of_ble_eq_true rfl⟩) (gC.preV hE hP hS 7 rfl (by decide) h14 [.int v10, .int x1]) rfl rfl hl.1 rfl (lv_room (Nat.le_of_ble_eq_true rfl)) dX7_trusted_61 ⟨(Nat.le_of_ble_eq_true rfl), (Nat.le_of_ble_eq_true rfl)⟩) hS (fun H locs hP hS => ?_)
            refine lv_aload_n hx hb dX7_trusted_64 rfl (lv_at hl 1 rfl) ?_
            refine lv_aload_n hx hb dX7_trusted_65 rfl (lv_at hl 1 rfl) ?_
            refine lv_iload_n hx hb dX7_trusted_66 rfl (lv_at hl 3 rfl) ?_
            refine lv_iload_n hx hb dX7_trusted_67 rfl (lv_at hl 2 rfl) ?_
            obtain ⟨h18, hF⟩ := g_if hF
            obtain ⟨v20, g19, h17, hF⟩ := g_bind2 hF
            refine g_calli (va_runV (As := [.int x2, .int x1]) (rest := [.ref a0, .int v16]) ⟨hx, hb, hml, hown, hts⟩ (k7_targetOf l D base g15 a0 x2 x1 v20 g19 h17) (cwV 2 hts gX7_trusted_X7_targetOf rfl rfl rfl (by decide +kernel) ⟨Nat.le_of_ble_eq_true rfl, Nat.le_of_ble_eq_true rfl⟩) (gC.preV hE hP hS 7 rfl (by decide) h18 [.int x2, .int x1]) rfl rfl hl.1 rfl (lv_room (Nat.le_of_ble_eq_true rfl)) dX7_trusted_68 ⟨(Nat.le_of_ble_eq_true rfl), (Nat.le_of_ble_eq_true rfl)⟩) hS (fun H locs hP hS => ?_)
            refine lv_iload_n hx hb dX7_trusted_71 rfl (lv_at hl 2 rfl) ?_
            obtain ⟨h22, hF⟩ := g_if hF
            obtain ⟨v24, g23, h21, hF⟩ := g_bind2 hF
            refine g_calli (va_runV (As := [.int v20, .int x1]) (rest := [.int v16]) ⟨hx, hb, hml, hown, hts⟩ (k7_away l D base g19 a0 v20 x1 v24 g23 h21) (cwV 2 hts gX7_trusted_X7_away rfl rfl rfl (by decide +kernel) ⟨Nat.le_of_ble_eq_true rfl, Nat.le_of_ble_eq_true rfl⟩) (gC.preV hE hP hS 7 rfl (by decide) h22 [.int v20, .int x1]) rfl rfl hl.1 rfl (lv_room (Nat.le_of_ble_eq_true rfl)) dX7_trusted_72 ⟨(Nat.le_of_ble_eq_true rfl), (Nat.le_of_ble_eq_true rfl)⟩) hS (fun H locs hP hS => ?_)
            refine lv_isub hx hb dX7_trusted_75 ?_
            exact HB76 _ _ _ _ _ _ _ _ _ hF hP hS (lv_sub hl [1, 2, 3, 4] rfl)
          · have hF := g_t c12 hF
            refine lv_iconst (v := (-1)) hx hb dX7_trusted_53 (by decide) ?_
            refine lv_goto (tgt := 76) hx hb dX7_trusted_54 (by decide) ?_
            exact HB76 _ _ _ _ _ _ _ _ _ hF hP hS (lv_sub hl [1, 2, 3, 4] rfl)
        · have hF := g_t c11 hF
          refine lv_goto (tgt := 105) hx hb dX7_trusted_45 (by decide) ?_
          exact HB105 _ _ _ _ _ _ _ _ hF hP hS (lv_sub hl [1, 2, 3, 4] rfl)
  unfold f7_trusted at hF
  refine lv_aload_n hx hb dX7_trusted_0 rfl (lv_at hl 0 rfl) ?_
  refine lv_iconst (v := 0) hx hb dX7_trusted_1 (by decide) ?_
  obtain ⟨h1, hF⟩ := g_if hF
  refine g_puti hx hb hts hiX7 tyX7 tyX7_ok nmX7 hown hK hP hS 7 rfl (by decide) h1 0 (by decide) (hts (.fieldLink RX7 35 "CourierBeesModel" "thrown" "I") (by decide +kernel)) (fun _ h9 => h9) (Or.inl rfl) (Or.inl rfl) rfl rfl dX7_trusted_2 (fun H locs hP hS => ?_)
  refine lv_aload_n hx hb dX7_trusted_5 rfl (lv_at hl 0 rfl) ?_
  refine lv_iload_n hx hb dX7_trusted_6 rfl (lv_at hl 1 rfl) ?_
  obtain ⟨v4, g3, h2, hF⟩ := g_bind2 hF
  refine g_calli (va_runV (As := [.int x1]) (rest := []) ⟨hx, hb, hml, hown, hts⟩ (k7_isHouse l D base (gPI g a0 0 ((0 : Int32))) a0 x1 v4 g3 h2) (cwV 1 hts gX7_trusted_X7_isHouse rfl rfl rfl (by decide +kernel) ⟨Nat.le_of_ble_eq_true rfl, Nat.le_of_ble_eq_true rfl⟩) (gC.preV hE hP hS 7 rfl (by decide) h1 [.int x1]) rfl rfl hl.1 rfl (lv_room (Nat.le_of_ble_eq_true rfl)) dX7_trusted_7 ⟨(Nat.le_of_ble_eq_true rfl), (Nat.le_of_ble_eq_true rfl)⟩) hS (fun H locs hP hS => ?_)
  refine lv_if_ne (tgt := 19) hx hb dX7_trusted_10 (by decide) (fun c5 => ?_) (fun c5 => ?_)
  · have hF := g_f c5 hF
    refine lv_iconst (v := (-1)) hx hb dX7_trusted_19 (by decide) ?_
    refine lv_istore_n (lv' := [(2, .int ((-1 : Int32))), (0, .ref a0), (1, .int x1)]) hx hb dX7_trusted_20 rfl hl (by decide) rfl (fun ls hl => ?_)
    refine lv_iconst (v := 0) hx hb dX7_trusted_21 (by decide) ?_
    refine lv_istore_n (lv' := [(3, .int ((0 : Int32))), (2, .int ((-1 : Int32))), (0, .ref a0), (1, .int x1)]) hx hb dX7_trusted_22 rfl hl (by decide) rfl (fun ls hl => ?_)
    exact HL23 300 _ _ _ _ _ _ _ _ hF hP hS (lv_sub hl [2, 3, 1, 0] rfl)
  · have hF := g_t c5 hF
    refine lv_aload_n hx hb dX7_trusted_13 rfl (lv_at hl 0 rfl) ?_
    refine lv_iconst (v := 1) hx hb dX7_trusted_14 (by decide) ?_
    obtain ⟨h36, hF⟩ := g_if hF
    obtain ⟨v38, g37, h35, hF⟩ := g_bind2 hF
    refine g_calli (va_runV (As := [.int ((1 : Int32))]) (rest := []) ⟨hx, hb, hml, hown, hts⟩ (k7_fail l D base g3 a0 ((1 : Int32)) v38 g37 h35) (cwV 1 hts gX7_trusted_X7_fail rfl rfl rfl (by decide +kernel) ⟨Nat.le_of_ble_eq_true rfl, Nat.le_of_ble_eq_true rfl⟩) (gC.preV hE hP hS 7 rfl (by decide) h36 [.int ((1 : Int32))]) rfl rfl hl.1 rfl (lv_room (Nat.le_of_ble_eq_true rfl)) dX7_trusted_15 ⟨(Nat.le_of_ble_eq_true rfl), (Nat.le_of_ble_eq_true rfl)⟩) hS (fun H locs hP hS => ?_)
    exact g_retI hx hb hr hlocks hF hP hS (Nat.le_of_ble_eq_true rfl) (Nat.le_of_ble_eq_true rfl) dX7_trusted_18
set_option maxHeartbeats 4000000 in
set_option maxRecDepth 100000 in
theorem k7_mean (l : Launch) (D : va_G) (base : Nat) (g : g_H) (a0 : Nat) (rr : UInt64) (gz : g_H) (hF : f7_mean g a0 = some (rr, gz)) : Met l yX7_mean wsX7_mean ({ frames := 1, cells := 0, slots := 0, locals := 22 } : Room) (va_Pc [.ref a0] (gC base D g)) (gQd base D rr gz) 0 0 (gA base) := by
  refine g_met (cc := cX7_mean) (maxL := 4) (ret := (some .double)) (lst := [(0, .ref a0)]) (by decide) rfl (Nat.le_of_ble_eq_true rfl) rfl ?_
  intro p e s m args below meth c ls hx hb hr hml hown hlocks hname hts hE hP hl
  have hown : s.vm.findClass RX7 = some m.cls := hown
  have hK := hE.1
  have hov := hE.2.2.2.2.2.2.2.1
  have hbz := hE.2.2.2.2.2.2.2.2.2.2.2.2
  have hS : va_S (gA base) s.heap s.heap [] := va_S.rf
  have hiX7 : ∀ w ∈ wsX70, w ∈ wsX7_mean := by decide +kernel
  have HL11 : ∀ (n11 : Nat), ∀ (g : g_H) (a0 : Nat) (x1 : Int32) (x2 : Int32) (x3 : Int32) (H : Heap) (locs : List Loc) (ls : Array Slot), f7_mean_11 n11 g a0 x1 x2 x3 = some (rr, gz) → gP base D s g H → va_S (gA base) s.heap H locs → lv_has ls 4 [(0, .ref a0), (1, .int x1), (2, .int x2), (3, .int x3)] → W p l e ({ frames := 1, cells := 0, slots := 0, locals := 22 } : Room) s m args below meth c H locs 0 0 (MQ below (gQd base D rr gz) args s 0 0 (gA base)) (F0 m 11 ls []) := by
    intro n11
    induction n11 with
    | zero => intro g a0 x1 x2 x3 H locs ls hF hP hS hl; exact g_no hF
    | succ n11 ih11 =>
      have HB44 : ∀ (g : g_H) (a0 : Nat) (x1 : Int32) (x2 : Int32) (x3 : Int32) (H : Heap) (locs : List Loc) (ls : Array Slot), f7_mean_44 (f7_mean_11 n11) g a0 x1 x2 x3 = some (rr, gz) → gP base D s g H → va_S (gA base) s.heap H locs → lv_has ls 4 [(0, .ref a0), (1, .int x1), (2, .int x2), (3, .int x3)] → W p l e ({ frames := 1, cells := 0, slots := 0, locals := 22 } : Room) s m args below meth c H locs 0 0 (MQ below (gQd base D rr gz) args s 0 0 (gA base)) (F0 m 44 ls []) := by
        intro g a0 x1 x2 x3 H locs ls hF hP hS hl
        unfold f7_mean_44 at hF
        refine lv_iinc (v := x3 + (1 : Int32)) (lv' := [(3, .int (x3 + (1 : Int32))), (0, .ref a0), (1, .int x1), (2, .int x2)]) hx hb dX7_mean_44 hl (k := 3) rfl rfl (by decide) rfl (fun ls hl => ?_)
        refine lv_goto (tgt := 11) hx hb dX7_mean_47 (by decide) ?_
        exact ih11 _ _ _ _ _ _ _ _ hF hP hS (lv_sub hl [1, 2, 3, 0] rfl)
      intro g a0 x1 x2 x3 H locs ls hF hP hS hl
      have hF : f7_mean_11b (f7_mean_11 n11) g a0 x1 x2 x3 = some (rr, gz) := hF
      unfold f7_mean_11b at hF
      refine lv_iload_n hx hb dX7_mean_11 rfl (lv_at hl 3 rfl) ?_
      refine lv_aload_n hx hb dX7_mean_12 rfl (lv_at hl 0 rfl) ?_
      obtain ⟨h2, hF⟩ := g_if hF
      refine g_get hx hb hts hiX7 hown hK hP 7 rfl (by decide) h2 9 (by decide) (hts (.fieldLink RX7 52 "CourierBeesModel" "letters" "I") (by decide +kernel)) (fun _ h9 => h9) (gFv_i (Or.inl rfl)) dX7_mean_13 ?_
      refine lv_icmp_ge (tgt := 50) hx hb dX7_mean_16 (by decide) (fun c3 => ?_) (fun c3 => ?_)
      · have hF := g_t c3 hF
        refine lv_iload_n hx hb dX7_mean_50 rfl (lv_at hl 2 rfl) ?_
        refine lv_if_ne (tgt := 58) hx hb dX7_mean_51 (by decide) (fun c4 => ?_) (fun c4 => ?_)
        · have hF := g_f c4 hF
          refine lv_iload_n hx hb dX7_mean_58 rfl (lv_at hl 1 rfl) ?_
          refine lv_i2d hx hb dX7_mean_59 ?_
          refine lv_iload_n hx hb dX7_mean_60 rfl (lv_at hl 2 rfl) ?_
          refine lv_i2d hx hb dX7_mean_61 ?_
          obtain ⟨h5, hF⟩ := g_if hF
          refine lv_ddiv hx hb dX7_mean_62 h5 ?_
          exact g_retD hx hb hr hlocks hF hP hS (Nat.le_of_ble_eq_true rfl) (Nat.le_of_ble_eq_true rfl) dX7_mean_63
        · have hF := g_t c4 hF
          refine lv_dconst0 hx hb dX7_mean_54 ?_
          refine lv_goto (tgt := 63) hx hb dX7_mean_55 (by decide) ?_
          exact g_retD hx hb hr hlocks hF hP hS (Nat.le_of_ble_eq_true rfl) (Nat.le_of_ble_eq_true rfl) dX7_mean_63
      · have hF := g_f c3 hF
        refine lv_aload_n hx hb dX7_mean_19 rfl (lv_at hl 0 rfl) ?_
        refine lv_iload_n hx hb dX7_mean_20 rfl (lv_at hl 3 rfl) ?_
        refine lv_iconst (v := 3) hx hb dX7_mean_21 (by decide) ?_
        obtain ⟨v8, g7, h6, hF⟩ := g_bind2 hF
        refine g_calli (va_runV (As := [.int x3, .int ((3 : Int32))]) (rest := []) ⟨hx, hb, hml, hown, hts⟩ (k7_le l D base g a0 x3 ((3 : Int32)) v8 g7 h6) (cwV 2 hts gX7_mean_X7_le rfl rfl rfl (by decide +kernel) ⟨Nat.le_of_ble_eq_true rfl, Nat.le_of_ble_eq_true rfl⟩) (gC.preV hE hP hS 7 rfl (by decide) h2 [.int x3, .int ((3 : Int32))]) rfl rfl hl.1 rfl (lv_room (Nat.le_of_ble_eq_true rfl)) dX7_mean_22 ⟨(Nat.le_of_ble_eq_true rfl), (Nat.le_of_ble_eq_true rfl)⟩) hS (fun H locs hP hS => ?_)
        refine lv_iconst (v := (-1)) hx hb dX7_mean_25 (by decide) ?_
        refine lv_icmp_ne (tgt := 32) hx hb dX7_mean_26 (by decide) (fun c9 => ?_) (fun c9 => ?_)
        · have hF := g_f c9 hF
          refine lv_iload_n hx hb dX7_mean_32 rfl (lv_at hl 1 rfl) ?_
          refine lv_aload_n hx hb dX7_mean_33 rfl (lv_at hl 0 rfl) ?_
          refine lv_iload_n hx hb dX7_mean_34 rfl (lv_at hl 3 rfl) ?_
          refine lv_iconst (v := 3) hx hb dX7_mean_35 (by decide) ?_
          obtain ⟨h11, hF⟩ := g_if hF
          obtain ⟨v13, g12, h10, hF⟩ := g_bind2 hF
          refine g_calli (va_runV (As := [.int x3, .int ((3 : Int32))]) (rest := [.int x1]) ⟨hx, hb, hml, hown, hts⟩ (k7_le l D base g7 a0 x3 ((3 : Int32)) v13 g12 h10) (cwV 2 hts gX7_mean_X7_le rfl rfl rfl (by decide +kernel) ⟨Nat.le_of_ble_eq_true rfl, Nat.le_of_ble_eq_true rfl⟩) (gC.preV hE hP hS 7 rfl (by decide) h11 [.int x3, .int ((3 : Int32))]) rfl rfl hl.1 rfl (lv_room (Nat.le_of_ble_eq_true rfl)) dX7_mean_36 ⟨(Nat.le_of_ble_eq_true rfl), (Nat.le_of_ble_eq_true rfl)⟩) hS (fun H locs hP hS => ?_)
          refine lv_iadd hx hb dX7_mean_39 ?_
          refine lv_istore_n (lv' := [(1, .int (x1 + v13)), (0, .ref a0), (2, .int x2), (3, .int x3)]) hx hb dX7_mean_40 rfl hl (by decide) rfl (fun ls hl => ?_)
          refine lv_iinc (v := x2 + (1 : Int32)) (lv' := [(2, .int (x2 + (1 : Int32))), (1, .int (x1 + v13)), (0, .ref a0), (3, .int x3)]) hx hb dX7_mean_41 hl (k := 2) rfl rfl (by decide) rfl (fun ls hl => ?_)
          exact HB44 _ _ _ _ _ _ _ _ hF hP hS (lv_sub hl [2, 1, 0, 3] rfl)
        · have hF := g_t c9 hF
          refine lv_goto (tgt := 44) hx hb dX7_mean_29 (by decide) ?_
          exact HB44 _ _ _ _ _ _ _ _ hF hP hS (lv_sub hl [0, 1, 2, 3] rfl)
  unfold f7_mean at hF
  refine lv_aload_n hx hb dX7_mean_0 rfl (lv_at hl 0 rfl) ?_
  refine lv_iconst (v := 0) hx hb dX7_mean_1 (by decide) ?_
  obtain ⟨h1, hF⟩ := g_if hF
  refine g_puti hx hb hts hiX7 tyX7 tyX7_ok nmX7 hown hK hP hS 7 rfl (by decide) h1 0 (by decide) (hts (.fieldLink RX7 35 "CourierBeesModel" "thrown" "I") (by decide +kernel)) (fun _ h9 => h9) (Or.inl rfl) (Or.inl rfl) rfl rfl dX7_mean_2 (fun H locs hP hS => ?_)
  refine lv_iconst (v := 0) hx hb dX7_mean_5 (by decide) ?_
  refine lv_istore_n (lv' := [(1, .int ((0 : Int32))), (0, .ref a0)]) hx hb dX7_mean_6 rfl hl (by decide) rfl (fun ls hl => ?_)
  refine lv_iconst (v := 0) hx hb dX7_mean_7 (by decide) ?_
  refine lv_istore_n (lv' := [(2, .int ((0 : Int32))), (1, .int ((0 : Int32))), (0, .ref a0)]) hx hb dX7_mean_8 rfl hl (by decide) rfl (fun ls hl => ?_)
  refine lv_iconst (v := 0) hx hb dX7_mean_9 (by decide) ?_
  refine lv_istore_n (lv' := [(3, .int ((0 : Int32))), (2, .int ((0 : Int32))), (1, .int ((0 : Int32))), (0, .ref a0)]) hx hb dX7_mean_10 rfl hl (by decide) rfl (fun ls hl => ?_)
  exact HL11 300 _ _ _ _ _ _ _ _ hF hP hS (lv_sub hl [3, 2, 1, 0] rfl)
set_option maxHeartbeats 4000000 in
set_option maxRecDepth 100000 in
theorem k7_digest (l : Launch) (D : va_G) (base : Nat) (g : g_H) (a0 : Nat) (rr : Int64) (gz : g_H) (hF : f7_digest g a0 = some (rr, gz)) : Met l yX7_digest wsX7_digest ({ frames := 3, cells := 81, slots := 729, locals := 68 } : Room) (va_Pc [.ref a0] (gC base D g)) (gQl base D rr gz) 81 729 (gA base) := by
  refine g_met (cc := cX7_digest) (maxL := 5) (ret := (some .long)) (lst := [(0, .ref a0)]) (by decide) rfl (Nat.le_of_ble_eq_true rfl) rfl ?_
  intro p e s m args below meth c ls hx hb hr hml hown hlocks hname hts hE hP hl
  have hown : s.vm.findClass RX7 = some m.cls := hown
  have hK := hE.1
  have hov := hE.2.2.2.2.2.2.2.1
  have hbz := hE.2.2.2.2.2.2.2.2.2.2.2.2
  have hS : va_S (gA base) s.heap s.heap [] := va_S.rf
  have hiX7 : ∀ w ∈ wsX70, w ∈ wsX7_digest := by decide +kernel
  have HL195 : ∀ (n195 : Nat), ∀ (g : g_H) (a0 : Nat) (j1 : Int64) (x3 : Int32) (H : Heap) (locs : List Loc) (ls : Array Slot), f7_digest_195 n195 g a0 j1 x3 = some (rr, gz) → gP base D s g H → va_S (gA base) s.heap H locs → lv_has ls 5 [(0, .ref a0), (1, .long j1), (3, .int x3)] → W p l e ({ frames := 3, cells := 81, slots := 729, locals := 68 } : Room) s m args below meth c H locs 70 630 (MQ below (gQl base D rr gz) args s 81 729 (gA base)) (F0 m 195 ls []) := by
    intro n195
    induction n195 with
    | zero => intro g a0 j1 x3 H locs ls hF hP hS hl; exact g_no hF
    | succ n195 ih195 =>
      intro g a0 j1 x3 H locs ls hF hP hS hl
      have hF : f7_digest_195b (f7_digest_195 n195) g a0 j1 x3 = some (rr, gz) := hF
      unfold f7_digest_195b at hF
      refine lv_iload_n hx hb dX7_digest_195 rfl (lv_at hl 2 rfl) ?_
      refine lv_iconst (v := 5) hx hb dX7_digest_196 (by decide) ?_
      refine lv_aload_n hx hb dX7_digest_197 rfl (lv_at hl 0 rfl) ?_
      obtain ⟨h9, hF⟩ := g_if hF
      refine g_get hx hb hts hiX7 hown hK hP 7 rfl (by decide) h9 9 (by decide) (hts (.fieldLink RX7 52 "CourierBeesModel" "letters" "I") (by decide +kernel)) (fun _ h9 => h9) (gFv_i (Or.inl rfl)) dX7_digest_198 ?_
      refine lv_imul hx hb dX7_digest_201 ?_
      refine lv_icmp_ge (tgt := 225) hx hb dX7_digest_202 (by decide) (fun c10 => ?_) (fun c10 => ?_)
      · have hF := g_t c10 hF
        refine lv_lload_n hx hb dX7_digest_225 rfl (lv_at hl 1 rfl) ?_
        exact g_retJ hx hb hr hlocks hF hP hS (Nat.le_of_ble_eq_true rfl) (Nat.le_of_ble_eq_true rfl) dX7_digest_226
      · have hF := g_f c10 hF
        refine lv_lload_n hx hb dX7_digest_205 rfl (lv_at hl 1 rfl) ?_
        refine lv_ldc2 (v := 31) hx hb hown (hts (.constantLong RX7 174 (31)) (by decide +kernel)) dX7_digest_206 ?_
        refine lv_lmul hx hb dX7_digest_209 ?_
        refine lv_aload_n hx hb dX7_digest_210 rfl (lv_at hl 0 rfl) ?_
        obtain ⟨q11, hq12, hF⟩ := g_bind hF
        refine g_get hx hb hts hiX7 hown hK hP 7 rfl (by decide) h9 10 (by decide) (hts (.fieldLink RX7 26 "CourierBeesModel" "post" "[I") (by decide +kernel)) (fun _ h9 => h9) ((gFv_r (by decide)).trans (congrArg va_rf hq12)) dX7_digest_211 ?_
        refine lv_iload_n hx hb dX7_digest_214 rfl (lv_at hl 2 rfl) ?_
        obtain ⟨h13, hF⟩ := g_if hF
        obtain ⟨h14, hF⟩ := g_if hF
        refine g_iald hx hb hP (g_pr h13) h14 dX7_digest_215 ?_
        refine lv_i2l hx hb dX7_digest_216 rfl ?_
        refine lv_ladd hx hb dX7_digest_217 ?_
        refine lv_lstore_n (lv' := [(1, .long ((j1 * ((31 : Int64))) + (Int32.toInt64 (gI g q11 (Int32.toNatClampNeg x3))))), (0, .ref a0), (3, .int x3)]) hx hb dX7_digest_218 rfl hl (by decide) rfl (fun ls hl => ?_)
        refine lv_iinc (v := x3 + (1 : Int32)) (lv' := [(3, .int (x3 + (1 : Int32))), (1, .long ((j1 * ((31 : Int64))) + (Int32.toInt64 (gI g q11 (Int32.toNatClampNeg x3))))), (0, .ref a0)]) hx hb dX7_digest_219 hl (k := 2) rfl rfl (by decide) rfl (fun ls hl => ?_)
        refine lv_goto (tgt := 195) hx hb dX7_digest_222 (by decide) ?_
        exact ih195 _ _ _ _ _ _ _ hF hP hS (lv_sub hl [2, 1, 0] rfl)
  have HL108 : ∀ (n108 : Nat), n108 ≤ 7 → ∀ (g : g_H) (a0 : Nat) (j1 : Int64) (x3 : Int32) (H : Heap) (locs : List Loc) (ls : Array Slot), f7_digest_108 n108 g a0 j1 x3 = some (rr, gz) → gP base D s g H → va_S (gA base) s.heap H locs → lv_has ls 5 [(0, .ref a0), (1, .long j1), (3, .int x3)] → W p l e ({ frames := 3, cells := 81, slots := 729, locals := 68 } : Room) s m args below meth c H locs (0 + (7 - n108) * 10) (0 + (7 - n108) * 90) (MQ below (gQl base D rr gz) args s 81 729 (gA base)) (F0 m 108 ls []) := by
    intro n108
    induction n108 with
    | zero => intro hle108 g a0 j1 x3 H locs ls hF hP hS hl; exact g_no hF
    | succ n108 ih108 =>
      intro hle108
      have HL150 : ∀ (n150 : Nat), ∀ (g : g_H) (a0 : Nat) (j1 : Int64) (x3 : Int32) (x4 : Int32) (H : Heap) (locs : List Loc) (ls : Array Slot), f7_digest_150 (f7_digest_108 n108) n150 g a0 j1 x3 x4 = some (rr, gz) → gP base D s g H → va_S (gA base) s.heap H locs → lv_has ls 5 [(0, .ref a0), (1, .long j1), (3, .int x3), (4, .int x4)] → W p l e ({ frames := 3, cells := 81, slots := 729, locals := 68 } : Room) s m args below meth c H locs (0 + (7 - (n108 + 1)) * 10 + 10) (0 + (7 - (n108 + 1)) * 90 + 90) (MQ below (gQl base D rr gz) args s 81 729 (gA base)) (F0 m 150 ls []) := by
        intro n150
        induction n150 with
        | zero => intro g a0 j1 x3 x4 H locs ls hF hP hS hl; exact g_no hF
        | succ n150 ih150 =>
          intro g a0 j1 x3 x4 H locs ls hF hP hS hl
          have hF : f7_digest_150b (f7_digest_108 n108) (f7_digest_150 (f7_digest_108 n108) n150) g a0 j1 x3 x4 = some (rr, gz) := hF
          unfold f7_digest_150b at hF
          refine lv_iload hx hb dX7_digest_150 (lv_at hl 3 rfl) ?_
          refine lv_aload_n hx hb dX7_digest_152 rfl (lv_at hl 0 rfl) ?_
          refine lv_iload_n hx hb dX7_digest_153 rfl (lv_at hl 2 rfl) ?_
          refine lv_iconst (v := 5) hx hb dX7_digest_154 (by decide) ?_
          obtain ⟨h17, hF⟩ := g_if hF
          obtain ⟨v19, g18, h16, hF⟩ := g_bind2 hF
          refine g_calli (va_runV (As := [.int x3, .int ((5 : Int32))]) (rest := [.int x4]) ⟨hx, hb, hml, hown, hts⟩ (k7_be l D base g a0 x3 ((5 : Int32)) v19 g18 h16) (cwV 2 hts gX7_digest_X7_be rfl rfl rfl (by decide +kernel) ⟨Nat.le_of_ble_eq_true rfl, Nat.le_of_ble_eq_true rfl⟩) (gC.preV hE hP hS 7 rfl (by decide) h17 [.int x3, .int ((5 : Int32))]) rfl rfl hl.1 rfl (lv_room (Nat.le_of_ble_eq_true rfl)) dX7_digest_155 ⟨(by show _ ≤ (81 : Nat); omega), (by show _ ≤ (729 : Nat); omega)⟩) hS (fun H locs hP hS => ?_)
          refine lv_icmp_ge (tgt := 187) hx hb dX7_digest_158 (by decide) (fun c20 => ?_) (fun c20 => ?_)
          · have hF := g_t c20 hF
            refine lv_iinc (v := x3 + (1 : Int32)) (lv' := [(3, .int (x3 + (1 : Int32))), (0, .ref a0), (1, .long j1), (4, .int x4)]) hx hb dX7_digest_187 hl (k := 2) rfl rfl (by decide) rfl (fun ls hl => ?_)
            refine lv_goto (tgt := 108) hx hb dX7_digest_190 (by decide) ?_
            refine W.widen (k := 0 + (7 - n108) * 10) (n := 0 + (7 - n108) * 90) (by omega) (by omega) ?_
            exact ih108 (by omega) _ _ _ _ _ _ _ hF hP hS (lv_sub hl [1, 2, 0] rfl)
          · have hF := g_f c20 hF
            refine lv_lload_n hx hb dX7_digest_161 rfl (lv_at hl 1 rfl) ?_
            refine lv_ldc2 (v := 31) hx hb hown (hts (.constantLong RX7 174 (31)) (by decide +kernel)) dX7_digest_162 ?_
            refine lv_lmul hx hb dX7_digest_165 ?_
            refine lv_aload_n hx hb dX7_digest_166 rfl (lv_at hl 0 rfl) ?_
            obtain ⟨h21, hF⟩ := g_if hF
            obtain ⟨q22, hq23, hF⟩ := g_bind hF
            refine g_get hx hb hts hiX7 hown hK hP 7 rfl (by decide) h21 8 (by decide) (hts (.fieldLink RX7 23 "CourierBeesModel" "routes" "[I") (by decide +kernel)) (fun _ h9 => h9) ((gFv_r (by decide)).trans (congrArg va_rf hq23)) dX7_digest_167 ?_
            refine lv_bipush (v := 7) hx hb dX7_digest_170 (by decide) ?_
            refine lv_iload_n hx hb dX7_digest_172 rfl (lv_at hl 2 rfl) ?_
            refine lv_imul hx hb dX7_digest_173 ?_
            refine lv_iload hx hb dX7_digest_174 (lv_at hl 3 rfl) ?_
            refine lv_iadd hx hb dX7_digest_176 ?_
            obtain ⟨h24, hF⟩ := g_if hF
            obtain ⟨h25, hF⟩ := g_if hF
            refine g_iald hx hb hP (g_pr h24) h25 dX7_digest_177 ?_
            refine lv_i2l hx hb dX7_digest_178 rfl ?_
            refine lv_ladd hx hb dX7_digest_179 ?_
            refine lv_lstore_n (lv' := [(1, .long ((j1 * ((31 : Int64))) + (Int32.toInt64 (gI g18 q22 (Int32.toNatClampNeg ((((7 : Int32)) * x3) + x4)))))), (0, .ref a0), (3, .int x3), (4, .int x4)]) hx hb dX7_digest_180 rfl hl (by decide) rfl (fun ls hl => ?_)
            refine lv_iinc (v := x4 + (1 : Int32)) (lv' := [(4, .int (x4 + (1 : Int32))), (1, .long ((j1 * ((31 : Int64))) + (Int32.toInt64 (gI g18 q22 (Int32.toNatClampNeg ((((7 : Int32)) * x3) + x4)))))), (0, .ref a0), (3, .int x3)]) hx hb dX7_digest_181 hl (k := 3) rfl rfl (by decide) rfl (fun ls hl => ?_)
            refine lv_goto (tgt := 150) hx hb dX7_digest_184 (by decide) ?_
            exact ih150 _ _ _ _ _ _ _ _ hF hP hS (lv_sub hl [2, 1, 3, 0] rfl)
      have HL119 : ∀ (n119 : Nat), n119 ≤ 10 → ∀ (g : g_H) (a0 : Nat) (j1 : Int64) (x3 : Int32) (x4 : Int32) (H : Heap) (locs : List Loc) (ls : Array Slot), f7_digest_119 (f7_digest_108 n108) n119 g a0 j1 x3 x4 = some (rr, gz) → gP base D s g H → va_S (gA base) s.heap H locs → lv_has ls 5 [(0, .ref a0), (1, .long j1), (3, .int x3), (4, .int x4)] → W p l e ({ frames := 3, cells := 81, slots := 729, locals := 68 } : Room) s m args below meth c H locs (0 + (7 - (n108 + 1)) * 10 + (10 - n119) * 1) (0 + (7 - (n108 + 1)) * 90 + (10 - n119) * 9) (MQ below (gQl base D rr gz) args s 81 729 (gA base)) (F0 m 119 ls []) := by
        intro n119
        induction n119 with
        | zero => intro hle119 g a0 j1 x3 x4 H locs ls hF hP hS hl; exact g_no hF
        | succ n119 ih119 =>
          intro hle119
          intro g a0 j1 x3 x4 H locs ls hF hP hS hl
          have hF : f7_digest_119b (f7_digest_108 n108) (f7_digest_119 (f7_digest_108 n108) n119) g a0 j1 x3 x4 = some (rr, gz) := hF
          unfold f7_digest_119b at hF
          refine lv_iload hx hb dX7_digest_119 (lv_at hl 3 rfl) ?_
          refine lv_bipush (v := 9) hx hb dX7_digest_121 (by decide) ?_
          refine lv_icmp_ge (tgt := 147) hx hb dX7_digest_123 (by decide) (fun c15 => ?_) (fun c15 => ?_)
          · have hF := g_t c15 hF
            refine W.widen (k := 0 + (7 - (n108 + 1)) * 10 + 10) (n := 0 + (7 - (n108 + 1)) * 90 + 90) (by omega) (by omega) ?_
            refine lv_iconst (v := 0) hx hb dX7_digest_147 (by decide) ?_
            refine lv_istore (lv' := [(4, .int ((0 : Int32))), (0, .ref a0), (1, .long j1), (3, .int x3)]) hx hb dX7_digest_148 hl (by decide) rfl (fun ls hl => ?_)
            exact HL150 300 _ _ _ _ _ _ _ _ hF hP hS (lv_sub hl [1, 2, 3, 0] rfl)
          · have hF := g_f c15 hF
            refine lv_lload_n hx hb dX7_digest_126 rfl (lv_at hl 1 rfl) ?_
            refine lv_ldc2 (v := 31) hx hb hown (hts (.constantLong RX7 174 (31)) (by decide +kernel)) dX7_digest_127 ?_
            refine lv_lmul hx hb dX7_digest_130 ?_
            refine lv_aload_n hx hb dX7_digest_131 rfl (lv_at hl 0 rfl) ?_
            refine lv_iload_n hx hb dX7_digest_132 rfl (lv_at hl 2 rfl) ?_
            refine lv_iload hx hb dX7_digest_133 (lv_at hl 3 rfl) ?_
            obtain ⟨h27, hF⟩ := g_if hF
            obtain ⟨v29, g28, h26, hF⟩ := g_bind2 hF
            refine g_calli (va_runV (As := [.int x3, .int x4]) (rest := [.long (j1 * ((31 : Int64)))]) ⟨hx, hb, hml, hown, hts⟩ (k7_beeTold l D base g a0 x3 x4 v29 g28 h26) (cwV 2 hts gX7_digest_X7_beeTold rfl rfl rfl (by decide +kernel) ⟨Nat.le_of_ble_eq_true rfl, Nat.le_of_ble_eq_true rfl⟩) (gC.preV hE hP hS 7 rfl (by decide) h27 [.int x3, .int x4]) rfl rfl hl.1 rfl (lv_room (Nat.le_of_ble_eq_true rfl)) dX7_digest_135 ⟨(by show _ ≤ (81 : Nat); omega), (by show _ ≤ (729 : Nat); omega)⟩) hS (fun H locs hP hS => ?_)
            refine lv_i2l hx hb dX7_digest_138 rfl ?_
            refine lv_ladd hx hb dX7_digest_139 ?_
            refine lv_lstore_n (lv' := [(1, .long ((j1 * ((31 : Int64))) + (Int32.toInt64 v29))), (0, .ref a0), (3, .int x3), (4, .int x4)]) hx hb dX7_digest_140 rfl hl (by decide) rfl (fun ls hl => ?_)
            refine lv_iinc (v := x4 + (1 : Int32)) (lv' := [(4, .int (x4 + (1 : Int32))), (1, .long ((j1 * ((31 : Int64))) + (Int32.toInt64 v29))), (0, .ref a0), (3, .int x3)]) hx hb dX7_digest_141 hl (k := 3) rfl rfl (by decide) rfl (fun ls hl => ?_)
            refine lv_goto (tgt := 119) hx hb dX7_digest_144 (by decide) ?_
            refine W.widen (k := 0 + (7 - (n108 + 1)) * 10 + (10 - n119) * 1) (n := 0 + (7 - (n108 + 1)) * 90 + (10 - n119) * 9) (by omega) (by omega) ?_
            exact ih119 (by omega) _ _ _ _ _ _ _ _ hF hP hS (lv_sub hl [2, 1, 3, 0] rfl)
      intro g a0 j1 x3 H locs ls hF hP hS hl
      have hF : f7_digest_108b (f7_digest_108 n108) g a0 j1 x3 = some (rr, gz) := hF
      unfold f7_digest_108b at hF
      refine lv_iload_n hx hb dX7_digest_108 rfl (lv_at hl 2 rfl) ?_
      refine lv_aload_n hx hb dX7_digest_109 rfl (lv_at hl 0 rfl) ?_
      obtain ⟨h7, hF⟩ := g_if hF
      refine g_get hx hb hts hiX7 hown hK hP 7 rfl (by decide) h7 6 (by decide) (hts (.fieldLink RX7 49 "CourierBeesModel" "bees" "I") (by decide +kernel)) (fun _ h9 => h9) (gFv_i (Or.inl rfl)) dX7_digest_110 ?_
      refine lv_icmp_ge (tgt := 193) hx hb dX7_digest_113 (by decide) (fun c8 => ?_) (fun c8 => ?_)
      · have hF := g_t c8 hF
        refine W.widen (k := 70) (n := 630) (by omega) (by omega) ?_
        refine lv_iconst (v := 0) hx hb dX7_digest_193 (by decide) ?_
        refine lv_istore_n (lv' := [(3, .int ((0 : Int32))), (0, .ref a0), (1, .long j1)]) hx hb dX7_digest_194 rfl hl (by decide) rfl (fun ls hl => ?_)
        exact HL195 300 _ _ _ _ _ _ _ hF hP hS (lv_sub hl [1, 2, 0] rfl)
      · have hF := g_f c8 hF
        refine lv_iconst (v := 0) hx hb dX7_digest_116 (by decide) ?_
        refine lv_istore (lv' := [(4, .int ((0 : Int32))), (0, .ref a0), (1, .long j1), (3, .int x3)]) hx hb dX7_digest_117 hl (by decide) rfl (fun ls hl => ?_)
        refine W.widen (k := 0 + (7 - (n108 + 1)) * 10 + (10 - 10) * 1) (n := 0 + (7 - (n108 + 1)) * 90 + (10 - 10) * 9) (by omega) (by omega) ?_
        exact HL119 10 (Nat.le_refl _) _ _ _ _ _ _ _ _ hF hP hS (lv_sub hl [1, 2, 3, 0] rfl)
  have HL76 : ∀ (n76 : Nat), ∀ (g : g_H) (a0 : Nat) (j1 : Int64) (x3 : Int32) (H : Heap) (locs : List Loc) (ls : Array Slot), f7_digest_76 n76 g a0 j1 x3 = some (rr, gz) → gP base D s g H → va_S (gA base) s.heap H locs → lv_has ls 5 [(0, .ref a0), (1, .long j1), (3, .int x3)] → W p l e ({ frames := 3, cells := 81, slots := 729, locals := 68 } : Room) s m args below meth c H locs 0 0 (MQ below (gQl base D rr gz) args s 81 729 (gA base)) (F0 m 76 ls []) := by
    intro n76
    induction n76 with
    | zero => intro g a0 j1 x3 H locs ls hF hP hS hl; exact g_no hF
    | succ n76 ih76 =>
      intro g a0 j1 x3 H locs ls hF hP hS hl
      have hF : f7_digest_76b (f7_digest_76 n76) g a0 j1 x3 = some (rr, gz) := hF
      unfold f7_digest_76b at hF
      refine lv_iload_n hx hb dX7_digest_76 rfl (lv_at hl 2 rfl) ?_
      refine lv_iconst (v := 5) hx hb dX7_digest_77 (by decide) ?_
      refine lv_aload_n hx hb dX7_digest_78 rfl (lv_at hl 0 rfl) ?_
      obtain ⟨h5, hF⟩ := g_if hF
      refine g_get hx hb hts hiX7 hown hK hP 7 rfl (by decide) h5 3 (by decide) (hts (.fieldLink RX7 46 "CourierBeesModel" "lanes" "I") (by decide +kernel)) (fun _ h9 => h9) (gFv_i (Or.inl rfl)) dX7_digest_79 ?_
      refine lv_imul hx hb dX7_digest_82 ?_
      refine lv_icmp_ge (tgt := 106) hx hb dX7_digest_83 (by decide) (fun c6 => ?_) (fun c6 => ?_)
      · have hF := g_t c6 hF
        refine lv_iconst (v := 0) hx hb dX7_digest_106 (by decide) ?_
        refine lv_istore_n (lv' := [(3, .int ((0 : Int32))), (0, .ref a0), (1, .long j1)]) hx hb dX7_digest_107 rfl hl (by decide) rfl (fun ls hl => ?_)
        refine W.widen (k := 0 + (7 - 7) * 10) (n := 0 + (7 - 7) * 90) (by omega) (by omega) ?_
        exact HL108 7 (Nat.le_refl _) _ _ _ _ _ _ _ hF hP hS (lv_sub hl [1, 2, 0] rfl)
      · have hF := g_f c6 hF
        refine lv_lload_n hx hb dX7_digest_86 rfl (lv_at hl 1 rfl) ?_
        refine lv_ldc2 (v := 31) hx hb hown (hts (.constantLong RX7 174 (31)) (by decide +kernel)) dX7_digest_87 ?_
        refine lv_lmul hx hb dX7_digest_90 ?_
        refine lv_aload_n hx hb dX7_digest_91 rfl (lv_at hl 0 rfl) ?_
        obtain ⟨q30, hq31, hF⟩ := g_bind hF
        refine g_get hx hb hts hiX7 hown hK hP 7 rfl (by decide) h5 4 (by decide) (hts (.fieldLink RX7 13 "CourierBeesModel" "roads" "[I") (by decide +kernel)) (fun _ h9 => h9) ((gFv_r (by decide)).trans (congrArg va_rf hq31)) dX7_digest_92 ?_
        refine lv_iload_n hx hb dX7_digest_95 rfl (lv_at hl 2 rfl) ?_
        obtain ⟨h32, hF⟩ := g_if hF
        obtain ⟨h33, hF⟩ := g_if hF
        refine g_iald hx hb hP (g_pr h32) h33 dX7_digest_96 ?_
        refine lv_i2l hx hb dX7_digest_97 rfl ?_
        refine lv_ladd hx hb dX7_digest_98 ?_
        refine lv_lstore_n (lv' := [(1, .long ((j1 * ((31 : Int64))) + (Int32.toInt64 (gI g q30 (Int32.toNatClampNeg x3))))), (0, .ref a0), (3, .int x3)]) hx hb dX7_digest_99 rfl hl (by decide) rfl (fun ls hl => ?_)
        refine lv_iinc (v := x3 + (1 : Int32)) (lv' := [(3, .int (x3 + (1 : Int32))), (1, .long ((j1 * ((31 : Int64))) + (Int32.toInt64 (gI g q30 (Int32.toNatClampNeg x3))))), (0, .ref a0)]) hx hb dX7_digest_100 hl (k := 2) rfl rfl (by decide) rfl (fun ls hl => ?_)
        refine lv_goto (tgt := 76) hx hb dX7_digest_103 (by decide) ?_
        exact ih76 _ _ _ _ _ _ _ hF hP hS (lv_sub hl [2, 1, 0] rfl)
  have HL38 : ∀ (n38 : Nat), ∀ (g : g_H) (a0 : Nat) (j1 : Int64) (x3 : Int32) (H : Heap) (locs : List Loc) (ls : Array Slot), f7_digest_38 n38 g a0 j1 x3 = some (rr, gz) → gP base D s g H → va_S (gA base) s.heap H locs → lv_has ls 5 [(0, .ref a0), (1, .long j1), (3, .int x3)] → W p l e ({ frames := 3, cells := 81, slots := 729, locals := 68 } : Room) s m args below meth c H locs 0 0 (MQ below (gQl base D rr gz) args s 81 729 (gA base)) (F0 m 38 ls []) := by
    intro n38
    induction n38 with
    | zero => intro g a0 j1 x3 H locs ls hF hP hS hl; exact g_no hF
    | succ n38 ih38 =>
      have HB65 : ∀ (g : g_H) (a0 : Nat) (x3 : Int32) (s0 : Int64) (s1 : Int32) (H : Heap) (locs : List Loc) (ls : Array Slot), f7_digest_65 (f7_digest_38 n38) g a0 x3 s0 s1 = some (rr, gz) → gP base D s g H → va_S (gA base) s.heap H locs → lv_has ls 5 [(0, .ref a0), (3, .int x3)] → W p l e ({ frames := 3, cells := 81, slots := 729, locals := 68 } : Room) s m args below meth c H locs 0 0 (MQ below (gQl base D rr gz) args s 81 729 (gA base)) (F0 m 65 ls [.int s1, .long s0]) := by
        intro g a0 x3 s0 s1 H locs ls hF hP hS hl
        unfold f7_digest_65 at hF
        refine lv_i2l hx hb dX7_digest_65 rfl ?_
        refine lv_ladd hx hb dX7_digest_66 ?_
        refine lv_lstore_n (lv' := [(1, .long (s0 + (Int32.toInt64 s1))), (0, .ref a0), (3, .int x3)]) hx hb dX7_digest_67 rfl hl (by decide) rfl (fun ls hl => ?_)
        refine lv_iinc (v := x3 + (1 : Int32)) (lv' := [(3, .int (x3 + (1 : Int32))), (1, .long (s0 + (Int32.toInt64 s1))), (0, .ref a0)]) hx hb dX7_digest_68 hl (k := 2) rfl rfl (by decide) rfl (fun ls hl => ?_)
        refine lv_goto (tgt := 38) hx hb dX7_digest_71 (by decide) ?_
        exact ih38 _ _ _ _ _ _ _ hF hP hS (lv_sub hl [2, 1, 0] rfl)
      intro g a0 j1 x3 H locs ls hF hP hS hl
      have hF : f7_digest_38b (f7_digest_38 n38) g a0 j1 x3 = some (rr, gz) := hF
      unfold f7_digest_38b at hF
      refine lv_iload_n hx hb dX7_digest_38 rfl (lv_at hl 2 rfl) ?_
      refine lv_aload_n hx hb dX7_digest_39 rfl (lv_at hl 0 rfl) ?_
      obtain ⟨h3, hF⟩ := g_if hF
      refine g_get hx hb hts hiX7 hown hK hP 7 rfl (by decide) h3 1 (by decide) (hts (.fieldLink RX7 39 "CourierBeesModel" "houses" "I") (by decide +kernel)) (fun _ h9 => h9) (gFv_i (Or.inl rfl)) dX7_digest_40 ?_
      refine lv_icmp_ge (tgt := 74) hx hb dX7_digest_43 (by decide) (fun c4 => ?_) (fun c4 => ?_)
      · have hF := g_t c4 hF
        refine lv_iconst (v := 0) hx hb dX7_digest_74 (by decide) ?_
        refine lv_istore_n (lv' := [(3, .int ((0 : Int32))), (0, .ref a0), (1, .long j1)]) hx hb dX7_digest_75 rfl hl (by decide) rfl (fun ls hl => ?_)
        exact HL76 300 _ _ _ _ _ _ _ hF hP hS (lv_sub hl [1, 2, 0] rfl)
      · have hF := g_f c4 hF
        refine lv_lload_n hx hb dX7_digest_46 rfl (lv_at hl 1 rfl) ?_
        refine lv_ldc2 (v := 31) hx hb hown (hts (.constantLong RX7 174 (31)) (by decide +kernel)) dX7_digest_47 ?_
        refine lv_lmul hx hb dX7_digest_50 ?_
        refine lv_aload_n hx hb dX7_digest_51 rfl (lv_at hl 0 rfl) ?_
        obtain ⟨q34, hq35, hF⟩ := g_bind hF
        refine g_get hx hb hts hiX7 hown hK hP 7 rfl (by decide) h3 2 (by decide) (hts (.fieldLink RX7 9 "CourierBeesModel" "hives" "[Z") (by decide +kernel)) (fun _ h9 => h9) ((gFv_r (by decide)).trans (congrArg va_rf hq35)) dX7_digest_52 ?_
        refine lv_iload_n hx hb dX7_digest_55 rfl (lv_at hl 2 rfl) ?_
        obtain ⟨h36, hF⟩ := g_if hF
        obtain ⟨h37, hF⟩ := g_if hF
        refine g_zald hx hb hP (g_pr h36) h37 dX7_digest_56 ?_
        refine lv_if_eq (tgt := 64) hx hb dX7_digest_57 (by decide) (fun c38 => ?_) (fun c38 => ?_)
        · have hF := g_t c38 hF
          refine lv_iconst (v := 0) hx hb dX7_digest_64 (by decide) ?_
          exact HB65 _ _ _ _ _ _ _ _ hF hP hS (lv_sub hl [0, 2] rfl)
        · have hF := g_f c38 hF
          refine lv_iconst (v := 1) hx hb dX7_digest_60 (by decide) ?_
          refine lv_goto (tgt := 65) hx hb dX7_digest_61 (by decide) ?_
          exact HB65 _ _ _ _ _ _ _ _ hF hP hS (lv_sub hl [0, 2] rfl)
  have HL11 : ∀ (n11 : Nat), ∀ (g : g_H) (a0 : Nat) (j1 : Int64) (x3 : Int32) (H : Heap) (locs : List Loc) (ls : Array Slot), f7_digest_11 n11 g a0 j1 x3 = some (rr, gz) → gP base D s g H → va_S (gA base) s.heap H locs → lv_has ls 5 [(0, .ref a0), (1, .long j1), (3, .int x3)] → W p l e ({ frames := 3, cells := 81, slots := 729, locals := 68 } : Room) s m args below meth c H locs 0 0 (MQ below (gQl base D rr gz) args s 81 729 (gA base)) (F0 m 11 ls []) := by
    intro n11
    induction n11 with
    | zero => intro g a0 j1 x3 H locs ls hF hP hS hl; exact g_no hF
    | succ n11 ih11 =>
      intro g a0 j1 x3 H locs ls hF hP hS hl
      have hF : f7_digest_11b (f7_digest_11 n11) g a0 j1 x3 = some (rr, gz) := hF
      unfold f7_digest_11b at hF
      refine lv_iload_n hx hb dX7_digest_11 rfl (lv_at hl 2 rfl) ?_
      refine lv_bipush (v := 9) hx hb dX7_digest_12 (by decide) ?_
      refine lv_icmp_ge (tgt := 36) hx hb dX7_digest_14 (by decide) (fun c2 => ?_) (fun c2 => ?_)
      · have hF := g_t c2 hF
        refine lv_iconst (v := 0) hx hb dX7_digest_36 (by decide) ?_
        refine lv_istore_n (lv' := [(3, .int ((0 : Int32))), (0, .ref a0), (1, .long j1)]) hx hb dX7_digest_37 rfl hl (by decide) rfl (fun ls hl => ?_)
        exact HL38 300 _ _ _ _ _ _ _ hF hP hS (lv_sub hl [1, 2, 0] rfl)
      · have hF := g_f c2 hF
        refine lv_lload_n hx hb dX7_digest_17 rfl (lv_at hl 1 rfl) ?_
        refine lv_ldc2 (v := 31) hx hb hown (hts (.constantLong RX7 174 (31)) (by decide +kernel)) dX7_digest_18 ?_
        refine lv_lmul hx hb dX7_digest_21 ?_
        refine lv_aload_n hx hb dX7_digest_22 rfl (lv_at hl 0 rfl) ?_
        refine lv_iload_n hx hb dX7_digest_23 rfl (lv_at hl 2 rfl) ?_
        obtain ⟨h40, hF⟩ := g_if hF
        obtain ⟨v42, g41, h39, hF⟩ := g_bind2 hF
        refine g_calli (va_runV (As := [.int x3]) (rest := [.long (j1 * ((31 : Int64)))]) ⟨hx, hb, hml, hown, hts⟩ (k7_counted l D base g a0 x3 v42 g41 h39) (cwV 1 hts gX7_digest_X7_counted rfl rfl rfl (by decide +kernel) ⟨Nat.le_of_ble_eq_true rfl, Nat.le_of_ble_eq_true rfl⟩) (gC.preV hE hP hS 7 rfl (by decide) h40 [.int x3]) rfl rfl hl.1 rfl (lv_room (Nat.le_of_ble_eq_true rfl)) dX7_digest_24 ⟨(Nat.le_of_ble_eq_true rfl), (Nat.le_of_ble_eq_true rfl)⟩) hS (fun H locs hP hS => ?_)
        refine lv_i2l hx hb dX7_digest_27 rfl ?_
        refine lv_ladd hx hb dX7_digest_28 ?_
        refine lv_lstore_n (lv' := [(1, .long ((j1 * ((31 : Int64))) + (Int32.toInt64 v42))), (0, .ref a0), (3, .int x3)]) hx hb dX7_digest_29 rfl hl (by decide) rfl (fun ls hl => ?_)
        refine lv_iinc (v := x3 + (1 : Int32)) (lv' := [(3, .int (x3 + (1 : Int32))), (1, .long ((j1 * ((31 : Int64))) + (Int32.toInt64 v42))), (0, .ref a0)]) hx hb dX7_digest_30 hl (k := 2) rfl rfl (by decide) rfl (fun ls hl => ?_)
        refine lv_goto (tgt := 11) hx hb dX7_digest_33 (by decide) ?_
        exact ih11 _ _ _ _ _ _ _ hF hP hS (lv_sub hl [2, 1, 0] rfl)
  unfold f7_digest at hF
  refine lv_aload_n hx hb dX7_digest_0 rfl (lv_at hl 0 rfl) ?_
  refine lv_iconst (v := 0) hx hb dX7_digest_1 (by decide) ?_
  obtain ⟨h1, hF⟩ := g_if hF
  refine g_puti hx hb hts hiX7 tyX7 tyX7_ok nmX7 hown hK hP hS 7 rfl (by decide) h1 0 (by decide) (hts (.fieldLink RX7 35 "CourierBeesModel" "thrown" "I") (by decide +kernel)) (fun _ h9 => h9) (Or.inl rfl) (Or.inl rfl) rfl rfl dX7_digest_2 (fun H locs hP hS => ?_)
  refine lv_ldc2 (v := 811) hx hb hown (hts (.constantLong RX7 172 (811)) (by decide +kernel)) dX7_digest_5 ?_
  refine lv_lstore_n (lv' := [(1, .long ((811 : Int64))), (0, .ref a0)]) hx hb dX7_digest_8 rfl hl (by decide) rfl (fun ls hl => ?_)
  refine lv_iconst (v := 0) hx hb dX7_digest_9 (by decide) ?_
  refine lv_istore_n (lv' := [(3, .int ((0 : Int32))), (1, .long ((811 : Int64))), (0, .ref a0)]) hx hb dX7_digest_10 rfl hl (by decide) rfl (fun ls hl => ?_)
  exact HL11 300 _ _ _ _ _ _ _ hF hP hS (lv_sub hl [2, 1, 0] rfl)
