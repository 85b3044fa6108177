section
section GMNA
variable {p : Program} {l : Launch} {e : Env} {R : Room} {s : State} {m : MethodId} {args : Array Value} {below : List Frame} {meth : Method} {c : Code} {H : Heap} {locs : List Loc} {cells slots : Nat} {Q : State → Prop}
variable {cc : ByteArray} {pc : Nat} {ls : Array Slot} {rest : List Value} {D : va_G} {base : Nat} {g : g_H} {a : Nat} {H0 : Heap}
/-- new int[n][k] -/
theorem g_mna (hexec : p.tables.exec = Jvm.exec) (hb : c.code = cc) {own : String} {index : Nat} (hown : s.vm.findClass own = some m.cls) (hclink : (Cond.classLink own index ("[" ++ (FieldType.array .int).toString)).before args s = true) (hover : gAOA .int s) (harr : (Cond.arrayClass .int).before args s = true)
    (hP : gP base D s g H) (hS : va_S (gA base) H0 H locs) (hbz : base ≤ H0.size) {n k : Int32} {N' K' : Nat} (hn : ¬ n < 0) (hk : ¬ k < 0) (hN : n.toNatClampNeg = N') (hM : k.toNatClampNeg = K')
    (hb1 : N' * 4 ≤ 536870912) (hb2 : K' * componentBytes .int ≤ 536870912) (hb3 : K' ≤ 536870912) (hcells : cells + (1 + N') ≤ R.cells) (hslots : slots + (N' + N' * K') ≤ R.slots) (hdg : decode cc pc = .ok (.multianewarray index 2, 4))
    (kk : ∀ (H1 : Heap), gP base D s (gM g N' K') H1 → va_S (gA base) H0 H1 locs → W p l e R s m args below meth c H1 locs (cells + 1 + N') (slots + N' + N' * K') Q (F0 m (pc + 4) ls (.ref (gZ g) :: rest))) : W p l e R s m args below meth c H locs cells slots Q (F0 m pc ls (.int k :: .int n :: rest)) := by
  subst hN
  subst hM
  have hgz := hP.1
  intro T hT Xs
  obtain ⟨vm₁, cA, comp, -, fA, fC, hO, -, X', step⟩ := Xs.multianewarray2F hexec hown hclink (gAOA.use hover) harr (g := F0 m pc ls (.int k :: .int n :: rest)) rfl (by rw [hb]; exact hdg) rfl hn hk hb1 hb2 hb3 rfl rfl hcells hslots
  generalize hF : Jvm.Free.Multi.fill (T.setVm vm₁) cA comp n.toNatClampNeg k.toNatClampNeg (defaultValue .int) n.toNatClampNeg = F at X' step
  have hTh : (T.setVm vm₁).heap = H := hT
  obtain ⟨f1, f2, -, -⟩ := Jvm.Free.Multi.fill_facts (T.setVm vm₁) cA comp n.toNatClampNeg k.toNatClampNeg (defaultValue .int) n.toNatClampNeg
  rw [hF, hTh] at f1 f2
  have hold : ∀ x : Nat, x < H.size → F.heap[x]? = H[x]? := fun x hx => by
    have := Jvm.Free.Multi.fill_old (T.setVm vm₁) cA comp n.toNatClampNeg k.toNatClampNeg (defaultValue .int) (a := x) (by rw [hTh]; exact hx) n.toNatClampNeg
    rw [hF, hTh] at this
    exact this
  have hrow : ∀ j : Nat, j < n.toNatClampNeg → F.heap[H.size + 1 + j]? = some (arrV comp k.toNatClampNeg (fun _ => .int 0)) := fun j hj => by
    have := Jvm.Free.Multi.fill_inner (T.setVm vm₁) cA comp n.toNatClampNeg k.toNatClampNeg (defaultValue .int) n.toNatClampNeg j hj
    rw [hF, hTh] at this
    rw [this, ← arrV_new]
    rfl
  have houter : ∀ i : Nat, Jvm.Free.Multi.outerC cA n.toNatClampNeg H.size i = arrV cA n.toNatClampNeg (fun j => va_rf (if j < i then some (H.size + 1 + j) else none)) := by
    intro i
    induction i with
    | zero =>
      show ({ cls := cA, slots := Array.replicate n.toNatClampNeg .null, vm := .none } : Cell) = _
      rw [arrV_new]
      refine congrArg (arrV cA n.toNatClampNeg) (funext fun j => ?_)
      simp [va_rf]
    | succ i ih =>
      show (Jvm.Free.Multi.outerC cA n.toNatClampNeg H.size i).setSlot i (.ref (H.size + 1 + i)) = _
      rw [ih, arrV_store]
      refine congrArg (arrV cA n.toNatClampNeg) (funext fun j => ?_)
      by_cases e : j = i
      · subst e
        simp [updV, va_rf]
      · by_cases h : j < i
        · simp [updV, e, h, Nat.lt_succ_of_lt h]
        · simp [updV, e, h, show ¬ j < i + 1 by omega]
  rw [houter] at f2
  have hAr : ArrOfT s cA (.array .int) := fun N9 z9 => by
    obtain ⟨-, k9, hk9, cm9, hkk9⟩ := (hO 0 0 0).1
    exact ⟨(fun q hq => by cases hq), k9, hk9, cm9, hkk9⟩
  have hArI : ArrOfT s comp .int ∧ va_RA s comp .int := by
    obtain ⟨cI, kI, cm, h1, h2, h3⟩ := Cond.arrayClass_spec harr
    have hc : comp = cI := Option.some.inj (fC.symm.trans h1)
    subst hc
    exact ⟨fun n9 z9 => ⟨(fun q hq => by cases hq), kI, h2, cm, h3⟩, h1⟩
  have hPn : gP base D s (gM g n.toNatClampNeg k.toNatClampNeg) F.heap := by
    refine ⟨by rw [f1, ← hgz]; rfl, fun b => ?_⟩
    by_cases hb0 : b < H.size
    · have hb1 : b < gZ g := by rw [hgz]; exact hb0
      have e0 : gS (gM g n.toNatClampNeg k.toNatClampNeg) b = gS g b := if_pos hb1
      rw [e0]
      exact ⟨(hP.2 b).1.kept e0 (if_pos hb1) (if_neg (by omega)) rfl (hold b hb0), (hP.2 b).2⟩
    · by_cases hb2 : b = H.size
      · subst hb2
        have e0 : gS (gM g n.toNatClampNeg k.toNatClampNeg) H.size = (14, n.toNatClampNeg) := by
          show (if H.size < gZ g then _ else if H.size = gZ g then _ else _) = _
          rw [if_neg (by omega), if_pos hgz.symm]
        have eR : gR (gM g n.toNatClampNeg k.toNatClampNeg) H.size = fun j => if j < n.toNatClampNeg then some (gZ g + 1 + j) else none := if_pos hgz.symm
        refine ⟨⟨fun h0 h1 => ?_, fun h1 => ?_⟩, fun _ => Nat.le_trans hbz hS.1⟩
        · rw [e0] at h1
          exact absurd h1 (show ¬ (14 : Nat) < 11 by decide)
        · rw [e0, eR]
          refine ⟨cA, hAr, fA, ?_⟩
          rw [f2, hgz]
          rfl
      · by_cases hb3 : b < H.size + 1 + n.toNatClampNeg
        · have e0 : gS (gM g n.toNatClampNeg k.toNatClampNeg) b = (11, k.toNatClampNeg) := by
            show (if b < gZ g then _ else if b = gZ g then _ else if b < gZ g + 1 + n.toNatClampNeg then _ else _) = _
            rw [if_neg (by omega), if_neg (by omega), if_pos (by omega)]
          have eI : gI (gM g n.toNatClampNeg k.toNatClampNeg) b = fun _ => 0 := by
            show (if b < gZ g then _ else if b < gZ g + 1 + n.toNatClampNeg then _ else _) = _
            rw [if_neg (by omega), if_pos (by omega)]
          refine ⟨⟨fun h0 h1 => ?_, fun h1 => ?_⟩, fun _ => by have := hS.1; omega⟩
          · rw [e0] at h1
            exact absurd h1 (show ¬ (11 : Nat) < 11 by decide)
          · rw [e0, eI]
            refine ⟨comp, hArI.1, hArI.2, ?_⟩
            have := hrow (b - (H.size + 1)) (by omega)
            rw [show H.size + 1 + (b - (H.size + 1)) = b by omega] at this
            rw [this]
            rfl
        · have e0 : gS (gM g n.toNatClampNeg k.toNatClampNeg) b = gS g b := by
            show (if b < gZ g then _ else if b = gZ g then _ else if b < gZ g + 1 + n.toNatClampNeg then _ else _) = _
            rw [if_neg (by omega), if_neg (by omega), if_neg (by omega)]
          have hk0 : (gS g b).1 = 0 := by
            by_cases h : (gS g b).1 = 0
            · exact h
            · exact absurd ((hP.2 b).1.lt h) hb0
          refine ⟨⟨fun h0 h1 => absurd (by rw [e0]; exact hk0) h0, fun h1 => ?_⟩, fun h => absurd (by rw [e0]; exact hk0) h⟩
          rw [e0] at h1
          omega
  obtain ⟨t, a1, b1⟩ := kk F.heap hPn (gS_push hS (by rw [f1]; omega) hold) F rfl X'
  refine ⟨t, step t ?_, b1⟩
  have e : T.heap.size = gZ g := by rw [hT, hgz]
  rw [e]
  exact a1
end GMNA
end
section
set_option maxHeartbeats 4000000 in
set_option maxRecDepth 100000 in
theorem k5_init (l : Launch) (D : va_G) (base : Nat) (g : g_H) (a0 : Nat) (gz : g_H) (hF : f5_init g a0 = some gz) : Met l yX5_init wsX5_init ({ frames := 2, cells := 42, slots := 373, locals := 42 } : Room) (va_Pc [.ref a0] (gC base D g)) (gQv base D gz) 42 373 (gA base) := by
  refine g_met (cc := cX5_init) (maxL := 3) (ret := none) (lst := [(0, .ref a0)]) (by decide) rfl (Nat.le_of_ble_eq_true rfl) rfl ?_
  intro p e s m args below meth c ls hx hb hr hml hown hlocks hname hts hE hP hl
  have hown : s.vm.findClass RX5 = some m.cls := hown
  have hK := hE.1
  have hov := hE.2.2.2.2.2.2.2.1
  have hbz := hE.2.2.2.2.2.2.2.2.2.2.2.2
  have hS : va_S (gA base) s.heap s.heap [] := va_S.rf
  have hiX2 : ∀ w ∈ wsX20, w ∈ wsX5_init := by decide +kernel
  have hiX5 : ∀ w ∈ wsX50, w ∈ wsX5_init := by decide +kernel
  have HL62 : ∀ (n62 : Nat), ∀ (g : g_H) (a0 : Nat) (x1 : Int32) (H : Heap) (locs : List Loc) (ls : Array Slot), f5_init_62 n62 g a0 x1 = some gz → gP base D s g H → va_S (gA base) s.heap H locs → lv_has ls 3 [(0, .ref a0), (1, .int x1)] → W p l e ({ frames := 2, cells := 42, slots := 373, locals := 42 } : Room) s m args below meth c H locs 42 373 (MQ below (gQv base D gz) args s 42 373 (gA base)) (F0 m 62 ls []) := by
    intro n62
    induction n62 with
    | zero => intro g a0 x1 H locs ls hF hP hS hl; exact g_no hF
    | succ n62 ih62 =>
      have HL70 : ∀ (n70 : Nat), ∀ (g : g_H) (a0 : Nat) (x1 : Int32) (x2 : Int32) (H : Heap) (locs : List Loc) (ls : Array Slot), f5_init_70 (f5_init_62 n62) n70 g a0 x1 x2 = some gz → gP base D s g H → va_S (gA base) s.heap H locs → lv_has ls 3 [(0, .ref a0), (1, .int x1), (2, .int x2)] → W p l e ({ frames := 2, cells := 42, slots := 373, locals := 42 } : Room) s m args below meth c H locs 42 373 (MQ below (gQv base D gz) args s 42 373 (gA base)) (F0 m 70 ls []) := by
        intro n70
        induction n70 with
        | zero => intro g a0 x1 x2 H locs ls hF hP hS hl; exact g_no hF
        | succ n70 ih70 =>
          have HB95 : ∀ (g : g_H) (a0 : Nat) (x1 : Int32) (x2 : Int32) (s0 : Nat) (s1 : Int32) (s2 : Int32) (H : Heap) (locs : List Loc) (ls : Array Slot), f5_init_95 (f5_init_62 n62) (f5_init_70 (f5_init_62 n62) n70) g a0 x1 x2 s0 s1 s2 = some gz → gP base D s g H → va_S (gA base) s.heap H locs → lv_has ls 3 [(0, .ref a0), (1, .int x1), (2, .int x2)] → W p l e ({ frames := 2, cells := 42, slots := 373, locals := 42 } : Room) s m args below meth c H locs 42 373 (MQ below (gQv base D gz) args s 42 373 (gA base)) (F0 m 95 ls [.int s2, .int s1, .ref s0]) := by
            intro g a0 x1 x2 s0 s1 s2 H locs ls hF hP hS hl
            unfold f5_init_95 at hF
            obtain ⟨h25, hF⟩ := g_if hF
            obtain ⟨h26, hF⟩ := g_if hF
            refine g_iast hx hb hP hS (g_pr h25) h26 dX5_init_95 (fun H locs hP hS => ?_)
            refine lv_iinc (v := x2 + (1 : Int32)) (lv' := [(2, .int (x2 + (1 : Int32))), (0, .ref a0), (1, .int x1)]) hx hb dX5_init_96 hl (k := 2) rfl rfl (by decide) rfl (fun ls hl => ?_)
            refine lv_goto (tgt := 70) hx hb dX5_init_99 (by decide) ?_
            exact ih70 _ _ _ _ _ _ _ hF hP hS (lv_sub hl [1, 2, 0] rfl)
          intro g a0 x1 x2 H locs ls hF hP hS hl
          have hF : f5_init_70b (f5_init_62 n62) (f5_init_70 (f5_init_62 n62) n70) g a0 x1 x2 = some gz := hF
          unfold f5_init_70b at hF
          refine lv_iload_n hx hb dX5_init_70 rfl (lv_at hl 2 rfl) ?_
          refine lv_bipush (v := 14) hx hb dX5_init_71 (by decide) ?_
          refine lv_icmp_ge (tgt := 102) hx hb dX5_init_73 (by decide) (fun c16 => ?_) (fun c16 => ?_)
          · have hF := g_t c16 hF
            refine lv_iinc (v := x1 + (1 : Int32)) (lv' := [(1, .int (x1 + (1 : Int32))), (0, .ref a0), (2, .int x2)]) hx hb dX5_init_102 hl (k := 1) rfl rfl (by decide) rfl (fun ls hl => ?_)
            refine lv_goto (tgt := 62) hx hb dX5_init_105 (by decide) ?_
            exact ih62 _ _ _ _ _ _ hF hP hS (lv_sub hl [1, 0] rfl)
          · have hF := g_f c16 hF
            refine lv_aload_n hx hb dX5_init_76 rfl (lv_at hl 0 rfl) ?_
            obtain ⟨h17, hF⟩ := g_if hF
            obtain ⟨q18, hq19, hF⟩ := g_bind hF
            refine g_get hx hb hts hiX5 hown hK hP 5 rfl (by decide) h17 4 (by decide) (hts (.fieldLink RX5 24 "CourierBees$Town" "ways" "[[I") (by decide +kernel)) (fun _ h9 => h9) ((gFv_r (by decide)).trans (congrArg va_rf hq19)) dX5_init_77 ?_
            refine lv_iload_n hx hb dX5_init_80 rfl (lv_at hl 1 rfl) ?_
            obtain ⟨h20, hF⟩ := g_if hF
            obtain ⟨h21, hF⟩ := g_if hF
            obtain ⟨q22, hq23, hF⟩ := g_bind hF
            refine g_aald hx hb hP (g_pr h20) (by decide) h21 hq23 dX5_init_81 ?_
            refine lv_iload_n hx hb dX5_init_82 rfl (lv_at hl 2 rfl) ?_
            refine lv_iload_n hx hb dX5_init_83 rfl (lv_at hl 1 rfl) ?_
            refine lv_iload_n hx hb dX5_init_84 rfl (lv_at hl 2 rfl) ?_
            refine lv_icmp_ne (tgt := 92) hx hb dX5_init_85 (by decide) (fun c24 => ?_) (fun c24 => ?_)
            · have hF := g_f c24 hF
              refine lv_sipush (v := 1000) hx hb dX5_init_92 (by decide) ?_
              exact HB95 _ _ _ _ _ _ _ _ _ _ hF hP hS (lv_sub hl [0, 1, 2] rfl)
            · have hF := g_t c24 hF
              refine lv_iconst (v := 0) hx hb dX5_init_88 (by decide) ?_
              refine lv_goto (tgt := 95) hx hb dX5_init_89 (by decide) ?_
              exact HB95 _ _ _ _ _ _ _ _ _ _ hF hP hS (lv_sub hl [0, 1, 2] rfl)
      intro g a0 x1 H locs ls hF hP hS hl
      have hF : f5_init_62b (f5_init_62 n62) g a0 x1 = some gz := hF
      unfold f5_init_62b at hF
      refine lv_iload_n hx hb dX5_init_62 rfl (lv_at hl 1 rfl) ?_
      refine lv_bipush (v := 14) hx hb dX5_init_63 (by decide) ?_
      refine lv_icmp_ge (tgt := 108) hx hb dX5_init_65 (by decide) (fun c15 => ?_) (fun c15 => ?_)
      · have hF := g_t c15 hF
        exact g_retV hx hb hr hlocks hF hP hS (Nat.le_of_ble_eq_true rfl) (Nat.le_of_ble_eq_true rfl) dX5_init_108
      · have hF := g_f c15 hF
        refine lv_iconst (v := 0) hx hb dX5_init_68 (by decide) ?_
        refine lv_istore_n (lv' := [(2, .int ((0 : Int32))), (0, .ref a0), (1, .int x1)]) hx hb dX5_init_69 rfl hl (by decide) rfl (fun ls hl => ?_)
        exact HL70 300 _ _ _ _ _ _ _ hF hP hS (lv_sub hl [1, 2, 0] rfl)
  have HL23 : ∀ (n23 : Nat), n23 ≤ 25 → ∀ (g : g_H) (a0 : Nat) (x1 : Int32) (H : Heap) (locs : List Loc) (ls : Array Slot), f5_init_23 n23 g a0 x1 = some gz → gP base D s g H → va_S (gA base) s.heap H locs → lv_has ls 3 [(0, .ref a0), (1, .int x1)] → W p l e ({ frames := 2, cells := 42, slots := 373, locals := 42 } : Room) s m args below meth c H locs (2 + (25 - n23) * 1) (38 + (25 - n23) * 5) (MQ below (gQv base D gz) args s 42 373 (gA base)) (F0 m 23 ls []) := by
    intro n23
    induction n23 with
    | zero => intro hle23 g a0 x1 H locs ls hF hP hS hl; exact g_no hF
    | succ n23 ih23 =>
      intro hle23
      intro g a0 x1 H locs ls hF hP hS hl
      have hF : f5_init_23b (f5_init_23 n23) g a0 x1 = some gz := hF
      unfold f5_init_23b at hF
      refine lv_iload_n hx hb dX5_init_23 rfl (lv_at hl 1 rfl) ?_
      refine lv_bipush (v := 24) hx hb dX5_init_24 (by decide) ?_
      refine lv_icmp_ge (tgt := 48) hx hb dX5_init_26 (by decide) (fun c13 => ?_) (fun c13 => ?_)
      · have hF := g_t c13 hF
        refine W.widen (k := 27) (n := 163) (by omega) (by omega) ?_
        refine lv_aload_n hx hb dX5_init_48 rfl (lv_at hl 0 rfl) ?_
        refine lv_bipush (v := 14) hx hb dX5_init_49 (by decide) ?_
        refine lv_bipush (v := 14) hx hb dX5_init_51 (by decide) ?_
        refine g_mna hx hb hown (hts (.classLink RX5 22 "[[I") (by decide +kernel)) hov (hts (.arrayClass .int) (by decide +kernel)) hP hS hbz (n := 14) (k := 14) (N' := 14) (K' := 14) (by decide) (by decide) (by decide) (by decide) (Nat.le_of_ble_eq_true rfl) (Nat.le_of_ble_eq_true rfl) (Nat.le_of_ble_eq_true rfl) (Nat.le_of_ble_eq_true rfl) (Nat.le_of_ble_eq_true rfl) dX5_init_53 (fun H hP hS => ?_)
        refine W.widen (k := 42) (n := 373) (by omega) (by omega) ?_
        obtain ⟨h14, hF⟩ := g_if hF
        refine g_putr hx hb hts hiX5 tyX5 tyX5_ok nmX5 hown hK hP hS 5 rfl (by decide) h14 4 (by decide) (hts (.fieldLink RX5 24 "CourierBees$Town" "ways" "[[I") (by decide +kernel)) (fun _ h9 => h9) (Or.inr ⟨rfl, hname, rfl⟩) (by decide) rfl rfl dX5_init_57 (fun H locs hP hS => ?_)
        refine lv_iconst (v := 0) hx hb dX5_init_60 (by decide) ?_
        refine lv_istore_n (lv' := [(1, .int ((0 : Int32))), (0, .ref a0)]) hx hb dX5_init_61 rfl hl (by decide) rfl (fun ls hl => ?_)
        exact HL62 300 _ _ _ _ _ _ hF hP hS (lv_sub hl [1, 0] rfl)
      · have hF := g_f c13 hF
        refine lv_aload_n hx hb dX5_init_29 rfl (lv_at hl 0 rfl) ?_
        obtain ⟨h27, hF⟩ := g_if hF
        obtain ⟨q28, hq29, hF⟩ := g_bind hF
        refine g_get hx hb hts hiX5 hown hK hP 5 rfl (by decide) h27 3 (by decide) (hts (.fieldLink RX5 17 "CourierBees$Town" "lanes" "[LCourierBees$Lane;") (by decide +kernel)) (fun _ h9 => h9) ((gFv_r (by decide)).trans (congrArg va_rf hq29)) dX5_init_30 ?_
        refine lv_iload_n hx hb dX5_init_33 rfl (lv_at hl 1 rfl) ?_
        obtain ⟨q30, g31, e32, e33, h34, hF⟩ := g_nw hF
        refine g_new hx hb hts hiX2 tyX2 tyX2_ok hown (hts (.classLink RX5 15 RX2) (by decide +kernel)) (hts (.instantiable RX2 5) (by decide +kernel)) (hts (.initialized RX2) (by decide +kernel)) hK hP hS hbz 2 rfl (by decide) dfX2 (by show _ ≤ (42 : Nat); omega) (by show _ ≤ (373 : Nat); omega) dX5_init_34 (fun H hP hS => ?_)
        rw [e33] at hP
        rw [e32]
        refine lv_dup hx hb dX5_init_37 rfl ?_
        obtain ⟨g36, h35, hF⟩ := g_bind hF
        refine g_callv (va_runIN (As := []) (rest := [.ref q30, .int x1, .ref q28]) ⟨hx, hb, hml, hown, hts⟩ (k2_init l D base g31 q30 g36 h35) ⟨va_cnB 0 hts gX5_init_X2_init_n21 rfl rfl rfl (hE.2.2.2.2.2.2.2.2.2.2.2.1 (RX5, 21, yX2_init) (by decide)) (hts (.initialized RX2) (by decide +kernel)) (by decide +kernel) ⟨Nat.le_of_ble_eq_true rfl, Nat.le_of_ble_eq_true rfl⟩, rfl, hts (.instanceMethod yX2_init) (by decide +kernel)⟩ (gC.preS hE hP hS (.ref q30 :: [])) rfl rfl hl.1 rfl (lv_room (Nat.le_of_ble_eq_true rfl)) dX5_init_38 ⟨(by show _ ≤ (42 : Nat); omega), (by show _ ≤ (373 : Nat); omega)⟩) hS (fun H locs hP hS => ?_)
        obtain ⟨h38, hF⟩ := g_if hF
        obtain ⟨h39, hF⟩ := g_if hF
        obtain ⟨h40, hF⟩ := g_if hF
        refine g_aast hx hb hK hP hS (g_pr h38) (by decide) 2 rfl rfl (by decide) h40 h39 dX5_init_41 (fun H locs hP hS => ?_)
        refine lv_iinc (v := x1 + (1 : Int32)) (lv' := [(1, .int (x1 + (1 : Int32))), (0, .ref a0)]) hx hb dX5_init_42 hl (k := 1) rfl rfl (by decide) rfl (fun ls hl => ?_)
        refine lv_goto (tgt := 23) hx hb dX5_init_45 (by decide) ?_
        refine W.widen (k := 2 + (25 - n23) * 1) (n := 38 + (25 - n23) * 5) (by omega) (by omega) ?_
        exact ih23 (by omega) _ _ _ _ _ _ hF hP hS (lv_sub hl [1, 0] rfl)
  unfold f5_init at hF
  refine lv_aload_n hx hb dX5_init_0 rfl (lv_at hl 0 rfl) ?_
  refine W.objInit hx hb hown (hts (.methodLink RX5 3 objectInit) (by decide +kernel)) (hts (.instanceMethod objectInit) (by decide +kernel)) (hts (.code objectInit ⟨#[0xb1]⟩ 1 none) (by decide +kernel)) rfl (by rw [hml]; exact hl.1) rfl dX5_init_1 (Nat.le_of_ble_eq_true rfl) (Nat.le_of_ble_eq_true rfl) ?_
  refine W.eq (g2 := F0 m 4 ls []) rfl ?_
  refine lv_aload_n hx hb dX5_init_4 rfl (lv_at hl 0 rfl) ?_
  refine lv_bipush (v := 14) hx hb dX5_init_5 (by decide) ?_
  obtain ⟨q1, g2, e3, e4, h5, hF⟩ := g_nw hF
  refine g_newa (atype := .boolean) hx hb (hts (.arrayClass .boolean) (by decide +kernel)) 12 rfl (by decide) rfl hP hS hbz (n := 14) (N' := 14) (by decide) (by decide) (Nat.le_of_ble_eq_true rfl) (Nat.le_of_ble_eq_true rfl) (Nat.le_of_ble_eq_true rfl) dX5_init_7 (fun H hP hS => ?_)
  rw [e4] at hP
  rw [e3]
  obtain ⟨h6, hF⟩ := g_if hF
  refine g_putr hx hb hts hiX5 tyX5 tyX5_ok nmX5 hown hK hP hS 5 rfl (by decide) h6 2 (by decide) (hts (.fieldLink RX5 9 "CourierBees$Town" "hives" "[Z") (by decide +kernel)) (fun _ h9 => h9) (Or.inr ⟨rfl, hname, rfl⟩) (by decide) rfl rfl dX5_init_9 (fun H locs hP hS => ?_)
  refine lv_aload_n hx hb dX5_init_12 rfl (lv_at hl 0 rfl) ?_
  refine lv_bipush (v := 24) hx hb dX5_init_13 (by decide) ?_
  obtain ⟨q7, g8, e9, e10, h11, hF⟩ := g_nw hF
  refine g_newq hx hb hown (hts (.classLink RX5 15 "CourierBees$Lane") (by decide +kernel)) hE.2.2.2.2.2.1 16 rfl (by decide) hP hS hbz (n := 24) (N' := 24) (by decide) (by decide) (Nat.le_of_ble_eq_true rfl) (Nat.le_of_ble_eq_true rfl) (Nat.le_of_ble_eq_true rfl) dX5_init_15 (fun H hP hS => ?_)
  rw [e10] at hP
  rw [e9]
  obtain ⟨h12, hF⟩ := g_if hF
  refine g_putr hx hb hts hiX5 tyX5 tyX5_ok nmX5 hown hK hP hS 5 rfl (by decide) h12 3 (by decide) (hts (.fieldLink RX5 17 "CourierBees$Town" "lanes" "[LCourierBees$Lane;") (by decide +kernel)) (fun _ h9 => h9) (Or.inr ⟨rfl, hname, rfl⟩) (by decide) rfl rfl dX5_init_18 (fun H locs hP hS => ?_)
  refine lv_iconst (v := 0) hx hb dX5_init_21 (by decide) ?_
  refine lv_istore_n (lv' := [(1, .int ((0 : Int32))), (0, .ref a0)]) hx hb dX5_init_22 rfl hl (by decide) rfl (fun ls hl => ?_)
  refine W.widen (k := 2 + (25 - 25) * 1) (n := 38 + (25 - 25) * 5) (by omega) (by omega) ?_
  exact HL23 25 (Nat.le_refl _) _ _ _ _ _ _ hF hP hS (lv_sub hl [1, 0] rfl)
set_option maxHeartbeats 4000000 in
set_option maxRecDepth 100000 in
theorem k6_init (l : Launch) (D : va_G) (base : Nat) (g : g_H) (a0 : Nat) (gz : g_H) (hF : f6_init g a0 = some gz) : Met l yX6_init wsX6_init ({ frames := 4, cells := 167, slots := 1286, locals := 85 } : Room) (va_Pc [.ref a0] (gC base D g)) (gQv base D gz) 167 1286 (gA base) := by
  refine g_met (cc := cX6_init) (maxL := 1) (ret := none) (lst := [(0, .ref a0)]) (by decide) rfl (Nat.le_of_ble_eq_true rfl) rfl ?_
  intro p e s m args below meth c ls hx hb hr hml hown hlocks hname hts hE hP hl
  have hown : s.vm.findClass RX6 = some m.cls := hown
  have hK := hE.1
  have hov := hE.2.2.2.2.2.2.2.1
  have hbz := hE.2.2.2.2.2.2.2.2.2.2.2.2
  have hS : va_S (gA base) s.heap s.heap [] := va_S.rf
  have hiX1 : ∀ w ∈ wsX10, w ∈ wsX6_init := by decide +kernel
  have hiX4 : ∀ w ∈ wsX40, w ∈ wsX6_init := by decide +kernel
  have hiX5 : ∀ w ∈ wsX50, w ∈ wsX6_init := by decide +kernel
  have hiX6 : ∀ w ∈ wsX60, w ∈ wsX6_init := by decide +kernel
  unfold f6_init at hF
  refine lv_aload_n hx hb dX6_init_0 rfl (lv_at hl 0 rfl) ?_
  refine W.objInit hx hb hown (hts (.methodLink RX6 1 objectInit) (by decide +kernel)) (hts (.instanceMethod objectInit) (by decide +kernel)) (hts (.code objectInit ⟨#[0xb1]⟩ 1 none) (by decide +kernel)) rfl (by rw [hml]; exact hl.1) rfl dX6_init_1 (Nat.le_of_ble_eq_true rfl) (Nat.le_of_ble_eq_true rfl) ?_
  refine W.eq (g2 := F0 m 4 ls []) rfl ?_
  refine lv_aload_n hx hb dX6_init_4 rfl (lv_at hl 0 rfl) ?_
  obtain ⟨q1, g2, e3, e4, h5, hF⟩ := g_nw hF
  refine g_new hx hb hts hiX5 tyX5 tyX5_ok hown (hts (.classLink RX6 7 RX5) (by decide +kernel)) (hts (.instantiable RX5 5) (by decide +kernel)) (hts (.initialized RX5) (by decide +kernel)) hK hP hS hbz 5 rfl (by decide) dfX5 (Nat.le_of_ble_eq_true rfl) (Nat.le_of_ble_eq_true rfl) dX6_init_5 (fun H hP hS => ?_)
  rw [e4] at hP
  rw [e3]
  refine lv_dup hx hb dX6_init_8 rfl ?_
  obtain ⟨g7, h6, hF⟩ := g_bind hF
  refine g_callv (va_runI (As := []) (rest := [.ref q1, .ref a0]) ⟨hx, hb, hml, hown, hts⟩ (k5_init l D base g2 q1 g7 h6) (cwI 0 hts gX6_init_X5_init rfl rfl rfl (hts (.initialized RX5) (by decide +kernel)) (hts (.methodLink RX6 9 yX5_init) (by decide +kernel)) (hts (.instanceMethod yX5_init) (by decide +kernel)) rfl (by decide +kernel) ⟨Nat.le_of_ble_eq_true rfl, Nat.le_of_ble_eq_true rfl⟩) (gC.preS hE hP hS (.ref q1 :: [])) rfl rfl hl.1 rfl (lv_room (Nat.le_of_ble_eq_true rfl)) dX6_init_9 ⟨(Nat.le_of_ble_eq_true rfl), (Nat.le_of_ble_eq_true rfl)⟩) hS (fun H locs hP hS => ?_)
  obtain ⟨h9, hF⟩ := g_if hF
  refine g_putr hx hb hts hiX6 tyX6 tyX6_ok nmX6 hown hK hP hS 6 rfl (by decide) h9 0 (by decide) (hts (.fieldLink RX6 10 "CourierBees" "town" "LCourierBees$Town;") (by decide +kernel)) (fun _ h9 => h9) (Or.inr ⟨rfl, hname, rfl⟩) (by decide) rfl rfl dX6_init_12 (fun H locs hP hS => ?_)
  refine lv_aload_n hx hb dX6_init_15 rfl (lv_at hl 0 rfl) ?_
  obtain ⟨q10, g11, e12, e13, h14, hF⟩ := g_nw hF
  refine g_new hx hb hts hiX1 tyX1 tyX1_ok hown (hts (.classLink RX6 16 RX1) (by decide +kernel)) (hts (.instantiable RX1 8) (by decide +kernel)) (hts (.initialized RX1) (by decide +kernel)) hK hP hS hbz 1 rfl (by decide) dfX1 (Nat.le_of_ble_eq_true rfl) (Nat.le_of_ble_eq_true rfl) dX6_init_16 (fun H hP hS => ?_)
  rw [e13] at hP
  rw [e12]
  refine lv_dup hx hb dX6_init_19 rfl ?_
  refine lv_aload_n hx hb dX6_init_20 rfl (lv_at hl 0 rfl) ?_
  obtain ⟨h15, hF⟩ := g_if hF
  obtain ⟨q16, hq17, hF⟩ := g_bind hF
  refine g_get hx hb hts hiX6 hown hK hP 6 rfl (by decide) h15 0 (by decide) (hts (.fieldLink RX6 10 "CourierBees" "town" "LCourierBees$Town;") (by decide +kernel)) (fun _ h9 => h9) ((gFv_r (by decide)).trans (congrArg va_rf hq17)) dX6_init_21 ?_
  obtain ⟨g19, h18, hF⟩ := g_bind hF
  refine g_callv (va_runI (As := [.ref q16]) (rest := [.ref q10, .ref a0]) ⟨hx, hb, hml, hown, hts⟩ (k1_init l D base g11 q10 q16 g19 h18) (cwI 1 hts gX6_init_X1_init rfl rfl rfl (hts (.initialized RX1) (by decide +kernel)) (hts (.methodLink RX6 18 yX1_init) (by decide +kernel)) (hts (.instanceMethod yX1_init) (by decide +kernel)) rfl (by decide +kernel) ⟨Nat.le_of_ble_eq_true rfl, Nat.le_of_ble_eq_true rfl⟩) (gC.preS hE hP hS (.ref q10 :: [.ref q16])) rfl rfl hl.1 rfl (lv_room (Nat.le_of_ble_eq_true rfl)) dX6_init_24 ⟨(Nat.le_of_ble_eq_true rfl), (Nat.le_of_ble_eq_true rfl)⟩) hS (fun H locs hP hS => ?_)
  obtain ⟨h21, hF⟩ := g_if hF
  refine g_putr hx hb hts hiX6 tyX6 tyX6_ok nmX6 hown hK hP hS 6 rfl (by decide) h21 1 (by decide) (hts (.fieldLink RX6 21 "CourierBees" "now" "LCourierBees$Flight;") (by decide +kernel)) (fun _ h9 => h9) (Or.inr ⟨rfl, hname, rfl⟩) (by decide) rfl rfl dX6_init_27 (fun H locs hP hS => ?_)
  refine lv_aload_n hx hb dX6_init_30 rfl (lv_at hl 0 rfl) ?_
  obtain ⟨q22, g23, e24, e25, h26, hF⟩ := g_nw hF
  refine g_new hx hb hts hiX1 tyX1 tyX1_ok hown (hts (.classLink RX6 16 RX1) (by decide +kernel)) (hts (.instantiable RX1 8) (by decide +kernel)) (hts (.initialized RX1) (by decide +kernel)) hK hP hS hbz 1 rfl (by decide) dfX1 (Nat.le_of_ble_eq_true rfl) (Nat.le_of_ble_eq_true rfl) dX6_init_31 (fun H hP hS => ?_)
  rw [e25] at hP
  rw [e24]
  refine lv_dup hx hb dX6_init_34 rfl ?_
  refine lv_aload_n hx hb dX6_init_35 rfl (lv_at hl 0 rfl) ?_
  obtain ⟨h27, hF⟩ := g_if hF
  obtain ⟨q28, hq29, hF⟩ := g_bind hF
  refine g_get hx hb hts hiX6 hown hK hP 6 rfl (by decide) h27 0 (by decide) (hts (.fieldLink RX6 10 "CourierBees" "town" "LCourierBees$Town;") (by decide +kernel)) (fun _ h9 => h9) ((gFv_r (by decide)).trans (congrArg va_rf hq29)) dX6_init_36 ?_
  obtain ⟨g31, h30, hF⟩ := g_bind hF
  refine g_callv (va_runI (As := [.ref q28]) (rest := [.ref q22, .ref a0]) ⟨hx, hb, hml, hown, hts⟩ (k1_init l D base g23 q22 q28 g31 h30) (cwI 1 hts gX6_init_X1_init rfl rfl rfl (hts (.initialized RX1) (by decide +kernel)) (hts (.methodLink RX6 18 yX1_init) (by decide +kernel)) (hts (.instanceMethod yX1_init) (by decide +kernel)) rfl (by decide +kernel) ⟨Nat.le_of_ble_eq_true rfl, Nat.le_of_ble_eq_true rfl⟩) (gC.preS hE hP hS (.ref q22 :: [.ref q28])) rfl rfl hl.1 rfl (lv_room (Nat.le_of_ble_eq_true rfl)) dX6_init_39 ⟨(Nat.le_of_ble_eq_true rfl), (Nat.le_of_ble_eq_true rfl)⟩) hS (fun H locs hP hS => ?_)
  obtain ⟨h33, hF⟩ := g_if hF
  refine g_putr hx hb hts hiX6 tyX6 tyX6_ok nmX6 hown hK hP hS 6 rfl (by decide) h33 2 (by decide) (hts (.fieldLink RX6 25 "CourierBees" "ahead" "LCourierBees$Flight;") (by decide +kernel)) (fun _ h9 => h9) (Or.inr ⟨rfl, hname, rfl⟩) (by decide) rfl rfl dX6_init_42 (fun H locs hP hS => ?_)
  refine lv_aload_n hx hb dX6_init_45 rfl (lv_at hl 0 rfl) ?_
  obtain ⟨q34, g35, e36, e37, h38, hF⟩ := g_nw hF
  refine g_new hx hb hts hiX4 tyX4 tyX4_ok hown (hts (.classLink RX6 28 RX4) (by decide +kernel)) (hts (.instantiable RX4 4) (by decide +kernel)) (hts (.initialized RX4) (by decide +kernel)) hK hP hS hbz 4 rfl (by decide) dfX4 (Nat.le_of_ble_eq_true rfl) (Nat.le_of_ble_eq_true rfl) dX6_init_46 (fun H hP hS => ?_)
  rw [e37] at hP
  rw [e36]
  refine lv_dup hx hb dX6_init_49 rfl ?_
  obtain ⟨g40, h39, hF⟩ := g_bind hF
  refine g_callv (va_runI (As := []) (rest := [.ref q34, .ref a0]) ⟨hx, hb, hml, hown, hts⟩ (k4_init l D base g35 q34 g40 h39) (cwI 0 hts gX6_init_X4_init rfl rfl rfl (hts (.initialized RX4) (by decide +kernel)) (hts (.methodLink RX6 30 yX4_init) (by decide +kernel)) (hts (.instanceMethod yX4_init) (by decide +kernel)) rfl (by decide +kernel) ⟨Nat.le_of_ble_eq_true rfl, Nat.le_of_ble_eq_true rfl⟩) (gC.preS hE hP hS (.ref q34 :: [])) rfl rfl hl.1 rfl (lv_room (Nat.le_of_ble_eq_true rfl)) dX6_init_50 ⟨(Nat.le_of_ble_eq_true rfl), (Nat.le_of_ble_eq_true rfl)⟩) hS (fun H locs hP hS => ?_)
  obtain ⟨h42, hF⟩ := g_if hF
  refine g_putr hx hb hts hiX6 tyX6 tyX6_ok nmX6 hown hK hP hS 6 rfl (by decide) h42 3 (by decide) (hts (.fieldLink RX6 31 "CourierBees" "draft" "LCourierBees$Route;") (by decide +kernel)) (fun _ h9 => h9) (Or.inr ⟨rfl, hname, rfl⟩) (by decide) rfl rfl dX6_init_53 (fun H locs hP hS => ?_)
  exact g_retV hx hb hr hlocks hF hP hS (Nat.le_of_ble_eq_true rfl) (Nat.le_of_ble_eq_true rfl) dX6_init_56
end
