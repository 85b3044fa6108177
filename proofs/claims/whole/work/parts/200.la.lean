section
/-! THE LAW'S HELPERS: calls that are caught; what a helper answers -/
theorem g_lmet {l : Launch} {y : MethodName} {ws ws' : List Cond} {rm : Room} {av : List Value} {Qc : Array Value → State → Outcome → State → Prop} {mc ms : Nat} {free : Addr → Prop} {cc : ByteArray} {maxL : Nat} {ret : Option FieldType} {hh : List (Nat × Nat × Nat × Nat)} {base : Nat} {D : va_G} {g : g_H} {lst : List (Nat × Value)}
    (hy : plainName y.cls = true) (hw : ws = Cond.codeWith y cc maxL ret hh :: ws') (hn : (lg_sl av).length ≤ maxL) (hlst : lv_args 0 av = lst)
    (body : ∀ (p : Program) (e : Env) (s : State) (m : MethodId) (args : Array Value) (below : List Frame) (meth : Method) (c : Code) (ls : Array Slot), p.tables.exec = Jvm.exec → c.code = cc → meth.sig.returnType = ret → c.maxLocals = maxL → s.vm.findClass y.cls = some m.cls → meth.locks = false → meth.name = y.name → (∀ w ∈ ws, w.before args s = true) → gE base D s s.heap → gP base D s g s.heap → lv_has ls maxL lst → c.exceptionTable.toList = tableOf hh →
      W p l e rm s m args below meth c s.heap [] 0 0 (MQ below Qc args s mc ms free) (F0 m 0 ls [])) : Met l y ws rm (va_Pc av (gC base D g)) Qc mc ms free := by
  refine MetFree.of_bodyS (code := cc) (maxLocals := maxL) (ret := ret) hy ?_ ?_
  · intro args s m h hn
    obtain ⟨m9, meth, c, hn9, h1, h2, h3, h4, -, h5, h6, -⟩ := Cond.codeWith_spec (atoms_spec (ws := ws) h _ (by rw [hw]; exact List.mem_cons_self))
    cases hn.symm.trans hn9
    exact ⟨meth, c, h1, h2, h3, h4, h5, h6⟩
  · intro p e s m args below meth c s₁ B hml hv _
    have hh0 : s₁.heap = s.heap := by rw [B.state]; rfl
    obtain ⟨rfl, hE, hP⟩ := hv
    have hts : ∀ w ∈ ws, w.before av.toArray s = true := atoms_spec (ws := ws) B.pre
    have ht : c.exceptionTable.toList = tableOf hh := vx_table (x := y) B (hts (Cond.codeWith y cc maxL ret hh) (by rw [hw]; exact List.mem_cons_self))
    have hl := lv_entry av hn
    rw [hlst] at hl
    have K : W p l e rm s m av.toArray below meth c s₁.heap [] 0 0 (MQ below Qc av.toArray s mc ms free) (entryFrame m av.toArray maxL) := by
      rw [hh0, lg_entry_eq]
      exact body p e s m _ below meth c _ B.exec B.bytes B.returns hml (findClass_of_methodNamed B.named) B.notSynchronized (name_of_methodNamed B.named B.method).1 hts hE hP hl ht
    obtain ⟨t, a1, o, b1, b2, b3⟩ := K s₁ rfl (Stand.of_body B)
    exact ⟨t, o, a1, b1, b2, ⟨b3.1, b3.2⟩⟩
section GLH
variable {p : Program} {l : Launch} {e : Env} {R : Room} {s : State} {m : MethodId} {args : Array Value} {below : List Frame} {meth : Method} {c : Code} {H : Heap} {locs : List Loc} {cells slots : Nat} {Q : State → Prop}
variable {cc : ByteArray} {pc : Nat} {ls : Array Slot} {st0 rest : List Value} {D : va_G} {base : Nat} {g g1 : g_H} {mc ms : Nat}
theorem g_ccalli {o : Nat × Int32} {av : Array Value} (hr : vx_Run p l e R s m args below meth c H locs cells slots mc ms (F0 m pc ls st0) rest (gXi base D o g1 av) (gX base D o g1) (gA base)) (hS : va_S (gA base) s.heap H locs)
    (kx : ∀ (ce : Cell) (q9 : Addr) (z : Nat) (H1 : Heap) (locs1 : List Loc), o.1 ≠ 0 → o.1 ≤ 3 → H.size ≤ z → gP base D s (gZset g1 z) H1 → va_S (gA base) s.heap H1 locs1 → H1[q9]? = some ce → ce.vm = .none → s.vm.findClass (gEx o.1) = some ce.cls → vx_W p l e R s m args below meth c H1 locs1 (cells + mc) (slots + ms) Q (F0 m pc ls rest) q9)
    (kk : ∀ (r : Int32) (H1 : Heap) (locs1 : List Loc), o = (0, r) → gP base D s g1 H1 → va_S (gA base) s.heap H1 locs1 → W p l e R s m args below meth c H1 locs1 (cells + mc) (slots + ms) Q (F0 m (pc + 3) ls (.int r :: rest))) : W p l e R s m args below meth c H locs cells slots Q (F0 m pc ls st0) := by
  refine vx_calli hr hS (fun _ _ h => h) (fun _ h => h) (fun _ _ h => h) (fun E ce q9 u t H1 locs1 ht1 hvm hw hB hz hk hS1 hce hcv hcl => ?_) (fun r' u t H1 locs1 ht1 hvm hw hB _ _ hS1 => ?_)
  · obtain ⟨hE, hB⟩ := hB
    subst hE
    have hB : gP base D t (gZset g1 u) t.heap := hB
    have hu : u = t.heap.size := hB.1
    exact kx ce q9 u H1 locs1 hw.1 hw.2 (by rw [hu, ht1]; exact hz) (ht1 ▸ gP.moved hvm.symm hB) hS1 hce hcv hcl
  · obtain ⟨h1, rfl⟩ := hw
    exact kk r' H1 locs1 h1 (ht1 ▸ gP.moved hvm.symm hB) hS1
theorem g_pret {post : Int32 → g_H → Prop} {r : Int32} (hp : post r g1) (hexec : p.tables.exec = Jvm.exec) (hb : c.code = cc) (hr : meth.sig.returnType = some .int) (hlocks : meth.locks = false) (hP : gP base D s g1 H) (hS : va_S (gA base) s.heap H locs) (hc : cells ≤ mc) (hs : slots ≤ ms) (hdg : decode cc pc = .ok (.ireturn, 1)) : W p l e R s m args below meth c H locs cells slots (MQ below (va_Qi post (gB base D) (gA base)) args s mc ms (gA base)) (F0 m pc ls [.int r]) :=
  W.widen hc hs (W.iret hexec hb hr (fun t ht hW => ⟨⟨r, g1, rfl, hp, by rw [gB, ht]; exact hP.moved hW.alike⟩, hS.F ht⟩) hS.2.2 hdg)
/-- a call whose answer is one of many -/
theorem g_callp {post : Int32 → g_H → Prop} {av : Array Value} (hr : va_Run p l e R s m args below meth c H locs cells slots mc ms (F0 m pc ls st0) rest (va_Qi post (gB base D) (gA base) av) (gA base)) (hS : va_S (gA base) s.heap H locs)
    (kk : ∀ (r : Int32) (g1 : g_H) (H1 : Heap) (locs1 : List Loc), post r g1 → gP base D s g1 H1 → va_S (gA base) s.heap H1 locs1 → W p l e R s m args below meth c H1 locs1 (cells + mc) (slots + ms) Q (F0 m (pc + 3) ls (.int r :: rest))) : W p l e R s m args below meth c H locs cells slots Q (F0 m pc ls st0) :=
  va_calli hr hS (fun _ _ h => h) (fun _ h => h) (fun r' u t H1 locs1 ht hvm hw hB _ _ hS1 => kk r' u H1 locs1 hw (ht ▸ gP.moved hvm.symm hB) hS1)
end GLH
/-- a helper's answer: 0 and the value laid down, or the code of what was thrown -/
def hp (cm : Nat → Nat) (g g1 : g_H) (ou k : Nat) (w : Int64) (r : Int32) (g' : g_H) : Prop := (k = 0 ∧ r = 0 ∧ g' = gPJ g1 ou 0 w) ∨ (k ≠ 0 ∧ r = nI (cm k) ∧ ∃ z, gZ g ≤ z ∧ g' = gZset g1 z)
end
section
/-! THE LAW'S HELPERS: their contracts (printed by genlh.py) -/
set_option maxHeartbeats 4000000 in
set_option maxRecDepth 100000 in
theorem hL_addHouse (l : Launch) (hst : l.stackTraces = false) (D : va_G) (base : Nat) (g : g_H) (a0 ou no : Nat) (o : Nat × Int32) (g1 : g_H) (hF : f6_addHouse g a0 = some (o, g1)) (hk : (gS g a0).1 = 7) (ho : gS g1 ou = (13, no)) (hno : 0 < no) (hc : o.1 = 0 ∨ o.1 = 3) : Met l yL_addHouse wsL_addHouse ({ frames := 7, cells := 1, slots := 6, locals := 110 } : Room) (va_Pc [.ref a0, .ref ou] (gC base D g)) (va_Qi (hp c1 g g1 ou o.1 (Int32.toInt64 o.2)) (gB base D) (gA base)) 1 6 (gA base) := by
  refine g_lmet (cc := cL_addHouse) (maxL := 3) (ret := (some .int)) (lst := [(0, .ref a0), (1, .ref ou)]) (by decide) rfl (Nat.le_of_ble_eq_true rfl) rfl ?_
  intro p e s m args below meth c ls hx hb hr hml hown hlocks hname hts hE hP hl ht
  have hown : s.vm.findClass RL = some m.cls := hown
  have hS : va_S (gA base) s.heap s.heap [] := va_S.rf
  have hsz := hP.1
  refine lv_aload_n hx hb dL_addHouse_0 rfl (lv_at hl 1 rfl) ?_
  refine lv_iconst (v := 0) hx hb dL_addHouse_1 (by decide) ?_
  refine lv_aload_n hx hb dL_addHouse_2 rfl (lv_at hl 0 rfl) ?_
  refine g_ccalli (vx_runV (As := []) (rest := [.int 0, .ref ou]) ⟨hx, hb, hml, hown, hts⟩ (k6_addHouse l hst D base g a0 o g1 hF) (cwV 0 hts gL_addHouse_X6_addHouse rfl rfl rfl (by decide +kernel) ⟨Nat.le_of_ble_eq_true rfl, Nat.le_of_ble_eq_true rfl⟩) (gC.preV hE hP hS 6 rfl (by decide) hk []) rfl rfl hl.1 rfl (lv_room (Nat.le_of_ble_eq_true rfl)) dL_addHouse_3 ⟨(Nat.le_of_ble_eq_true rfl), (Nat.le_of_ble_eq_true rfl)⟩) hS (fun ce q9 z H locs h0 h3 hz hP hS hce hcv hcl => ?_) (fun r H locs hor hP hS => ?_)
  · rcases hc with e | e
    · exact absurd e h0
    · have hcl : s.vm.findClass gES = some ce.cls := by
        rw [e] at hcl; exact hcl
      refine vx_catch (own := RL) (name := gES) hown [] ⟨0, 8, 11, 13⟩ [] ht (fun z hz => nomatch hz) (by decide) (by decide) (hts (.classLink RL 13 "java/lang/IllegalStateException") (by decide +kernel)) (va_Nw.use rfl (hE.2.2.2.2.2.2.2.2.1 (gES, gES) (by decide +kernel))) hce hcv hcl ?_
      refine lv_astore_n (lv' := [(2, .ref q9), (0, .ref a0), (1, .ref ou)]) hx hb dL_addHouse_11 rfl hl (by decide) rfl (fun ls hl => ?_)
      refine lv_iconst (v := 1) hx hb dL_addHouse_12 (by decide) ?_
      exact g_pret (Or.inr ⟨h0, by rw [e]; rfl, z, by rw [hsz]; exact hz, rfl⟩) hx hb hr hlocks hP hS (Nat.le_of_ble_eq_true rfl) (Nat.le_of_ble_eq_true rfl) dL_addHouse_13
  · have e0 : o.1 = 0 := by rw [hor]
    have er : o.2 = r := by rw [hor]
    refine lv_i2l (v := Int32.toInt64 r) hx hb dL_addHouse_6 rfl ?_
    refine g_last hx hb hP hS ho (fun q => by rcases q with q | q; exact absurd q (by decide); exact absurd q (by rw [show Int32.toNatClampNeg (0 : Int32) = 0 from rfl]; omega)) dL_addHouse_7 (fun H locs hP hS => ?_)
    refine lv_goto (tgt := 14) hx hb dL_addHouse_8 (by decide) ?_
    refine lv_iconst (v := 0) hx hb dL_addHouse_14 (by decide) ?_
    exact g_pret (Or.inl ⟨e0, rfl, by rw [er]; rfl⟩) hx hb hr hlocks hP hS (Nat.le_of_ble_eq_true rfl) (Nat.le_of_ble_eq_true rfl) dL_addHouse_15
set_option maxHeartbeats 4000000 in
set_option maxRecDepth 100000 in
theorem hL_setHive (l : Launch) (hst : l.stackTraces = false) (D : va_G) (base : Nat) (g : g_H) (a0 ou no : Nat) (x1 : Int32) (x2 : Int32) (o : Nat × Int32) (g1 : g_H) (hF : f6_setHive g a0 x1 x2 = some (o, g1)) (hk : (gS g a0).1 = 7) (ho : gS g1 ou = (13, no)) (hno : 0 < no) (hc : o.1 = 0 ∨ o.1 = 1) : Met l yL_setHive wsL_setHive ({ frames := 8, cells := 1, slots := 6, locals := 134 } : Room) (va_Pc [.ref a0, .int x1, .int x2, .ref ou] (gC base D g)) (va_Qi (hp c1 g g1 ou o.1 (if o.2 = 0 then 0 else 1)) (gB base D) (gA base)) 1 6 (gA base) := by
  refine g_lmet (cc := cL_setHive) (maxL := 5) (ret := (some .int)) (lst := [(0, .ref a0), (1, .int x1), (2, .int x2), (3, .ref ou)]) (by decide) rfl (Nat.le_of_ble_eq_true rfl) rfl ?_
  intro p e s m args below meth c ls hx hb hr hml hown hlocks hname hts hE hP hl ht
  have hown : s.vm.findClass RL = some m.cls := hown
  have hS : va_S (gA base) s.heap s.heap [] := va_S.rf
  have hsz := hP.1
  refine lv_aload_n hx hb dL_setHive_0 rfl (lv_at hl 3 rfl) ?_
  refine lv_iconst (v := 0) hx hb dL_setHive_1 (by decide) ?_
  refine lv_aload_n hx hb dL_setHive_2 rfl (lv_at hl 0 rfl) ?_
  refine lv_iload_n hx hb dL_setHive_3 rfl (lv_at hl 1 rfl) ?_
  refine lv_iload_n hx hb dL_setHive_4 rfl (lv_at hl 2 rfl) ?_
  refine g_ccalli (vx_runV (As := [.int x1, .int x2]) (rest := [.int 0, .ref ou]) ⟨hx, hb, hml, hown, hts⟩ (k6_setHive l hst D base g a0 x1 x2 o g1 hF) (cwV 2 hts gL_setHive_X6_setHive rfl rfl rfl (by decide +kernel) ⟨Nat.le_of_ble_eq_true rfl, Nat.le_of_ble_eq_true rfl⟩) (gC.preV hE hP hS 6 rfl (by decide) hk [.int x1, .int x2]) rfl rfl hl.1 rfl (lv_room (Nat.le_of_ble_eq_true rfl)) dL_setHive_5 ⟨(Nat.le_of_ble_eq_true rfl), (Nat.le_of_ble_eq_true rfl)⟩) hS (fun ce q9 z H locs h0 h3 hz hP hS hce hcv hcl => ?_) (fun r H locs hor hP hS => ?_)
  · rcases hc with e | e
    · exact absurd e h0
    · have hcl : s.vm.findClass gEI = some ce.cls := by
        rw [e] at hcl; exact hcl
      refine vx_catch (own := RL) (name := gEI) hown [] ⟨0, 17, 20, 19⟩ [] ht (fun z hz => nomatch hz) (by decide) (by decide) (hts (.classLink RL 19 "java/lang/IndexOutOfBoundsException") (by decide +kernel)) (va_Nw.use rfl (hE.2.2.2.2.2.2.2.2.1 (gEI, gEI) (by decide +kernel))) hce hcv hcl ?_
      refine lv_astore (lv' := [(4, .ref q9), (0, .ref a0), (1, .int x1), (2, .int x2), (3, .ref ou)]) hx hb dL_setHive_20 hl (by decide) rfl (fun ls hl => ?_)
      refine lv_iconst (v := 1) hx hb dL_setHive_22 (by decide) ?_
      exact g_pret (Or.inr ⟨h0, by rw [e]; rfl, z, by rw [hsz]; exact hz, rfl⟩) hx hb hr hlocks hP hS (Nat.le_of_ble_eq_true rfl) (Nat.le_of_ble_eq_true rfl) dL_setHive_23
  · have e0 : o.1 = 0 := by rw [hor]
    have er : o.2 = r := by rw [hor]
    refine lv_if_eq (tgt := 15) hx hb dL_setHive_8 (by decide) (fun c8 => ?_) (fun c8 => ?_)
    · refine lv_lconst (v := 0) hx hb dL_setHive_15 (by decide) ?_
      refine g_last hx hb hP hS ho (fun q => by rcases q with q | q; exact absurd q (by decide); exact absurd q (by rw [show Int32.toNatClampNeg (0 : Int32) = 0 from rfl]; omega)) dL_setHive_16 (fun H locs hP hS => ?_)
      refine lv_goto (tgt := 24) hx hb dL_setHive_17 (by decide) ?_
      refine lv_iconst (v := 0) hx hb dL_setHive_24 (by decide) ?_
      exact g_pret (Or.inl ⟨e0, rfl, by rw [er]; rw [if_pos c8]; rfl⟩) hx hb hr hlocks hP hS (Nat.le_of_ble_eq_true rfl) (Nat.le_of_ble_eq_true rfl) dL_setHive_25
    · refine lv_lconst (v := 1) hx hb dL_setHive_11 (by decide) ?_
      refine lv_goto (tgt := 16) hx hb dL_setHive_12 (by decide) ?_
      refine g_last hx hb hP hS ho (fun q => by rcases q with q | q; exact absurd q (by decide); exact absurd q (by rw [show Int32.toNatClampNeg (0 : Int32) = 0 from rfl]; omega)) dL_setHive_16 (fun H locs hP hS => ?_)
      refine lv_goto (tgt := 24) hx hb dL_setHive_17 (by decide) ?_
      refine lv_iconst (v := 0) hx hb dL_setHive_24 (by decide) ?_
      exact g_pret (Or.inl ⟨e0, rfl, by rw [er]; rw [if_neg c8]; rfl⟩) hx hb hr hlocks hP hS (Nat.le_of_ble_eq_true rfl) (Nat.le_of_ble_eq_true rfl) dL_setHive_25
set_option maxHeartbeats 4000000 in
set_option maxRecDepth 100000 in
theorem hL_addLane (l : Launch) (hst : l.stackTraces = false) (D : va_G) (base : Nat) (g : g_H) (a0 ou no : Nat) (x1 : Int32) (x2 : Int32) (x3 : Int32) (o : Nat × Int32) (g1 : g_H) (hF : f6_addLane g a0 x1 x2 x3 = some (o, g1)) (hk : (gS g a0).1 = 7) (ho : gS g1 ou = (13, no)) (hno : 0 < no) (hc : o.1 = 0 ∨ o.1 = 1 ∨ o.1 = 2 ∨ o.1 = 3) : Met l yL_addLane wsL_addLane ({ frames := 8, cells := 3, slots := 18, locals := 134 } : Room) (va_Pc [.ref a0, .int x1, .int x2, .int x3, .ref ou] (gC base D g)) (va_Qi (hp c3 g g1 ou o.1 (Int32.toInt64 o.2)) (gB base D) (gA base)) 3 18 (gA base) := by
  refine g_lmet (cc := cL_addLane) (maxL := 6) (ret := (some .int)) (lst := [(0, .ref a0), (1, .int x1), (2, .int x2), (3, .int x3), (4, .ref ou)]) (by decide) rfl (Nat.le_of_ble_eq_true rfl) rfl ?_
  intro p e s m args below meth c ls hx hb hr hml hown hlocks hname hts hE hP hl ht
  have hown : s.vm.findClass RL = some m.cls := hown
  have hS : va_S (gA base) s.heap s.heap [] := va_S.rf
  have hsz := hP.1
  refine lv_aload hx hb dL_addLane_0 (lv_at hl 4 rfl) ?_
  refine lv_iconst (v := 0) hx hb dL_addLane_2 (by decide) ?_
  refine lv_aload_n hx hb dL_addLane_3 rfl (lv_at hl 0 rfl) ?_
  refine lv_iload_n hx hb dL_addLane_4 rfl (lv_at hl 1 rfl) ?_
  refine lv_iload_n hx hb dL_addLane_5 rfl (lv_at hl 2 rfl) ?_
  refine lv_iload_n hx hb dL_addLane_6 rfl (lv_at hl 3 rfl) ?_
  refine g_ccalli (vx_runV (As := [.int x1, .int x2, .int x3]) (rest := [.int 0, .ref ou]) ⟨hx, hb, hml, hown, hts⟩ (k6_addLane l hst D base g a0 x1 x2 x3 o g1 hF) (cwV 3 hts gL_addLane_X6_addLane rfl rfl rfl (by decide +kernel) ⟨Nat.le_of_ble_eq_true rfl, Nat.le_of_ble_eq_true rfl⟩) (gC.preV hE hP hS 6 rfl (by decide) hk [.int x1, .int x2, .int x3]) rfl rfl hl.1 rfl (lv_room (Nat.le_of_ble_eq_true rfl)) dL_addLane_7 ⟨(Nat.le_of_ble_eq_true rfl), (Nat.le_of_ble_eq_true rfl)⟩) hS (fun ce q9 z H locs h0 h3 hz hP hS hce hcv hcl => ?_) (fun r H locs hor hP hS => ?_)
  · rcases hc with e | e | e | e
    · exact absurd e h0
    · have hcl : s.vm.findClass gEI = some ce.cls := by
        rw [e] at hcl; exact hcl
      refine vx_catch (own := RL) (name := gEI) hown [] ⟨0, 12, 15, 19⟩ [⟨0, 12, 19, 25⟩, ⟨0, 12, 23, 13⟩] ht (fun z hz => nomatch hz) (by decide) (by decide) (hts (.classLink RL 19 "java/lang/IndexOutOfBoundsException") (by decide +kernel)) (va_Nw.use rfl (hE.2.2.2.2.2.2.2.2.1 (gEI, gEI) (by decide +kernel))) hce hcv hcl ?_
      refine lv_astore (lv' := [(5, .ref q9), (0, .ref a0), (1, .int x1), (2, .int x2), (3, .int x3), (4, .ref ou)]) hx hb dL_addLane_15 hl (by decide) rfl (fun ls hl => ?_)
      refine lv_iconst (v := 1) hx hb dL_addLane_17 (by decide) ?_
      exact g_pret (Or.inr ⟨h0, by rw [e]; rfl, z, by rw [hsz]; exact hz, rfl⟩) hx hb hr hlocks hP hS (Nat.le_of_ble_eq_true rfl) (Nat.le_of_ble_eq_true rfl) dL_addLane_18
    · have hcl : s.vm.findClass gEA = some ce.cls := by
        rw [e] at hcl; exact hcl
      refine vx_catch (own := RL) (name := gEA) hown [⟨0, 12, 15, 19⟩] ⟨0, 12, 19, 25⟩ [⟨0, 12, 23, 13⟩] ht (List.forall_mem_cons.mpr ⟨Or.inr ⟨by decide, gEI, hts (.classLink RL 19 "java/lang/IndexOutOfBoundsException") (by decide +kernel), hE.2.2.2.2.2.2.2.2.2.1 (gEA, gEI) (by decide +kernel)⟩, fun _ h => nomatch h⟩) (by decide) (by decide) (hts (.classLink RL 25 "java/lang/IllegalArgumentException") (by decide +kernel)) (va_Nw.use rfl (hE.2.2.2.2.2.2.2.2.1 (gEA, gEA) (by decide +kernel))) hce hcv hcl ?_
      refine lv_astore (lv' := [(5, .ref q9), (0, .ref a0), (1, .int x1), (2, .int x2), (3, .int x3), (4, .ref ou)]) hx hb dL_addLane_19 hl (by decide) rfl (fun ls hl => ?_)
      refine lv_iconst (v := 2) hx hb dL_addLane_21 (by decide) ?_
      exact g_pret (Or.inr ⟨h0, by rw [e]; rfl, z, by rw [hsz]; exact hz, rfl⟩) hx hb hr hlocks hP hS (Nat.le_of_ble_eq_true rfl) (Nat.le_of_ble_eq_true rfl) dL_addLane_22
    · have hcl : s.vm.findClass gES = some ce.cls := by
        rw [e] at hcl; exact hcl
      refine vx_catch (own := RL) (name := gES) hown [⟨0, 12, 15, 19⟩, ⟨0, 12, 19, 25⟩] ⟨0, 12, 23, 13⟩ [] ht (List.forall_mem_cons.mpr ⟨Or.inr ⟨by decide, gEI, hts (.classLink RL 19 "java/lang/IndexOutOfBoundsException") (by decide +kernel), hE.2.2.2.2.2.2.2.2.2.1 (gES, gEI) (by decide +kernel)⟩, List.forall_mem_cons.mpr ⟨Or.inr ⟨by decide, gEA, hts (.classLink RL 25 "java/lang/IllegalArgumentException") (by decide +kernel), hE.2.2.2.2.2.2.2.2.2.1 (gES, gEA) (by decide +kernel)⟩, fun _ h => nomatch h⟩⟩) (by decide) (by decide) (hts (.classLink RL 13 "java/lang/IllegalStateException") (by decide +kernel)) (va_Nw.use rfl (hE.2.2.2.2.2.2.2.2.1 (gES, gES) (by decide +kernel))) hce hcv hcl ?_
      refine lv_astore (lv' := [(5, .ref q9), (0, .ref a0), (1, .int x1), (2, .int x2), (3, .int x3), (4, .ref ou)]) hx hb dL_addLane_23 hl (by decide) rfl (fun ls hl => ?_)
      refine lv_iconst (v := 3) hx hb dL_addLane_25 (by decide) ?_
      exact g_pret (Or.inr ⟨h0, by rw [e]; rfl, z, by rw [hsz]; exact hz, rfl⟩) hx hb hr hlocks hP hS (Nat.le_of_ble_eq_true rfl) (Nat.le_of_ble_eq_true rfl) dL_addLane_26
  · have e0 : o.1 = 0 := by rw [hor]
    have er : o.2 = r := by rw [hor]
    refine lv_i2l (v := Int32.toInt64 r) hx hb dL_addLane_10 rfl ?_
    refine g_last hx hb hP hS ho (fun q => by rcases q with q | q; exact absurd q (by decide); exact absurd q (by rw [show Int32.toNatClampNeg (0 : Int32) = 0 from rfl]; omega)) dL_addLane_11 (fun H locs hP hS => ?_)
    refine lv_goto (tgt := 27) hx hb dL_addLane_12 (by decide) ?_
    refine lv_iconst (v := 0) hx hb dL_addLane_27 (by decide) ?_
    exact g_pret (Or.inl ⟨e0, rfl, by rw [er]; rfl⟩) hx hb hr hlocks hP hS (Nat.le_of_ble_eq_true rfl) (Nat.le_of_ble_eq_true rfl) dL_addLane_28
set_option maxHeartbeats 4000000 in
set_option maxRecDepth 100000 in
theorem hL_setGate (l : Launch) (hst : l.stackTraces = false) (D : va_G) (base : Nat) (g : g_H) (a0 ou no : Nat) (x1 : Int32) (x2 : Int32) (x3 : Int32) (o : Nat × Int32) (g1 : g_H) (hF : f6_setGate g a0 x1 x2 x3 = some (o, g1)) (hk : (gS g a0).1 = 7) (ho : gS g1 ou = (13, no)) (hno : 0 < no) (hc : o.1 = 0 ∨ o.1 = 1 ∨ o.1 = 2) : Met l yL_setGate wsL_setGate ({ frames := 7, cells := 1, slots := 6, locals := 115 } : Room) (va_Pc [.ref a0, .int x1, .int x2, .int x3, .ref ou] (gC base D g)) (va_Qi (hp c2 g g1 ou o.1 (Int32.toInt64 o.2)) (gB base D) (gA base)) 1 6 (gA base) := by
  refine g_lmet (cc := cL_setGate) (maxL := 6) (ret := (some .int)) (lst := [(0, .ref a0), (1, .int x1), (2, .int x2), (3, .int x3), (4, .ref ou)]) (by decide) rfl (Nat.le_of_ble_eq_true rfl) rfl ?_
  intro p e s m args below meth c ls hx hb hr hml hown hlocks hname hts hE hP hl ht
  have hown : s.vm.findClass RL = some m.cls := hown
  have hS : va_S (gA base) s.heap s.heap [] := va_S.rf
  have hsz := hP.1
  refine lv_aload hx hb dL_setGate_0 (lv_at hl 4 rfl) ?_
  refine lv_iconst (v := 0) hx hb dL_setGate_2 (by decide) ?_
  refine lv_aload_n hx hb dL_setGate_3 rfl (lv_at hl 0 rfl) ?_
  refine lv_iload_n hx hb dL_setGate_4 rfl (lv_at hl 1 rfl) ?_
  refine lv_iload_n hx hb dL_setGate_5 rfl (lv_at hl 2 rfl) ?_
  refine lv_iload_n hx hb dL_setGate_6 rfl (lv_at hl 3 rfl) ?_
  refine g_ccalli (vx_runV (As := [.int x1, .int x2, .int x3]) (rest := [.int 0, .ref ou]) ⟨hx, hb, hml, hown, hts⟩ (k6_setGate l hst D base g a0 x1 x2 x3 o g1 hF) (cwV 3 hts gL_setGate_X6_setGate rfl rfl rfl (by decide +kernel) ⟨Nat.le_of_ble_eq_true rfl, Nat.le_of_ble_eq_true rfl⟩) (gC.preV hE hP hS 6 rfl (by decide) hk [.int x1, .int x2, .int x3]) rfl rfl hl.1 rfl (lv_room (Nat.le_of_ble_eq_true rfl)) dL_setGate_7 ⟨(Nat.le_of_ble_eq_true rfl), (Nat.le_of_ble_eq_true rfl)⟩) hS (fun ce q9 z H locs h0 h3 hz hP hS hce hcv hcl => ?_) (fun r H locs hor hP hS => ?_)
  · rcases hc with e | e | e
    · exact absurd e h0
    · have hcl : s.vm.findClass gEI = some ce.cls := by
        rw [e] at hcl; exact hcl
      refine vx_catch (own := RL) (name := gEI) hown [] ⟨0, 12, 15, 19⟩ [⟨0, 12, 19, 25⟩] ht (fun z hz => nomatch hz) (by decide) (by decide) (hts (.classLink RL 19 "java/lang/IndexOutOfBoundsException") (by decide +kernel)) (va_Nw.use rfl (hE.2.2.2.2.2.2.2.2.1 (gEI, gEI) (by decide +kernel))) hce hcv hcl ?_
      refine lv_astore (lv' := [(5, .ref q9), (0, .ref a0), (1, .int x1), (2, .int x2), (3, .int x3), (4, .ref ou)]) hx hb dL_setGate_15 hl (by decide) rfl (fun ls hl => ?_)
      refine lv_iconst (v := 1) hx hb dL_setGate_17 (by decide) ?_
      exact g_pret (Or.inr ⟨h0, by rw [e]; rfl, z, by rw [hsz]; exact hz, rfl⟩) hx hb hr hlocks hP hS (Nat.le_of_ble_eq_true rfl) (Nat.le_of_ble_eq_true rfl) dL_setGate_18
    · have hcl : s.vm.findClass gEA = some ce.cls := by
        rw [e] at hcl; exact hcl
      refine vx_catch (own := RL) (name := gEA) hown [⟨0, 12, 15, 19⟩] ⟨0, 12, 19, 25⟩ [] ht (List.forall_mem_cons.mpr ⟨Or.inr ⟨by decide, gEI, hts (.classLink RL 19 "java/lang/IndexOutOfBoundsException") (by decide +kernel), hE.2.2.2.2.2.2.2.2.2.1 (gEA, gEI) (by decide +kernel)⟩, fun _ h => nomatch h⟩) (by decide) (by decide) (hts (.classLink RL 25 "java/lang/IllegalArgumentException") (by decide +kernel)) (va_Nw.use rfl (hE.2.2.2.2.2.2.2.2.1 (gEA, gEA) (by decide +kernel))) hce hcv hcl ?_
      refine lv_astore (lv' := [(5, .ref q9), (0, .ref a0), (1, .int x1), (2, .int x2), (3, .int x3), (4, .ref ou)]) hx hb dL_setGate_19 hl (by decide) rfl (fun ls hl => ?_)
      refine lv_iconst (v := 2) hx hb dL_setGate_21 (by decide) ?_
      exact g_pret (Or.inr ⟨h0, by rw [e]; rfl, z, by rw [hsz]; exact hz, rfl⟩) hx hb hr hlocks hP hS (Nat.le_of_ble_eq_true rfl) (Nat.le_of_ble_eq_true rfl) dL_setGate_22
  · have e0 : o.1 = 0 := by rw [hor]
    have er : o.2 = r := by rw [hor]
    refine lv_i2l (v := Int32.toInt64 r) hx hb dL_setGate_10 rfl ?_
    refine g_last hx hb hP hS ho (fun q => by rcases q with q | q; exact absurd q (by decide); exact absurd q (by rw [show Int32.toNatClampNeg (0 : Int32) = 0 from rfl]; omega)) dL_setGate_11 (fun H locs hP hS => ?_)
    refine lv_goto (tgt := 23) hx hb dL_setGate_12 (by decide) ?_
    refine lv_iconst (v := 0) hx hb dL_setGate_23 (by decide) ?_
    exact g_pret (Or.inl ⟨e0, rfl, by rw [er]; rfl⟩) hx hb hr hlocks hP hS (Nat.le_of_ble_eq_true rfl) (Nat.le_of_ble_eq_true rfl) dL_setGate_24
set_option maxHeartbeats 4000000 in
set_option maxRecDepth 100000 in
theorem hL_way (l : Launch) (hst : l.stackTraces = false) (D : va_G) (base : Nat) (g : g_H) (a0 ou no : Nat) (x1 : Int32) (x2 : Int32) (o : Nat × Int32) (g1 : g_H) (hF : f6_way g a0 x1 x2 = some (o, g1)) (hk : (gS g a0).1 = 7) (ho : gS g1 ou = (13, no)) (hno : 0 < no) (hc : o.1 = 0 ∨ o.1 = 1) : Met l yL_way wsL_way ({ frames := 8, cells := 2, slots := 12, locals := 134 } : Room) (va_Pc [.ref a0, .int x1, .int x2, .ref ou] (gC base D g)) (va_Qi (hp c1 g g1 ou o.1 (Int32.toInt64 o.2)) (gB base D) (gA base)) 2 12 (gA base) := by
  refine g_lmet (cc := cL_way) (maxL := 5) (ret := (some .int)) (lst := [(0, .ref a0), (1, .int x1), (2, .int x2), (3, .ref ou)]) (by decide) rfl (Nat.le_of_ble_eq_true rfl) rfl ?_
  intro p e s m args below meth c ls hx hb hr hml hown hlocks hname hts hE hP hl ht
  have hown : s.vm.findClass RL = some m.cls := hown
  have hS : va_S (gA base) s.heap s.heap [] := va_S.rf
  have hsz := hP.1
  refine lv_aload_n hx hb dL_way_0 rfl (lv_at hl 3 rfl) ?_
  refine lv_iconst (v := 0) hx hb dL_way_1 (by decide) ?_
  refine lv_aload_n hx hb dL_way_2 rfl (lv_at hl 0 rfl) ?_
  refine lv_iload_n hx hb dL_way_3 rfl (lv_at hl 1 rfl) ?_
  refine lv_iload_n hx hb dL_way_4 rfl (lv_at hl 2 rfl) ?_
  refine g_ccalli (vx_runV (As := [.int x1, .int x2]) (rest := [.int 0, .ref ou]) ⟨hx, hb, hml, hown, hts⟩ (k6_way l hst D base g a0 x1 x2 o g1 hF) (cwV 2 hts gL_way_X6_way rfl rfl rfl (by decide +kernel) ⟨Nat.le_of_ble_eq_true rfl, Nat.le_of_ble_eq_true rfl⟩) (gC.preV hE hP hS 6 rfl (by decide) hk [.int x1, .int x2]) rfl rfl hl.1 rfl (lv_room (Nat.le_of_ble_eq_true rfl)) dL_way_5 ⟨(Nat.le_of_ble_eq_true rfl), (Nat.le_of_ble_eq_true rfl)⟩) hS (fun ce q9 z H locs h0 h3 hz hP hS hce hcv hcl => ?_) (fun r H locs hor hP hS => ?_)
  · rcases hc with e | e
    · exact absurd e h0
    · have hcl : s.vm.findClass gEI = some ce.cls := by
        rw [e] at hcl; exact hcl
      refine vx_catch (own := RL) (name := gEI) hown [] ⟨0, 10, 13, 19⟩ [] ht (fun z hz => nomatch hz) (by decide) (by decide) (hts (.classLink RL 19 "java/lang/IndexOutOfBoundsException") (by decide +kernel)) (va_Nw.use rfl (hE.2.2.2.2.2.2.2.2.1 (gEI, gEI) (by decide +kernel))) hce hcv hcl ?_
      refine lv_astore (lv' := [(4, .ref q9), (0, .ref a0), (1, .int x1), (2, .int x2), (3, .ref ou)]) hx hb dL_way_13 hl (by decide) rfl (fun ls hl => ?_)
      refine lv_iconst (v := 1) hx hb dL_way_15 (by decide) ?_
      exact g_pret (Or.inr ⟨h0, by rw [e]; rfl, z, by rw [hsz]; exact hz, rfl⟩) hx hb hr hlocks hP hS (Nat.le_of_ble_eq_true rfl) (Nat.le_of_ble_eq_true rfl) dL_way_16
  · have e0 : o.1 = 0 := by rw [hor]
    have er : o.2 = r := by rw [hor]
    refine lv_i2l (v := Int32.toInt64 r) hx hb dL_way_8 rfl ?_
    refine g_last hx hb hP hS ho (fun q => by rcases q with q | q; exact absurd q (by decide); exact absurd q (by rw [show Int32.toNatClampNeg (0 : Int32) = 0 from rfl]; omega)) dL_way_9 (fun H locs hP hS => ?_)
    refine lv_goto (tgt := 17) hx hb dL_way_10 (by decide) ?_
    refine lv_iconst (v := 0) hx hb dL_way_17 (by decide) ?_
    exact g_pret (Or.inl ⟨e0, rfl, by rw [er]; rfl⟩) hx hb hr hlocks hP hS (Nat.le_of_ble_eq_true rfl) (Nat.le_of_ble_eq_true rfl) dL_way_18
set_option maxHeartbeats 4000000 in
set_option maxRecDepth 100000 in
theorem hL_addBee (l : Launch) (hst : l.stackTraces = false) (D : va_G) (base : Nat) (g : g_H) (a0 ou no : Nat) (x1 : Int32) (o : Nat × Int32) (g1 : g_H) (hF : f6_addBee g a0 x1 = some (o, g1)) (hk : (gS g a0).1 = 7) (ho : gS g1 ou = (13, no)) (hno : 0 < no) (hc : o.1 = 0 ∨ o.1 = 2 ∨ o.1 = 3) : Met l yL_addBee wsL_addBee ({ frames := 8, cells := 2, slots := 12, locals := 155 } : Room) (va_Pc [.ref a0, .int x1, .ref ou] (gC base D g)) (va_Qi (hp c4 g g1 ou o.1 (Int32.toInt64 o.2)) (gB base D) (gA base)) 2 12 (gA base) := by
  refine g_lmet (cc := cL_addBee) (maxL := 4) (ret := (some .int)) (lst := [(0, .ref a0), (1, .int x1), (2, .ref ou)]) (by decide) rfl (Nat.le_of_ble_eq_true rfl) rfl ?_
  intro p e s m args below meth c ls hx hb hr hml hown hlocks hname hts hE hP hl ht
  have hown : s.vm.findClass RL = some m.cls := hown
  have hS : va_S (gA base) s.heap s.heap [] := va_S.rf
  have hsz := hP.1
  refine lv_aload_n hx hb dL_addBee_0 rfl (lv_at hl 2 rfl) ?_
  refine lv_iconst (v := 0) hx hb dL_addBee_1 (by decide) ?_
  refine lv_aload_n hx hb dL_addBee_2 rfl (lv_at hl 0 rfl) ?_
  refine lv_iload_n hx hb dL_addBee_3 rfl (lv_at hl 1 rfl) ?_
  refine g_ccalli (vx_runV (As := [.int x1]) (rest := [.int 0, .ref ou]) ⟨hx, hb, hml, hown, hts⟩ (k6_addBee l hst D base g a0 x1 o g1 hF) (cwV 1 hts gL_addBee_X6_addBee rfl rfl rfl (by decide +kernel) ⟨Nat.le_of_ble_eq_true rfl, Nat.le_of_ble_eq_true rfl⟩) (gC.preV hE hP hS 6 rfl (by decide) hk [.int x1]) rfl rfl hl.1 rfl (lv_room (Nat.le_of_ble_eq_true rfl)) dL_addBee_4 ⟨(Nat.le_of_ble_eq_true rfl), (Nat.le_of_ble_eq_true rfl)⟩) hS (fun ce q9 z H locs h0 h3 hz hP hS hce hcv hcl => ?_) (fun r H locs hor hP hS => ?_)
  · rcases hc with e | e | e
    · exact absurd e h0
    · have hcl : s.vm.findClass gEA = some ce.cls := by
        rw [e] at hcl; exact hcl
      refine vx_catch (own := RL) (name := gEA) hown [] ⟨0, 9, 12, 25⟩ [⟨0, 9, 15, 13⟩] ht (fun z hz => nomatch hz) (by decide) (by decide) (hts (.classLink RL 25 "java/lang/IllegalArgumentException") (by decide +kernel)) (va_Nw.use rfl (hE.2.2.2.2.2.2.2.2.1 (gEA, gEA) (by decide +kernel))) hce hcv hcl ?_
      refine lv_astore_n (lv' := [(3, .ref q9), (0, .ref a0), (1, .int x1), (2, .ref ou)]) hx hb dL_addBee_12 rfl hl (by decide) rfl (fun ls hl => ?_)
      refine lv_iconst (v := 1) hx hb dL_addBee_13 (by decide) ?_
      exact g_pret (Or.inr ⟨h0, by rw [e]; rfl, z, by rw [hsz]; exact hz, rfl⟩) hx hb hr hlocks hP hS (Nat.le_of_ble_eq_true rfl) (Nat.le_of_ble_eq_true rfl) dL_addBee_14
    · have hcl : s.vm.findClass gES = some ce.cls := by
        rw [e] at hcl; exact hcl
      refine vx_catch (own := RL) (name := gES) hown [⟨0, 9, 12, 25⟩] ⟨0, 9, 15, 13⟩ [] ht (List.forall_mem_cons.mpr ⟨Or.inr ⟨by decide, gEA, hts (.classLink RL 25 "java/lang/IllegalArgumentException") (by decide +kernel), hE.2.2.2.2.2.2.2.2.2.1 (gES, gEA) (by decide +kernel)⟩, fun _ h => nomatch h⟩) (by decide) (by decide) (hts (.classLink RL 13 "java/lang/IllegalStateException") (by decide +kernel)) (va_Nw.use rfl (hE.2.2.2.2.2.2.2.2.1 (gES, gES) (by decide +kernel))) hce hcv hcl ?_
      refine lv_astore_n (lv' := [(3, .ref q9), (0, .ref a0), (1, .int x1), (2, .ref ou)]) hx hb dL_addBee_15 rfl hl (by decide) rfl (fun ls hl => ?_)
      refine lv_iconst (v := 2) hx hb dL_addBee_16 (by decide) ?_
      exact g_pret (Or.inr ⟨h0, by rw [e]; rfl, z, by rw [hsz]; exact hz, rfl⟩) hx hb hr hlocks hP hS (Nat.le_of_ble_eq_true rfl) (Nat.le_of_ble_eq_true rfl) dL_addBee_17
  · have e0 : o.1 = 0 := by rw [hor]
    have er : o.2 = r := by rw [hor]
    refine lv_i2l (v := Int32.toInt64 r) hx hb dL_addBee_7 rfl ?_
    refine g_last hx hb hP hS ho (fun q => by rcases q with q | q; exact absurd q (by decide); exact absurd q (by rw [show Int32.toNatClampNeg (0 : Int32) = 0 from rfl]; omega)) dL_addBee_8 (fun H locs hP hS => ?_)
    refine lv_goto (tgt := 18) hx hb dL_addBee_9 (by decide) ?_
    refine lv_iconst (v := 0) hx hb dL_addBee_18 (by decide) ?_
    exact g_pret (Or.inl ⟨e0, rfl, by rw [er]; rfl⟩) hx hb hr hlocks hP hS (Nat.le_of_ble_eq_true rfl) (Nat.le_of_ble_eq_true rfl) dL_addBee_19
set_option maxHeartbeats 4000000 in
set_option maxRecDepth 100000 in
theorem hL_swear (l : Launch) (hst : l.stackTraces = false) (D : va_G) (base : Nat) (g : g_H) (a0 ou no : Nat) (x1 : Int32) (x2 : Int32) (o : Nat × Int32) (g1 : g_H) (hF : f6_swear g a0 x1 x2 = some (o, g1)) (hk : (gS g a0).1 = 7) (ho : gS g1 ou = (13, no)) (hno : 0 < no) (hc : o.1 = 0 ∨ o.1 = 1 ∨ o.1 = 2 ∨ o.1 = 3) : Met l yL_swear wsL_swear ({ frames := 8, cells := 3, slots := 18, locals := 158 } : Room) (va_Pc [.ref a0, .int x1, .int x2, .ref ou] (gC base D g)) (va_Qi (hp c3 g g1 ou o.1 (Int32.toInt64 o.2)) (gB base D) (gA base)) 3 18 (gA base) := by
  refine g_lmet (cc := cL_swear) (maxL := 5) (ret := (some .int)) (lst := [(0, .ref a0), (1, .int x1), (2, .int x2), (3, .ref ou)]) (by decide) rfl (Nat.le_of_ble_eq_true rfl) rfl ?_
  intro p e s m args below meth c ls hx hb hr hml hown hlocks hname hts hE hP hl ht
  have hown : s.vm.findClass RL = some m.cls := hown
  have hS : va_S (gA base) s.heap s.heap [] := va_S.rf
  have hsz := hP.1
  refine lv_aload_n hx hb dL_swear_0 rfl (lv_at hl 3 rfl) ?_
  refine lv_iconst (v := 0) hx hb dL_swear_1 (by decide) ?_
  refine lv_aload_n hx hb dL_swear_2 rfl (lv_at hl 0 rfl) ?_
  refine lv_iload_n hx hb dL_swear_3 rfl (lv_at hl 1 rfl) ?_
  refine lv_iload_n hx hb dL_swear_4 rfl (lv_at hl 2 rfl) ?_
  refine g_ccalli (vx_runV (As := [.int x1, .int x2]) (rest := [.int 0, .ref ou]) ⟨hx, hb, hml, hown, hts⟩ (k6_swear l hst D base g a0 x1 x2 o g1 hF) (cwV 2 hts gL_swear_X6_swear rfl rfl rfl (by decide +kernel) ⟨Nat.le_of_ble_eq_true rfl, Nat.le_of_ble_eq_true rfl⟩) (gC.preV hE hP hS 6 rfl (by decide) hk [.int x1, .int x2]) rfl rfl hl.1 rfl (lv_room (Nat.le_of_ble_eq_true rfl)) dL_swear_5 ⟨(Nat.le_of_ble_eq_true rfl), (Nat.le_of_ble_eq_true rfl)⟩) hS (fun ce q9 z H locs h0 h3 hz hP hS hce hcv hcl => ?_) (fun r H locs hor hP hS => ?_)
  · rcases hc with e | e | e | e
    · exact absurd e h0
    · have hcl : s.vm.findClass gEI = some ce.cls := by
        rw [e] at hcl; exact hcl
      refine vx_catch (own := RL) (name := gEI) hown [] ⟨0, 10, 13, 19⟩ [⟨0, 10, 17, 25⟩, ⟨0, 10, 21, 13⟩] ht (fun z hz => nomatch hz) (by decide) (by decide) (hts (.classLink RL 19 "java/lang/IndexOutOfBoundsException") (by decide +kernel)) (va_Nw.use rfl (hE.2.2.2.2.2.2.2.2.1 (gEI, gEI) (by decide +kernel))) hce hcv hcl ?_
      refine lv_astore (lv' := [(4, .ref q9), (0, .ref a0), (1, .int x1), (2, .int x2), (3, .ref ou)]) hx hb dL_swear_13 hl (by decide) rfl (fun ls hl => ?_)
      refine lv_iconst (v := 1) hx hb dL_swear_15 (by decide) ?_
      exact g_pret (Or.inr ⟨h0, by rw [e]; rfl, z, by rw [hsz]; exact hz, rfl⟩) hx hb hr hlocks hP hS (Nat.le_of_ble_eq_true rfl) (Nat.le_of_ble_eq_true rfl) dL_swear_16
    · have hcl : s.vm.findClass gEA = some ce.cls := by
        rw [e] at hcl; exact hcl
      refine vx_catch (own := RL) (name := gEA) hown [⟨0, 10, 13, 19⟩] ⟨0, 10, 17, 25⟩ [⟨0, 10, 21, 13⟩] ht (List.forall_mem_cons.mpr ⟨Or.inr ⟨by decide, gEI, hts (.classLink RL 19 "java/lang/IndexOutOfBoundsException") (by decide +kernel), hE.2.2.2.2.2.2.2.2.2.1 (gEA, gEI) (by decide +kernel)⟩, fun _ h => nomatch h⟩) (by decide) (by decide) (hts (.classLink RL 25 "java/lang/IllegalArgumentException") (by decide +kernel)) (va_Nw.use rfl (hE.2.2.2.2.2.2.2.2.1 (gEA, gEA) (by decide +kernel))) hce hcv hcl ?_
      refine lv_astore (lv' := [(4, .ref q9), (0, .ref a0), (1, .int x1), (2, .int x2), (3, .ref ou)]) hx hb dL_swear_17 hl (by decide) rfl (fun ls hl => ?_)
      refine lv_iconst (v := 2) hx hb dL_swear_19 (by decide) ?_
      exact g_pret (Or.inr ⟨h0, by rw [e]; rfl, z, by rw [hsz]; exact hz, rfl⟩) hx hb hr hlocks hP hS (Nat.le_of_ble_eq_true rfl) (Nat.le_of_ble_eq_true rfl) dL_swear_20
    · have hcl : s.vm.findClass gES = some ce.cls := by
        rw [e] at hcl; exact hcl
      refine vx_catch (own := RL) (name := gES) hown [⟨0, 10, 13, 19⟩, ⟨0, 10, 17, 25⟩] ⟨0, 10, 21, 13⟩ [] ht (List.forall_mem_cons.mpr ⟨Or.inr ⟨by decide, gEI, hts (.classLink RL 19 "java/lang/IndexOutOfBoundsException") (by decide +kernel), hE.2.2.2.2.2.2.2.2.2.1 (gES, gEI) (by decide +kernel)⟩, List.forall_mem_cons.mpr ⟨Or.inr ⟨by decide, gEA, hts (.classLink RL 25 "java/lang/IllegalArgumentException") (by decide +kernel), hE.2.2.2.2.2.2.2.2.2.1 (gES, gEA) (by decide +kernel)⟩, fun _ h => nomatch h⟩⟩) (by decide) (by decide) (hts (.classLink RL 13 "java/lang/IllegalStateException") (by decide +kernel)) (va_Nw.use rfl (hE.2.2.2.2.2.2.2.2.1 (gES, gES) (by decide +kernel))) hce hcv hcl ?_
      refine lv_astore (lv' := [(4, .ref q9), (0, .ref a0), (1, .int x1), (2, .int x2), (3, .ref ou)]) hx hb dL_swear_21 hl (by decide) rfl (fun ls hl => ?_)
      refine lv_iconst (v := 3) hx hb dL_swear_23 (by decide) ?_
      exact g_pret (Or.inr ⟨h0, by rw [e]; rfl, z, by rw [hsz]; exact hz, rfl⟩) hx hb hr hlocks hP hS (Nat.le_of_ble_eq_true rfl) (Nat.le_of_ble_eq_true rfl) dL_swear_24
  · have e0 : o.1 = 0 := by rw [hor]
    have er : o.2 = r := by rw [hor]
    refine lv_i2l (v := Int32.toInt64 r) hx hb dL_swear_8 rfl ?_
    refine g_last hx hb hP hS ho (fun q => by rcases q with q | q; exact absurd q (by decide); exact absurd q (by rw [show Int32.toNatClampNeg (0 : Int32) = 0 from rfl]; omega)) dL_swear_9 (fun H locs hP hS => ?_)
    refine lv_goto (tgt := 25) hx hb dL_swear_10 (by decide) ?_
    refine lv_iconst (v := 0) hx hb dL_swear_25 (by decide) ?_
    exact g_pret (Or.inl ⟨e0, rfl, by rw [er]; rfl⟩) hx hb hr hlocks hP hS (Nat.le_of_ble_eq_true rfl) (Nat.le_of_ble_eq_true rfl) dL_swear_26
set_option maxHeartbeats 4000000 in
set_option maxRecDepth 100000 in
theorem hL_write (l : Launch) (hst : l.stackTraces = false) (D : va_G) (base : Nat) (g : g_H) (a0 ou no : Nat) (x1 : Int32) (x2 : Int32) (o : Nat × Int32) (g1 : g_H) (hF : f6_write g a0 x1 x2 = some (o, g1)) (hk : (gS g a0).1 = 7) (ho : gS g1 ou = (13, no)) (hno : 0 < no) (hc : o.1 = 0 ∨ o.1 = 1 ∨ o.1 = 2 ∨ o.1 = 3) : Met l yL_write wsL_write ({ frames := 8, cells := 3, slots := 18, locals := 133 } : Room) (va_Pc [.ref a0, .int x1, .int x2, .ref ou] (gC base D g)) (va_Qi (hp c3 g g1 ou o.1 (Int32.toInt64 o.2)) (gB base D) (gA base)) 3 18 (gA base) := by
  refine g_lmet (cc := cL_write) (maxL := 5) (ret := (some .int)) (lst := [(0, .ref a0), (1, .int x1), (2, .int x2), (3, .ref ou)]) (by decide) rfl (Nat.le_of_ble_eq_true rfl) rfl ?_
  intro p e s m args below meth c ls hx hb hr hml hown hlocks hname hts hE hP hl ht
  have hown : s.vm.findClass RL = some m.cls := hown
  have hS : va_S (gA base) s.heap s.heap [] := va_S.rf
  have hsz := hP.1
  refine lv_aload_n hx hb dL_write_0 rfl (lv_at hl 3 rfl) ?_
  refine lv_iconst (v := 0) hx hb dL_write_1 (by decide) ?_
  refine lv_aload_n hx hb dL_write_2 rfl (lv_at hl 0 rfl) ?_
  refine lv_iload_n hx hb dL_write_3 rfl (lv_at hl 1 rfl) ?_
  refine lv_iload_n hx hb dL_write_4 rfl (lv_at hl 2 rfl) ?_
  refine g_ccalli (vx_runV (As := [.int x1, .int x2]) (rest := [.int 0, .ref ou]) ⟨hx, hb, hml, hown, hts⟩ (k6_write l hst D base g a0 x1 x2 o g1 hF) (cwV 2 hts gL_write_X6_write rfl rfl rfl (by decide +kernel) ⟨Nat.le_of_ble_eq_true rfl, Nat.le_of_ble_eq_true rfl⟩) (gC.preV hE hP hS 6 rfl (by decide) hk [.int x1, .int x2]) rfl rfl hl.1 rfl (lv_room (Nat.le_of_ble_eq_true rfl)) dL_write_5 ⟨(Nat.le_of_ble_eq_true rfl), (Nat.le_of_ble_eq_true rfl)⟩) hS (fun ce q9 z H locs h0 h3 hz hP hS hce hcv hcl => ?_) (fun r H locs hor hP hS => ?_)
  · rcases hc with e | e | e | e
    · exact absurd e h0
    · have hcl : s.vm.findClass gEI = some ce.cls := by
        rw [e] at hcl; exact hcl
      refine vx_catch (own := RL) (name := gEI) hown [] ⟨0, 10, 13, 19⟩ [⟨0, 10, 17, 25⟩, ⟨0, 10, 21, 13⟩] ht (fun z hz => nomatch hz) (by decide) (by decide) (hts (.classLink RL 19 "java/lang/IndexOutOfBoundsException") (by decide +kernel)) (va_Nw.use rfl (hE.2.2.2.2.2.2.2.2.1 (gEI, gEI) (by decide +kernel))) hce hcv hcl ?_
      refine lv_astore (lv' := [(4, .ref q9), (0, .ref a0), (1, .int x1), (2, .int x2), (3, .ref ou)]) hx hb dL_write_13 hl (by decide) rfl (fun ls hl => ?_)
      refine lv_iconst (v := 1) hx hb dL_write_15 (by decide) ?_
      exact g_pret (Or.inr ⟨h0, by rw [e]; rfl, z, by rw [hsz]; exact hz, rfl⟩) hx hb hr hlocks hP hS (Nat.le_of_ble_eq_true rfl) (Nat.le_of_ble_eq_true rfl) dL_write_16
    · have hcl : s.vm.findClass gEA = some ce.cls := by
        rw [e] at hcl; exact hcl
      refine vx_catch (own := RL) (name := gEA) hown [⟨0, 10, 13, 19⟩] ⟨0, 10, 17, 25⟩ [⟨0, 10, 21, 13⟩] ht (List.forall_mem_cons.mpr ⟨Or.inr ⟨by decide, gEI, hts (.classLink RL 19 "java/lang/IndexOutOfBoundsException") (by decide +kernel), hE.2.2.2.2.2.2.2.2.2.1 (gEA, gEI) (by decide +kernel)⟩, fun _ h => nomatch h⟩) (by decide) (by decide) (hts (.classLink RL 25 "java/lang/IllegalArgumentException") (by decide +kernel)) (va_Nw.use rfl (hE.2.2.2.2.2.2.2.2.1 (gEA, gEA) (by decide +kernel))) hce hcv hcl ?_
      refine lv_astore (lv' := [(4, .ref q9), (0, .ref a0), (1, .int x1), (2, .int x2), (3, .ref ou)]) hx hb dL_write_17 hl (by decide) rfl (fun ls hl => ?_)
      refine lv_iconst (v := 2) hx hb dL_write_19 (by decide) ?_
      exact g_pret (Or.inr ⟨h0, by rw [e]; rfl, z, by rw [hsz]; exact hz, rfl⟩) hx hb hr hlocks hP hS (Nat.le_of_ble_eq_true rfl) (Nat.le_of_ble_eq_true rfl) dL_write_20
    · have hcl : s.vm.findClass gES = some ce.cls := by
        rw [e] at hcl; exact hcl
      refine vx_catch (own := RL) (name := gES) hown [⟨0, 10, 13, 19⟩, ⟨0, 10, 17, 25⟩] ⟨0, 10, 21, 13⟩ [] ht (List.forall_mem_cons.mpr ⟨Or.inr ⟨by decide, gEI, hts (.classLink RL 19 "java/lang/IndexOutOfBoundsException") (by decide +kernel), hE.2.2.2.2.2.2.2.2.2.1 (gES, gEI) (by decide +kernel)⟩, List.forall_mem_cons.mpr ⟨Or.inr ⟨by decide, gEA, hts (.classLink RL 25 "java/lang/IllegalArgumentException") (by decide +kernel), hE.2.2.2.2.2.2.2.2.2.1 (gES, gEA) (by decide +kernel)⟩, fun _ h => nomatch h⟩⟩) (by decide) (by decide) (hts (.classLink RL 13 "java/lang/IllegalStateException") (by decide +kernel)) (va_Nw.use rfl (hE.2.2.2.2.2.2.2.2.1 (gES, gES) (by decide +kernel))) hce hcv hcl ?_
      refine lv_astore (lv' := [(4, .ref q9), (0, .ref a0), (1, .int x1), (2, .int x2), (3, .ref ou)]) hx hb dL_write_21 hl (by decide) rfl (fun ls hl => ?_)
      refine lv_iconst (v := 3) hx hb dL_write_23 (by decide) ?_
      exact g_pret (Or.inr ⟨h0, by rw [e]; rfl, z, by rw [hsz]; exact hz, rfl⟩) hx hb hr hlocks hP hS (Nat.le_of_ble_eq_true rfl) (Nat.le_of_ble_eq_true rfl) dL_write_24
  · have e0 : o.1 = 0 := by rw [hor]
    have er : o.2 = r := by rw [hor]
    refine lv_i2l (v := Int32.toInt64 r) hx hb dL_write_8 rfl ?_
    refine g_last hx hb hP hS ho (fun q => by rcases q with q | q; exact absurd q (by decide); exact absurd q (by rw [show Int32.toNatClampNeg (0 : Int32) = 0 from rfl]; omega)) dL_write_9 (fun H locs hP hS => ?_)
    refine lv_goto (tgt := 25) hx hb dL_write_10 (by decide) ?_
    refine lv_iconst (v := 0) hx hb dL_write_25 (by decide) ?_
    exact g_pret (Or.inl ⟨e0, rfl, by rw [er]; rfl⟩) hx hb hr hlocks hP hS (Nat.le_of_ble_eq_true rfl) (Nat.le_of_ble_eq_true rfl) dL_write_26
set_option maxHeartbeats 4000000 in
set_option maxRecDepth 100000 in
theorem hL_bribe (l : Launch) (hst : l.stackTraces = false) (D : va_G) (base : Nat) (g : g_H) (a0 ou no : Nat) (x1 : Int32) (x2 : Int32) (o : Nat × Int32) (g1 : g_H) (hF : f6_bribe g a0 x1 x2 = some (o, g1)) (hk : (gS g a0).1 = 7) (ho : gS g1 ou = (13, no)) (hno : 0 < no) (hc : o.1 = 0 ∨ o.1 = 1 ∨ o.1 = 3) : Met l yL_bribe wsL_bribe ({ frames := 8, cells := 3, slots := 18, locals := 136 } : Room) (va_Pc [.ref a0, .int x1, .int x2, .ref ou] (gC base D g)) (va_Qi (hp c2 g g1 ou o.1 (if o.2 = 0 then 0 else 1)) (gB base D) (gA base)) 3 18 (gA base) := by
  refine g_lmet (cc := cL_bribe) (maxL := 5) (ret := (some .int)) (lst := [(0, .ref a0), (1, .int x1), (2, .int x2), (3, .ref ou)]) (by decide) rfl (Nat.le_of_ble_eq_true rfl) rfl ?_
  intro p e s m args below meth c ls hx hb hr hml hown hlocks hname hts hE hP hl ht
  have hown : s.vm.findClass RL = some m.cls := hown
  have hS : va_S (gA base) s.heap s.heap [] := va_S.rf
  have hsz := hP.1
  refine lv_aload_n hx hb dL_bribe_0 rfl (lv_at hl 3 rfl) ?_
  refine lv_iconst (v := 0) hx hb dL_bribe_1 (by decide) ?_
  refine lv_aload_n hx hb dL_bribe_2 rfl (lv_at hl 0 rfl) ?_
  refine lv_iload_n hx hb dL_bribe_3 rfl (lv_at hl 1 rfl) ?_
  refine lv_iload_n hx hb dL_bribe_4 rfl (lv_at hl 2 rfl) ?_
  refine g_ccalli (vx_runV (As := [.int x1, .int x2]) (rest := [.int 0, .ref ou]) ⟨hx, hb, hml, hown, hts⟩ (k6_bribe l hst D base g a0 x1 x2 o g1 hF) (cwV 2 hts gL_bribe_X6_bribe rfl rfl rfl (by decide +kernel) ⟨Nat.le_of_ble_eq_true rfl, Nat.le_of_ble_eq_true rfl⟩) (gC.preV hE hP hS 6 rfl (by decide) hk [.int x1, .int x2]) rfl rfl hl.1 rfl (lv_room (Nat.le_of_ble_eq_true rfl)) dL_bribe_5 ⟨(Nat.le_of_ble_eq_true rfl), (Nat.le_of_ble_eq_true rfl)⟩) hS (fun ce q9 z H locs h0 h3 hz hP hS hce hcv hcl => ?_) (fun r H locs hor hP hS => ?_)
  · rcases hc with e | e | e
    · exact absurd e h0
    · have hcl : s.vm.findClass gEI = some ce.cls := by
        rw [e] at hcl; exact hcl
      refine vx_catch (own := RL) (name := gEI) hown [] ⟨0, 17, 20, 19⟩ [⟨0, 17, 24, 13⟩] ht (fun z hz => nomatch hz) (by decide) (by decide) (hts (.classLink RL 19 "java/lang/IndexOutOfBoundsException") (by decide +kernel)) (va_Nw.use rfl (hE.2.2.2.2.2.2.2.2.1 (gEI, gEI) (by decide +kernel))) hce hcv hcl ?_
      refine lv_astore (lv' := [(4, .ref q9), (0, .ref a0), (1, .int x1), (2, .int x2), (3, .ref ou)]) hx hb dL_bribe_20 hl (by decide) rfl (fun ls hl => ?_)
      refine lv_iconst (v := 1) hx hb dL_bribe_22 (by decide) ?_
      exact g_pret (Or.inr ⟨h0, by rw [e]; rfl, z, by rw [hsz]; exact hz, rfl⟩) hx hb hr hlocks hP hS (Nat.le_of_ble_eq_true rfl) (Nat.le_of_ble_eq_true rfl) dL_bribe_23
    · have hcl : s.vm.findClass gES = some ce.cls := by
        rw [e] at hcl; exact hcl
      refine vx_catch (own := RL) (name := gES) hown [⟨0, 17, 20, 19⟩] ⟨0, 17, 24, 13⟩ [] ht (List.forall_mem_cons.mpr ⟨Or.inr ⟨by decide, gEI, hts (.classLink RL 19 "java/lang/IndexOutOfBoundsException") (by decide +kernel), hE.2.2.2.2.2.2.2.2.2.1 (gES, gEI) (by decide +kernel)⟩, fun _ h => nomatch h⟩) (by decide) (by decide) (hts (.classLink RL 13 "java/lang/IllegalStateException") (by decide +kernel)) (va_Nw.use rfl (hE.2.2.2.2.2.2.2.2.1 (gES, gES) (by decide +kernel))) hce hcv hcl ?_
      refine lv_astore (lv' := [(4, .ref q9), (0, .ref a0), (1, .int x1), (2, .int x2), (3, .ref ou)]) hx hb dL_bribe_24 hl (by decide) rfl (fun ls hl => ?_)
      refine lv_iconst (v := 2) hx hb dL_bribe_26 (by decide) ?_
      exact g_pret (Or.inr ⟨h0, by rw [e]; rfl, z, by rw [hsz]; exact hz, rfl⟩) hx hb hr hlocks hP hS (Nat.le_of_ble_eq_true rfl) (Nat.le_of_ble_eq_true rfl) dL_bribe_27
  · have e0 : o.1 = 0 := by rw [hor]
    have er : o.2 = r := by rw [hor]
    refine lv_if_eq (tgt := 15) hx hb dL_bribe_8 (by decide) (fun c8 => ?_) (fun c8 => ?_)
    · refine lv_lconst (v := 0) hx hb dL_bribe_15 (by decide) ?_
      refine g_last hx hb hP hS ho (fun q => by rcases q with q | q; exact absurd q (by decide); exact absurd q (by rw [show Int32.toNatClampNeg (0 : Int32) = 0 from rfl]; omega)) dL_bribe_16 (fun H locs hP hS => ?_)
      refine lv_goto (tgt := 28) hx hb dL_bribe_17 (by decide) ?_
      refine lv_iconst (v := 0) hx hb dL_bribe_28 (by decide) ?_
      exact g_pret (Or.inl ⟨e0, rfl, by rw [er]; rw [if_pos c8]; rfl⟩) hx hb hr hlocks hP hS (Nat.le_of_ble_eq_true rfl) (Nat.le_of_ble_eq_true rfl) dL_bribe_29
    · refine lv_lconst (v := 1) hx hb dL_bribe_11 (by decide) ?_
      refine lv_goto (tgt := 16) hx hb dL_bribe_12 (by decide) ?_
      refine g_last hx hb hP hS ho (fun q => by rcases q with q | q; exact absurd q (by decide); exact absurd q (by rw [show Int32.toNatClampNeg (0 : Int32) = 0 from rfl]; omega)) dL_bribe_16 (fun H locs hP hS => ?_)
      refine lv_goto (tgt := 28) hx hb dL_bribe_17 (by decide) ?_
      refine lv_iconst (v := 0) hx hb dL_bribe_28 (by decide) ?_
      exact g_pret (Or.inl ⟨e0, rfl, by rw [er]; rw [if_neg c8]; rfl⟩) hx hb hr hlocks hP hS (Nat.le_of_ble_eq_true rfl) (Nat.le_of_ble_eq_true rfl) dL_bribe_29
set_option maxHeartbeats 4000000 in
set_option maxRecDepth 100000 in
theorem hL_bee (l : Launch) (hst : l.stackTraces = false) (D : va_G) (base : Nat) (g : g_H) (a0 ou no : Nat) (x1 : Int32) (x2 : Int32) (o : Nat × Int32) (g1 : g_H) (hF : f6_bee g a0 x1 x2 = some (o, g1)) (hk : (gS g a0).1 = 7) (ho : gS g1 ou = (13, no)) (hno : 0 < no) (hc : o.1 = 0 ∨ o.1 = 1) : Met l yL_bee wsL_bee ({ frames := 8, cells := 2, slots := 12, locals := 133 } : Room) (va_Pc [.ref a0, .int x1, .int x2, .ref ou] (gC base D g)) (va_Qi (hp c1 g g1 ou o.1 (Int32.toInt64 o.2)) (gB base D) (gA base)) 2 12 (gA base) := by
  refine g_lmet (cc := cL_bee) (maxL := 5) (ret := (some .int)) (lst := [(0, .ref a0), (1, .int x1), (2, .int x2), (3, .ref ou)]) (by decide) rfl (Nat.le_of_ble_eq_true rfl) rfl ?_
  intro p e s m args below meth c ls hx hb hr hml hown hlocks hname hts hE hP hl ht
  have hown : s.vm.findClass RL = some m.cls := hown
  have hS : va_S (gA base) s.heap s.heap [] := va_S.rf
  have hsz := hP.1
  refine lv_aload_n hx hb dL_bee_0 rfl (lv_at hl 3 rfl) ?_
  refine lv_iconst (v := 0) hx hb dL_bee_1 (by decide) ?_
  refine lv_aload_n hx hb dL_bee_2 rfl (lv_at hl 0 rfl) ?_
  refine lv_iload_n hx hb dL_bee_3 rfl (lv_at hl 1 rfl) ?_
  refine lv_iload_n hx hb dL_bee_4 rfl (lv_at hl 2 rfl) ?_
  refine g_ccalli (vx_runV (As := [.int x1, .int x2]) (rest := [.int 0, .ref ou]) ⟨hx, hb, hml, hown, hts⟩ (k6_bee l hst D base g a0 x1 x2 o g1 hF) (cwV 2 hts gL_bee_X6_bee rfl rfl rfl (by decide +kernel) ⟨Nat.le_of_ble_eq_true rfl, Nat.le_of_ble_eq_true rfl⟩) (gC.preV hE hP hS 6 rfl (by decide) hk [.int x1, .int x2]) rfl rfl hl.1 rfl (lv_room (Nat.le_of_ble_eq_true rfl)) dL_bee_5 ⟨(Nat.le_of_ble_eq_true rfl), (Nat.le_of_ble_eq_true rfl)⟩) hS (fun ce q9 z H locs h0 h3 hz hP hS hce hcv hcl => ?_) (fun r H locs hor hP hS => ?_)
  · rcases hc with e | e
    · exact absurd e h0
    · have hcl : s.vm.findClass gEI = some ce.cls := by
        rw [e] at hcl; exact hcl
      refine vx_catch (own := RL) (name := gEI) hown [] ⟨0, 10, 13, 19⟩ [] ht (fun z hz => nomatch hz) (by decide) (by decide) (hts (.classLink RL 19 "java/lang/IndexOutOfBoundsException") (by decide +kernel)) (va_Nw.use rfl (hE.2.2.2.2.2.2.2.2.1 (gEI, gEI) (by decide +kernel))) hce hcv hcl ?_
      refine lv_astore (lv' := [(4, .ref q9), (0, .ref a0), (1, .int x1), (2, .int x2), (3, .ref ou)]) hx hb dL_bee_13 hl (by decide) rfl (fun ls hl => ?_)
      refine lv_iconst (v := 1) hx hb dL_bee_15 (by decide) ?_
      exact g_pret (Or.inr ⟨h0, by rw [e]; rfl, z, by rw [hsz]; exact hz, rfl⟩) hx hb hr hlocks hP hS (Nat.le_of_ble_eq_true rfl) (Nat.le_of_ble_eq_true rfl) dL_bee_16
  · have e0 : o.1 = 0 := by rw [hor]
    have er : o.2 = r := by rw [hor]
    refine lv_i2l (v := Int32.toInt64 r) hx hb dL_bee_8 rfl ?_
    refine g_last hx hb hP hS ho (fun q => by rcases q with q | q; exact absurd q (by decide); exact absurd q (by rw [show Int32.toNatClampNeg (0 : Int32) = 0 from rfl]; omega)) dL_bee_9 (fun H locs hP hS => ?_)
    refine lv_goto (tgt := 17) hx hb dL_bee_10 (by decide) ?_
    refine lv_iconst (v := 0) hx hb dL_bee_17 (by decide) ?_
    exact g_pret (Or.inl ⟨e0, rfl, by rw [er]; rfl⟩) hx hb hr hlocks hP hS (Nat.le_of_ble_eq_true rfl) (Nat.le_of_ble_eq_true rfl) dL_bee_18
set_option maxHeartbeats 4000000 in
set_option maxRecDepth 100000 in
theorem hL_letter (l : Launch) (hst : l.stackTraces = false) (D : va_G) (base : Nat) (g : g_H) (a0 ou no : Nat) (x1 : Int32) (x2 : Int32) (o : Nat × Int32) (g1 : g_H) (hF : f6_letter g a0 x1 x2 = some (o, g1)) (hk : (gS g a0).1 = 7) (ho : gS g1 ou = (13, no)) (hno : 0 < no) (hc : o.1 = 0 ∨ o.1 = 1) : Met l yL_letter wsL_letter ({ frames := 8, cells := 2, slots := 12, locals := 133 } : Room) (va_Pc [.ref a0, .int x1, .int x2, .ref ou] (gC base D g)) (va_Qi (hp c1 g g1 ou o.1 (Int32.toInt64 o.2)) (gB base D) (gA base)) 2 12 (gA base) := by
  refine g_lmet (cc := cL_letter) (maxL := 5) (ret := (some .int)) (lst := [(0, .ref a0), (1, .int x1), (2, .int x2), (3, .ref ou)]) (by decide) rfl (Nat.le_of_ble_eq_true rfl) rfl ?_
  intro p e s m args below meth c ls hx hb hr hml hown hlocks hname hts hE hP hl ht
  have hown : s.vm.findClass RL = some m.cls := hown
  have hS : va_S (gA base) s.heap s.heap [] := va_S.rf
  have hsz := hP.1
  refine lv_aload_n hx hb dL_letter_0 rfl (lv_at hl 3 rfl) ?_
  refine lv_iconst (v := 0) hx hb dL_letter_1 (by decide) ?_
  refine lv_aload_n hx hb dL_letter_2 rfl (lv_at hl 0 rfl) ?_
  refine lv_iload_n hx hb dL_letter_3 rfl (lv_at hl 1 rfl) ?_
  refine lv_iload_n hx hb dL_letter_4 rfl (lv_at hl 2 rfl) ?_
  refine g_ccalli (vx_runV (As := [.int x1, .int x2]) (rest := [.int 0, .ref ou]) ⟨hx, hb, hml, hown, hts⟩ (k6_letter l hst D base g a0 x1 x2 o g1 hF) (cwV 2 hts gL_letter_X6_letter rfl rfl rfl (by decide +kernel) ⟨Nat.le_of_ble_eq_true rfl, Nat.le_of_ble_eq_true rfl⟩) (gC.preV hE hP hS 6 rfl (by decide) hk [.int x1, .int x2]) rfl rfl hl.1 rfl (lv_room (Nat.le_of_ble_eq_true rfl)) dL_letter_5 ⟨(Nat.le_of_ble_eq_true rfl), (Nat.le_of_ble_eq_true rfl)⟩) hS (fun ce q9 z H locs h0 h3 hz hP hS hce hcv hcl => ?_) (fun r H locs hor hP hS => ?_)
  · rcases hc with e | e
    · exact absurd e h0
    · have hcl : s.vm.findClass gEI = some ce.cls := by
        rw [e] at hcl; exact hcl
      refine vx_catch (own := RL) (name := gEI) hown [] ⟨0, 10, 13, 19⟩ [] ht (fun z hz => nomatch hz) (by decide) (by decide) (hts (.classLink RL 19 "java/lang/IndexOutOfBoundsException") (by decide +kernel)) (va_Nw.use rfl (hE.2.2.2.2.2.2.2.2.1 (gEI, gEI) (by decide +kernel))) hce hcv hcl ?_
      refine lv_astore (lv' := [(4, .ref q9), (0, .ref a0), (1, .int x1), (2, .int x2), (3, .ref ou)]) hx hb dL_letter_13 hl (by decide) rfl (fun ls hl => ?_)
      refine lv_iconst (v := 1) hx hb dL_letter_15 (by decide) ?_
      exact g_pret (Or.inr ⟨h0, by rw [e]; rfl, z, by rw [hsz]; exact hz, rfl⟩) hx hb hr hlocks hP hS (Nat.le_of_ble_eq_true rfl) (Nat.le_of_ble_eq_true rfl) dL_letter_16
  · have e0 : o.1 = 0 := by rw [hor]
    have er : o.2 = r := by rw [hor]
    refine lv_i2l (v := Int32.toInt64 r) hx hb dL_letter_8 rfl ?_
    refine g_last hx hb hP hS ho (fun q => by rcases q with q | q; exact absurd q (by decide); exact absurd q (by rw [show Int32.toNatClampNeg (0 : Int32) = 0 from rfl]; omega)) dL_letter_9 (fun H locs hP hS => ?_)
    refine lv_goto (tgt := 17) hx hb dL_letter_10 (by decide) ?_
    refine lv_iconst (v := 0) hx hb dL_letter_17 (by decide) ?_
    exact g_pret (Or.inl ⟨e0, rfl, by rw [er]; rfl⟩) hx hb hr hlocks hP hS (Nat.le_of_ble_eq_true rfl) (Nat.le_of_ble_eq_true rfl) dL_letter_18
set_option maxHeartbeats 4000000 in
set_option maxRecDepth 100000 in
theorem hL_target (l : Launch) (hst : l.stackTraces = false) (D : va_G) (base : Nat) (g : g_H) (a0 ou no : Nat) (x1 : Int32) (x2 : Int32) (o : Nat × Int32) (g1 : g_H) (hF : f6_target g a0 x1 x2 = some (o, g1)) (hk : (gS g a0).1 = 7) (ho : gS g1 ou = (13, no)) (hno : 0 < no) (hc : o.1 = 0 ∨ o.1 = 1) : Met l yL_target wsL_target ({ frames := 8, cells := 2, slots := 12, locals := 133 } : Room) (va_Pc [.ref a0, .int x1, .int x2, .ref ou] (gC base D g)) (va_Qi (hp c1 g g1 ou o.1 (Int32.toInt64 o.2)) (gB base D) (gA base)) 2 12 (gA base) := by
  refine g_lmet (cc := cL_target) (maxL := 5) (ret := (some .int)) (lst := [(0, .ref a0), (1, .int x1), (2, .int x2), (3, .ref ou)]) (by decide) rfl (Nat.le_of_ble_eq_true rfl) rfl ?_
  intro p e s m args below meth c ls hx hb hr hml hown hlocks hname hts hE hP hl ht
  have hown : s.vm.findClass RL = some m.cls := hown
  have hS : va_S (gA base) s.heap s.heap [] := va_S.rf
  have hsz := hP.1
  refine lv_aload_n hx hb dL_target_0 rfl (lv_at hl 3 rfl) ?_
  refine lv_iconst (v := 0) hx hb dL_target_1 (by decide) ?_
  refine lv_aload_n hx hb dL_target_2 rfl (lv_at hl 0 rfl) ?_
  refine lv_iload_n hx hb dL_target_3 rfl (lv_at hl 1 rfl) ?_
  refine lv_iload_n hx hb dL_target_4 rfl (lv_at hl 2 rfl) ?_
  refine g_ccalli (vx_runV (As := [.int x1, .int x2]) (rest := [.int 0, .ref ou]) ⟨hx, hb, hml, hown, hts⟩ (k6_target l hst D base g a0 x1 x2 o g1 hF) (cwV 2 hts gL_target_X6_target rfl rfl rfl (by decide +kernel) ⟨Nat.le_of_ble_eq_true rfl, Nat.le_of_ble_eq_true rfl⟩) (gC.preV hE hP hS 6 rfl (by decide) hk [.int x1, .int x2]) rfl rfl hl.1 rfl (lv_room (Nat.le_of_ble_eq_true rfl)) dL_target_5 ⟨(Nat.le_of_ble_eq_true rfl), (Nat.le_of_ble_eq_true rfl)⟩) hS (fun ce q9 z H locs h0 h3 hz hP hS hce hcv hcl => ?_) (fun r H locs hor hP hS => ?_)
  · rcases hc with e | e
    · exact absurd e h0
    · have hcl : s.vm.findClass gEI = some ce.cls := by
        rw [e] at hcl; exact hcl
      refine vx_catch (own := RL) (name := gEI) hown [] ⟨0, 10, 13, 19⟩ [] ht (fun z hz => nomatch hz) (by decide) (by decide) (hts (.classLink RL 19 "java/lang/IndexOutOfBoundsException") (by decide +kernel)) (va_Nw.use rfl (hE.2.2.2.2.2.2.2.2.1 (gEI, gEI) (by decide +kernel))) hce hcv hcl ?_
      refine lv_astore (lv' := [(4, .ref q9), (0, .ref a0), (1, .int x1), (2, .int x2), (3, .ref ou)]) hx hb dL_target_13 hl (by decide) rfl (fun ls hl => ?_)
      refine lv_iconst (v := 1) hx hb dL_target_15 (by decide) ?_
      exact g_pret (Or.inr ⟨h0, by rw [e]; rfl, z, by rw [hsz]; exact hz, rfl⟩) hx hb hr hlocks hP hS (Nat.le_of_ble_eq_true rfl) (Nat.le_of_ble_eq_true rfl) dL_target_16
  · have e0 : o.1 = 0 := by rw [hor]
    have er : o.2 = r := by rw [hor]
    refine lv_i2l (v := Int32.toInt64 r) hx hb dL_target_8 rfl ?_
    refine g_last hx hb hP hS ho (fun q => by rcases q with q | q; exact absurd q (by decide); exact absurd q (by rw [show Int32.toNatClampNeg (0 : Int32) = 0 from rfl]; omega)) dL_target_9 (fun H locs hP hS => ?_)
    refine lv_goto (tgt := 17) hx hb dL_target_10 (by decide) ?_
    refine lv_iconst (v := 0) hx hb dL_target_17 (by decide) ?_
    exact g_pret (Or.inl ⟨e0, rfl, by rw [er]; rfl⟩) hx hb hr hlocks hP hS (Nat.le_of_ble_eq_true rfl) (Nat.le_of_ble_eq_true rfl) dL_target_18
set_option maxHeartbeats 4000000 in
set_option maxRecDepth 100000 in
theorem hL_pass (l : Launch) (hst : l.stackTraces = false) (D : va_G) (base : Nat) (g : g_H) (a0 ou no : Nat) (x1 : Int32) (o : Nat × Int32) (g1 : g_H) (hF : f6_pass g a0 x1 = some (o, g1)) (hk : (gS g a0).1 = 7) (ho : gS g1 ou = (13, no)) (hno : 0 < no) (hc : o.1 = 0 ∨ o.1 = 2) : Met l yL_pass wsL_pass ({ frames := 7, cells := 1, slots := 6, locals := 158 } : Room) (va_Pc [.ref a0, .int x1, .ref ou] (gC base D g)) (va_Qi (hp (fun c => if c = 0 then 0 else 1) g g1 ou o.1 (Int32.toInt64 o.2)) (gB base D) (gA base)) 1 6 (gA base) := by
  refine g_lmet (cc := cL_pass) (maxL := 4) (ret := (some .int)) (lst := [(0, .ref a0), (1, .int x1), (2, .ref ou)]) (by decide) rfl (Nat.le_of_ble_eq_true rfl) rfl ?_
  intro p e s m args below meth c ls hx hb hr hml hown hlocks hname hts hE hP hl ht
  have hown : s.vm.findClass RL = some m.cls := hown
  have hS : va_S (gA base) s.heap s.heap [] := va_S.rf
  have hsz := hP.1
  refine lv_aload_n hx hb dL_pass_0 rfl (lv_at hl 2 rfl) ?_
  refine lv_iconst (v := 0) hx hb dL_pass_1 (by decide) ?_
  refine lv_aload_n hx hb dL_pass_2 rfl (lv_at hl 0 rfl) ?_
  refine lv_iload_n hx hb dL_pass_3 rfl (lv_at hl 1 rfl) ?_
  refine g_ccalli (vx_runV (As := [.int x1]) (rest := [.int 0, .ref ou]) ⟨hx, hb, hml, hown, hts⟩ (k6_pass l hst D base g a0 x1 o g1 hF) (cwV 1 hts gL_pass_X6_pass rfl rfl rfl (by decide +kernel) ⟨Nat.le_of_ble_eq_true rfl, Nat.le_of_ble_eq_true rfl⟩) (gC.preV hE hP hS 6 rfl (by decide) hk [.int x1]) rfl rfl hl.1 rfl (lv_room (Nat.le_of_ble_eq_true rfl)) dL_pass_4 ⟨(Nat.le_of_ble_eq_true rfl), (Nat.le_of_ble_eq_true rfl)⟩) hS (fun ce q9 z H locs h0 h3 hz hP hS hce hcv hcl => ?_) (fun r H locs hor hP hS => ?_)
  · rcases hc with e | e
    · exact absurd e h0
    · have hcl : s.vm.findClass gEA = some ce.cls := by
        rw [e] at hcl; exact hcl
      refine vx_catch (own := RL) (name := gEA) hown [] ⟨0, 9, 12, 25⟩ [] ht (fun z hz => nomatch hz) (by decide) (by decide) (hts (.classLink RL 25 "java/lang/IllegalArgumentException") (by decide +kernel)) (va_Nw.use rfl (hE.2.2.2.2.2.2.2.2.1 (gEA, gEA) (by decide +kernel))) hce hcv hcl ?_
      refine lv_astore_n (lv' := [(3, .ref q9), (0, .ref a0), (1, .int x1), (2, .ref ou)]) hx hb dL_pass_12 rfl hl (by decide) rfl (fun ls hl => ?_)
      refine lv_iconst (v := 1) hx hb dL_pass_13 (by decide) ?_
      exact g_pret (Or.inr ⟨h0, by rw [e]; rfl, z, by rw [hsz]; exact hz, rfl⟩) hx hb hr hlocks hP hS (Nat.le_of_ble_eq_true rfl) (Nat.le_of_ble_eq_true rfl) dL_pass_14
  · have e0 : o.1 = 0 := by rw [hor]
    have er : o.2 = r := by rw [hor]
    refine lv_i2l (v := Int32.toInt64 r) hx hb dL_pass_7 rfl ?_
    refine g_last hx hb hP hS ho (fun q => by rcases q with q | q; exact absurd q (by decide); exact absurd q (by rw [show Int32.toNatClampNeg (0 : Int32) = 0 from rfl]; omega)) dL_pass_8 (fun H locs hP hS => ?_)
    refine lv_goto (tgt := 15) hx hb dL_pass_9 (by decide) ?_
    refine lv_iconst (v := 0) hx hb dL_pass_15 (by decide) ?_
    exact g_pret (Or.inl ⟨e0, rfl, by rw [er]; rfl⟩) hx hb hr hlocks hP hS (Nat.le_of_ble_eq_true rfl) (Nat.le_of_ble_eq_true rfl) dL_pass_16
set_option maxHeartbeats 4000000 in
set_option maxRecDepth 100000 in
theorem hL_count (l : Launch) (hst : l.stackTraces = false) (D : va_G) (base : Nat) (g : g_H) (a0 ou no : Nat) (x1 : Int32) (o : Nat × Int32) (g1 : g_H) (hF : f6_count g a0 x1 = some (o, g1)) (hk : (gS g a0).1 = 7) (ho : gS g1 ou = (13, no)) (hno : 0 < no) (hc : o.1 = 0 ∨ o.1 = 1) : Met l yL_count wsL_count ({ frames := 8, cells := 1, slots := 6, locals := 132 } : Room) (va_Pc [.ref a0, .int x1, .ref ou] (gC base D g)) (va_Qi (hp c1 g g1 ou o.1 (Int32.toInt64 o.2)) (gB base D) (gA base)) 1 6 (gA base) := by
  refine g_lmet (cc := cL_count) (maxL := 4) (ret := (some .int)) (lst := [(0, .ref a0), (1, .int x1), (2, .ref ou)]) (by decide) rfl (Nat.le_of_ble_eq_true rfl) rfl ?_
  intro p e s m args below meth c ls hx hb hr hml hown hlocks hname hts hE hP hl ht
  have hown : s.vm.findClass RL = some m.cls := hown
  have hS : va_S (gA base) s.heap s.heap [] := va_S.rf
  have hsz := hP.1
  refine lv_aload_n hx hb dL_count_0 rfl (lv_at hl 2 rfl) ?_
  refine lv_iconst (v := 0) hx hb dL_count_1 (by decide) ?_
  refine lv_aload_n hx hb dL_count_2 rfl (lv_at hl 0 rfl) ?_
  refine lv_iload_n hx hb dL_count_3 rfl (lv_at hl 1 rfl) ?_
  refine g_ccalli (vx_runV (As := [.int x1]) (rest := [.int 0, .ref ou]) ⟨hx, hb, hml, hown, hts⟩ (k6_count l hst D base g a0 x1 o g1 hF) (cwV 1 hts gL_count_X6_count rfl rfl rfl (by decide +kernel) ⟨Nat.le_of_ble_eq_true rfl, Nat.le_of_ble_eq_true rfl⟩) (gC.preV hE hP hS 6 rfl (by decide) hk [.int x1]) rfl rfl hl.1 rfl (lv_room (Nat.le_of_ble_eq_true rfl)) dL_count_4 ⟨(Nat.le_of_ble_eq_true rfl), (Nat.le_of_ble_eq_true rfl)⟩) hS (fun ce q9 z H locs h0 h3 hz hP hS hce hcv hcl => ?_) (fun r H locs hor hP hS => ?_)
  · rcases hc with e | e
    · exact absurd e h0
    · have hcl : s.vm.findClass gEI = some ce.cls := by
        rw [e] at hcl; exact hcl
      refine vx_catch (own := RL) (name := gEI) hown [] ⟨0, 9, 12, 19⟩ [] ht (fun z hz => nomatch hz) (by decide) (by decide) (hts (.classLink RL 19 "java/lang/IndexOutOfBoundsException") (by decide +kernel)) (va_Nw.use rfl (hE.2.2.2.2.2.2.2.2.1 (gEI, gEI) (by decide +kernel))) hce hcv hcl ?_
      refine lv_astore_n (lv' := [(3, .ref q9), (0, .ref a0), (1, .int x1), (2, .ref ou)]) hx hb dL_count_12 rfl hl (by decide) rfl (fun ls hl => ?_)
      refine lv_iconst (v := 1) hx hb dL_count_13 (by decide) ?_
      exact g_pret (Or.inr ⟨h0, by rw [e]; rfl, z, by rw [hsz]; exact hz, rfl⟩) hx hb hr hlocks hP hS (Nat.le_of_ble_eq_true rfl) (Nat.le_of_ble_eq_true rfl) dL_count_14
  · have e0 : o.1 = 0 := by rw [hor]
    have er : o.2 = r := by rw [hor]
    refine lv_i2l (v := Int32.toInt64 r) hx hb dL_count_7 rfl ?_
    refine g_last hx hb hP hS ho (fun q => by rcases q with q | q; exact absurd q (by decide); exact absurd q (by rw [show Int32.toNatClampNeg (0 : Int32) = 0 from rfl]; omega)) dL_count_8 (fun H locs hP hS => ?_)
    refine lv_goto (tgt := 15) hx hb dL_count_9 (by decide) ?_
    refine lv_iconst (v := 0) hx hb dL_count_15 (by decide) ?_
    exact g_pret (Or.inl ⟨e0, rfl, by rw [er]; rfl⟩) hx hb hr hlocks hP hS (Nat.le_of_ble_eq_true rfl) (Nat.le_of_ble_eq_true rfl) dL_count_16
set_option maxHeartbeats 4000000 in
set_option maxRecDepth 100000 in
theorem hL_comes (l : Launch) (hst : l.stackTraces = false) (D : va_G) (base : Nat) (g : g_H) (a0 ou no : Nat) (x1 : Int32) (o : Nat × Int32) (g1 : g_H) (hF : f6_comes g a0 x1 = some (o, g1)) (hk : (gS g a0).1 = 7) (ho : gS g1 ou = (13, no)) (hno : 0 < no) (hc : o.1 = 0 ∨ o.1 = 1) : Met l yL_comes wsL_comes ({ frames := 8, cells := 1, slots := 6, locals := 137 } : Room) (va_Pc [.ref a0, .int x1, .ref ou] (gC base D g)) (va_Qi (hp c1 g g1 ou o.1 (Int32.toInt64 o.2)) (gB base D) (gA base)) 1 6 (gA base) := by
  refine g_lmet (cc := cL_comes) (maxL := 4) (ret := (some .int)) (lst := [(0, .ref a0), (1, .int x1), (2, .ref ou)]) (by decide) rfl (Nat.le_of_ble_eq_true rfl) rfl ?_
  intro p e s m args below meth c ls hx hb hr hml hown hlocks hname hts hE hP hl ht
  have hown : s.vm.findClass RL = some m.cls := hown
  have hS : va_S (gA base) s.heap s.heap [] := va_S.rf
  have hsz := hP.1
  refine lv_aload_n hx hb dL_comes_0 rfl (lv_at hl 2 rfl) ?_
  refine lv_iconst (v := 0) hx hb dL_comes_1 (by decide) ?_
  refine lv_aload_n hx hb dL_comes_2 rfl (lv_at hl 0 rfl) ?_
  refine lv_iload_n hx hb dL_comes_3 rfl (lv_at hl 1 rfl) ?_
  refine g_ccalli (vx_runV (As := [.int x1]) (rest := [.int 0, .ref ou]) ⟨hx, hb, hml, hown, hts⟩ (k6_comes l hst D base g a0 x1 o g1 hF) (cwV 1 hts gL_comes_X6_comes rfl rfl rfl (by decide +kernel) ⟨Nat.le_of_ble_eq_true rfl, Nat.le_of_ble_eq_true rfl⟩) (gC.preV hE hP hS 6 rfl (by decide) hk [.int x1]) rfl rfl hl.1 rfl (lv_room (Nat.le_of_ble_eq_true rfl)) dL_comes_4 ⟨(Nat.le_of_ble_eq_true rfl), (Nat.le_of_ble_eq_true rfl)⟩) hS (fun ce q9 z H locs h0 h3 hz hP hS hce hcv hcl => ?_) (fun r H locs hor hP hS => ?_)
  · rcases hc with e | e
    · exact absurd e h0
    · have hcl : s.vm.findClass gEI = some ce.cls := by
        rw [e] at hcl; exact hcl
      refine vx_catch (own := RL) (name := gEI) hown [] ⟨0, 9, 12, 19⟩ [] ht (fun z hz => nomatch hz) (by decide) (by decide) (hts (.classLink RL 19 "java/lang/IndexOutOfBoundsException") (by decide +kernel)) (va_Nw.use rfl (hE.2.2.2.2.2.2.2.2.1 (gEI, gEI) (by decide +kernel))) hce hcv hcl ?_
      refine lv_astore_n (lv' := [(3, .ref q9), (0, .ref a0), (1, .int x1), (2, .ref ou)]) hx hb dL_comes_12 rfl hl (by decide) rfl (fun ls hl => ?_)
      refine lv_iconst (v := 1) hx hb dL_comes_13 (by decide) ?_
      exact g_pret (Or.inr ⟨h0, by rw [e]; rfl, z, by rw [hsz]; exact hz, rfl⟩) hx hb hr hlocks hP hS (Nat.le_of_ble_eq_true rfl) (Nat.le_of_ble_eq_true rfl) dL_comes_14
  · have e0 : o.1 = 0 := by rw [hor]
    have er : o.2 = r := by rw [hor]
    refine lv_i2l (v := Int32.toInt64 r) hx hb dL_comes_7 rfl ?_
    refine g_last hx hb hP hS ho (fun q => by rcases q with q | q; exact absurd q (by decide); exact absurd q (by rw [show Int32.toNatClampNeg (0 : Int32) = 0 from rfl]; omega)) dL_comes_8 (fun H locs hP hS => ?_)
    refine lv_goto (tgt := 15) hx hb dL_comes_9 (by decide) ?_
    refine lv_iconst (v := 0) hx hb dL_comes_15 (by decide) ?_
    exact g_pret (Or.inl ⟨e0, rfl, by rw [er]; rfl⟩) hx hb hr hlocks hP hS (Nat.le_of_ble_eq_true rfl) (Nat.le_of_ble_eq_true rfl) dL_comes_16
set_option maxHeartbeats 4000000 in
set_option maxRecDepth 100000 in
theorem hL_advise (l : Launch) (hst : l.stackTraces = false) (D : va_G) (base : Nat) (g : g_H) (a0 ou no : Nat) (x1 : Int32) (o : Nat × Int32) (g1 : g_H) (hF : f6_advise g a0 x1 = some (o, g1)) (hk : (gS g a0).1 = 7) (ho : gS g1 ou = (13, no)) (hno : 0 < no) (hc : o.1 = 0 ∨ o.1 = 2) : Met l yL_advise wsL_advise ({ frames := 8, cells := 1, slots := 6, locals := 184 } : Room) (va_Pc [.ref a0, .int x1, .ref ou] (gC base D g)) (va_Qi (hp c1 g g1 ou o.1 (Int32.toInt64 o.2)) (gB base D) (gA base)) 1 6 (gA base) := by
  refine g_lmet (cc := cL_advise) (maxL := 4) (ret := (some .int)) (lst := [(0, .ref a0), (1, .int x1), (2, .ref ou)]) (by decide) rfl (Nat.le_of_ble_eq_true rfl) rfl ?_
  intro p e s m args below meth c ls hx hb hr hml hown hlocks hname hts hE hP hl ht
  have hown : s.vm.findClass RL = some m.cls := hown
  have hS : va_S (gA base) s.heap s.heap [] := va_S.rf
  have hsz := hP.1
  refine lv_aload_n hx hb dL_advise_0 rfl (lv_at hl 2 rfl) ?_
  refine lv_iconst (v := 0) hx hb dL_advise_1 (by decide) ?_
  refine lv_aload_n hx hb dL_advise_2 rfl (lv_at hl 0 rfl) ?_
  refine lv_iload_n hx hb dL_advise_3 rfl (lv_at hl 1 rfl) ?_
  refine g_ccalli (vx_runV (As := [.int x1]) (rest := [.int 0, .ref ou]) ⟨hx, hb, hml, hown, hts⟩ (k6_advise l hst D base g a0 x1 o g1 hF) (cwV 1 hts gL_advise_X6_advise rfl rfl rfl (by decide +kernel) ⟨Nat.le_of_ble_eq_true rfl, Nat.le_of_ble_eq_true rfl⟩) (gC.preV hE hP hS 6 rfl (by decide) hk [.int x1]) rfl rfl hl.1 rfl (lv_room (Nat.le_of_ble_eq_true rfl)) dL_advise_4 ⟨(Nat.le_of_ble_eq_true rfl), (Nat.le_of_ble_eq_true rfl)⟩) hS (fun ce q9 z H locs h0 h3 hz hP hS hce hcv hcl => ?_) (fun r H locs hor hP hS => ?_)
  · rcases hc with e | e
    · exact absurd e h0
    · have hcl : s.vm.findClass gEA = some ce.cls := by
        rw [e] at hcl; exact hcl
      refine vx_catch (own := RL) (name := gEA) hown [] ⟨0, 9, 12, 25⟩ [] ht (fun z hz => nomatch hz) (by decide) (by decide) (hts (.classLink RL 25 "java/lang/IllegalArgumentException") (by decide +kernel)) (va_Nw.use rfl (hE.2.2.2.2.2.2.2.2.1 (gEA, gEA) (by decide +kernel))) hce hcv hcl ?_
      refine lv_astore_n (lv' := [(3, .ref q9), (0, .ref a0), (1, .int x1), (2, .ref ou)]) hx hb dL_advise_12 rfl hl (by decide) rfl (fun ls hl => ?_)
      refine lv_iconst (v := 1) hx hb dL_advise_13 (by decide) ?_
      exact g_pret (Or.inr ⟨h0, by rw [e]; rfl, z, by rw [hsz]; exact hz, rfl⟩) hx hb hr hlocks hP hS (Nat.le_of_ble_eq_true rfl) (Nat.le_of_ble_eq_true rfl) dL_advise_14
  · have e0 : o.1 = 0 := by rw [hor]
    have er : o.2 = r := by rw [hor]
    refine lv_i2l (v := Int32.toInt64 r) hx hb dL_advise_7 rfl ?_
    refine g_last hx hb hP hS ho (fun q => by rcases q with q | q; exact absurd q (by decide); exact absurd q (by rw [show Int32.toNatClampNeg (0 : Int32) = 0 from rfl]; omega)) dL_advise_8 (fun H locs hP hS => ?_)
    refine lv_goto (tgt := 15) hx hb dL_advise_9 (by decide) ?_
    refine lv_iconst (v := 0) hx hb dL_advise_15 (by decide) ?_
    exact g_pret (Or.inl ⟨e0, rfl, by rw [er]; rfl⟩) hx hb hr hlocks hP hS (Nat.le_of_ble_eq_true rfl) (Nat.le_of_ble_eq_true rfl) dL_advise_16
set_option maxHeartbeats 4000000 in
set_option maxRecDepth 100000 in
theorem hL_trusted (l : Launch) (hst : l.stackTraces = false) (D : va_G) (base : Nat) (g : g_H) (a0 ou no : Nat) (x1 : Int32) (o : Nat × Int32) (g1 : g_H) (hF : f6_trusted g a0 x1 = some (o, g1)) (hk : (gS g a0).1 = 7) (ho : gS g1 ou = (13, no)) (hno : 0 < no) (hc : o.1 = 0 ∨ o.1 = 1) : Met l yL_trusted wsL_trusted ({ frames := 8, cells := 1, slots := 6, locals := 138 } : Room) (va_Pc [.ref a0, .int x1, .ref ou] (gC base D g)) (va_Qi (hp c1 g g1 ou o.1 (Int32.toInt64 o.2)) (gB base D) (gA base)) 1 6 (gA base) := by
  refine g_lmet (cc := cL_trusted) (maxL := 4) (ret := (some .int)) (lst := [(0, .ref a0), (1, .int x1), (2, .ref ou)]) (by decide) rfl (Nat.le_of_ble_eq_true rfl) rfl ?_
  intro p e s m args below meth c ls hx hb hr hml hown hlocks hname hts hE hP hl ht
  have hown : s.vm.findClass RL = some m.cls := hown
  have hS : va_S (gA base) s.heap s.heap [] := va_S.rf
  have hsz := hP.1
  refine lv_aload_n hx hb dL_trusted_0 rfl (lv_at hl 2 rfl) ?_
  refine lv_iconst (v := 0) hx hb dL_trusted_1 (by decide) ?_
  refine lv_aload_n hx hb dL_trusted_2 rfl (lv_at hl 0 rfl) ?_
  refine lv_iload_n hx hb dL_trusted_3 rfl (lv_at hl 1 rfl) ?_
  refine g_ccalli (vx_runV (As := [.int x1]) (rest := [.int 0, .ref ou]) ⟨hx, hb, hml, hown, hts⟩ (k6_trusted l hst D base g a0 x1 o g1 hF) (cwV 1 hts gL_trusted_X6_trusted rfl rfl rfl (by decide +kernel) ⟨Nat.le_of_ble_eq_true rfl, Nat.le_of_ble_eq_true rfl⟩) (gC.preV hE hP hS 6 rfl (by decide) hk [.int x1]) rfl rfl hl.1 rfl (lv_room (Nat.le_of_ble_eq_true rfl)) dL_trusted_4 ⟨(Nat.le_of_ble_eq_true rfl), (Nat.le_of_ble_eq_true rfl)⟩) hS (fun ce q9 z H locs h0 h3 hz hP hS hce hcv hcl => ?_) (fun r H locs hor hP hS => ?_)
  · rcases hc with e | e
    · exact absurd e h0
    · have hcl : s.vm.findClass gEI = some ce.cls := by
        rw [e] at hcl; exact hcl
      refine vx_catch (own := RL) (name := gEI) hown [] ⟨0, 9, 12, 19⟩ [] ht (fun z hz => nomatch hz) (by decide) (by decide) (hts (.classLink RL 19 "java/lang/IndexOutOfBoundsException") (by decide +kernel)) (va_Nw.use rfl (hE.2.2.2.2.2.2.2.2.1 (gEI, gEI) (by decide +kernel))) hce hcv hcl ?_
      refine lv_astore_n (lv' := [(3, .ref q9), (0, .ref a0), (1, .int x1), (2, .ref ou)]) hx hb dL_trusted_12 rfl hl (by decide) rfl (fun ls hl => ?_)
      refine lv_iconst (v := 1) hx hb dL_trusted_13 (by decide) ?_
      exact g_pret (Or.inr ⟨h0, by rw [e]; rfl, z, by rw [hsz]; exact hz, rfl⟩) hx hb hr hlocks hP hS (Nat.le_of_ble_eq_true rfl) (Nat.le_of_ble_eq_true rfl) dL_trusted_14
  · have e0 : o.1 = 0 := by rw [hor]
    have er : o.2 = r := by rw [hor]
    refine lv_i2l (v := Int32.toInt64 r) hx hb dL_trusted_7 rfl ?_
    refine g_last hx hb hP hS ho (fun q => by rcases q with q | q; exact absurd q (by decide); exact absurd q (by rw [show Int32.toNatClampNeg (0 : Int32) = 0 from rfl]; omega)) dL_trusted_8 (fun H locs hP hS => ?_)
    refine lv_goto (tgt := 15) hx hb dL_trusted_9 (by decide) ?_
    refine lv_iconst (v := 0) hx hb dL_trusted_15 (by decide) ?_
    exact g_pret (Or.inl ⟨e0, rfl, by rw [er]; rfl⟩) hx hb hr hlocks hP hS (Nat.le_of_ble_eq_true rfl) (Nat.le_of_ble_eq_true rfl) dL_trusted_16
end
