/-! THE SURROUNDINGS: what holds at every method's entry, heap apart; calls -/
def gTexts : List (Nat × String) := [(41, "there are 14 houses"), (60, "no lane can be like this"), (69, "there are 24 lanes, or there is a bee"), (80, "no such lane"), (83, "no gate can be open like this"), (104, "there are 6 bees"), (130, "the bee is at no house of this route"), (142, "the letter is there already"), (147, "there are 20 letters"), (168, "the bee can not take this letter now"), (187, "quarters are 1 to 240"), (206, "quarters are 1 to 120"), (233, "no such house"), (235, "no such bee"), (237, "no such letter"), (239, "nothing is told by this number"), (245, "no such route")]
def gEI : String := "java/lang/IndexOutOfBoundsException"
def gEA : String := "java/lang/IllegalArgumentException"
def gES : String := "java/lang/IllegalStateException"
def gEx (k : Nat) : String := if k = 1 then gEI else if k = 2 then gEA else gES
def gCasts : List (String × String) := [(gEI, gEI), (gEA, gEA), (gES, gES), ("[I", "java/lang/Cloneable")]
def gNots : List (String × String) := [(gEI, gEA), (gEI, gES), (gEA, gEI), (gEA, gES), (gES, gEI), (gES, gEA)]
def gDecls : List MethodName := [Bundle.initS "java/lang/RuntimeException", Bundle.initS "java/lang/Exception", Bundle.initS Bundle.tN]
def gNests : List (String × Nat × MethodName) := [(RX1, 30, yX3_init), (RX5, 21, yX2_init)]
def gE (base : Nat) (D : va_G) (U : State) (H : Heap) : Prop :=
  va_K D vwCl [] U ∧ vx_Zq Bundle.tN "UNASSIGNED_STACK" Bundle.steD (gA base) U H ∧ vx_Zq Bundle.tN "SUPPRESSED_SENTINEL" Bundle.listD (gA base) U H ∧
  (∀ q ∈ gTexts, ∃ sa, vk_R "CourierBees" q.1 q.2 sa U) ∧ va_AO "CourierBees$Bee" U ∧ va_AO "CourierBees$Lane" U ∧ va_AO "CourierBees$Letter" U ∧ gAOA .int U ∧
  (∀ q ∈ gCasts, va_Nw (.castable q.1 q.2) U) ∧ (∀ q ∈ gNots, va_Nc q.1 q.2 U) ∧ (∀ q ∈ gDecls, va_Nw (.declares q) U) ∧ (∀ q ∈ gNests, va_Nw (.methodLinkNest q.1 q.2.1 q.2.2 "CourierBees") U) ∧ base ≤ H.size
theorem gE.to {base : Nat} {D : va_G} {s U : State} {H0 H : Heap} (h : gE base D s H0) (hW : s.WarmedH U.vm) (hz : H0.size ≤ H.size) (hk : ∀ q : Nat, q < H0.size → ¬ gA base q → H[q]? = H0[q]?) : gE base D U H := by
  obtain ⟨h1, h2, h3, h4, h5, h6, h7, h8, h9, h10, h12, h13, h11⟩ := h
  refine ⟨h1.moved hW.alike, (vx_Zq.moved hW.alike h2).kept hk, (vx_Zq.moved hW.alike h3).kept hk, fun q hq => ?_, h5.moved hW.alike, h6.moved hW.alike, h7.moved hW.alike, h8.moved hW.alike, fun q hq => va_Nw.warmC hW (h9 q hq), fun q hq => va_Nc.moved hW.alike (h10 q hq), fun q hq => va_Nw.warmD hW (h12 q hq), fun q hq => va_Nw.warmM hW (h13 q hq), Nat.le_trans h11 hz⟩
  obtain ⟨sa, hs⟩ := h4 q hq
  exact ⟨sa, vk_R.warm hW hs⟩
theorem gE.same {base : Nat} {D : va_G} {s U : State} {H : Heap} (h : gE base D s H) (hv : U.vm = s.vm) : gE base D U H :=
  h.to (by rw [hv]; exact State.WarmedH.refl s) (Nat.le_refl _) (fun _ _ _ => rfl)
/-- a method's start, over the pure heap g -/
def gC (base : Nat) (D : va_G) (g : g_H) : State → Prop := fun U => gE base D U U.heap ∧ gP base D U g U.heap
theorem gC.blind {base : Nat} {D : va_G} {g : g_H} (av : List Value) : FrameBlind (va_Pc av (gC base D g)) := fun a U fr mk q => ⟨q.1, ⟨gE.same q.2.1 rfl, gP.moved (u := U) (U := U.calling fr mk a) (Vm.Alike.refl U.vm) q.2.2⟩⟩
/-- a method's end -/
abbrev gB (base : Nat) (D : va_G) (g1 : g_H) (t : State) : Prop := gP base D t g1 t.heap
abbrev gQi (base : Nat) (D : va_G) (r : Int32) (g1 : g_H) : Array Value → State → Outcome → State → Prop := va_Qi (fun (r' : Int32) (g' : g_H) => r' = r ∧ g' = g1) (gB base D) (gA base)
abbrev gQl (base : Nat) (D : va_G) (r : Int64) (g1 : g_H) : Array Value → State → Outcome → State → Prop := va_Ql (fun (r' : Int64) (g' : g_H) => r' = r ∧ g' = g1) (gB base D) (gA base)
abbrev gQd (base : Nat) (D : va_G) (r : UInt64) (g1 : g_H) : Array Value → State → Outcome → State → Prop := va_Qd (fun (r' : UInt64) (g' : g_H) => r' = r ∧ g' = g1) (gB base D) (gA base)
abbrev gQv (base : Nat) (D : va_G) (g1 : g_H) : Array Value → State → Outcome → State → Prop := va_Qv (fun (g' : g_H) => g' = g1) (gB base D) (gA base)
abbrev gQr (base : Nat) (D : va_G) (r : Nat) (g1 : g_H) : Array Value → State → Outcome → State → Prop := va_Qr (fun (g' : Nat × g_H) => g' = (r, g1)) (fun (u : Nat × g_H) (a : Nat) (t : State) => a = u.1 ∧ gB base D u.2 t) (gA base)
/-- one that throws: o = (0, r): the answer r; o = (k, _): thrown -/
abbrev gXi (base : Nat) (D : va_G) (o : Nat × Int32) (g1 : g_H) : Array Value → State → Outcome → State → Prop := va_Qi (fun (r' : Int32) (g' : g_H) => o = (0, r') ∧ g' = g1) (gB base D) (gA base)
abbrev gXv (base : Nat) (D : va_G) (o : Nat × Int32) (g1 : g_H) : Array Value → State → Outcome → State → Prop := va_Qv (fun (g' : g_H) => o.1 = 0 ∧ g' = g1) (gB base D) (gA base)
abbrev gX (base : Nat) (D : va_G) (o : Nat × Int32) (g1 : g_H) : String → State → State → Prop := vx_X (fun (z : Nat) => o.1 ≠ 0 ∧ o.1 ≤ 3) (fun E z t => E = gEx o.1 ∧ gB base D (gZset g1 z) t) (gA base)
section GCALL
variable {p : Program} {l : Launch} {e : Env} {R : Room} {s : State} {m : MethodId} {args : Array Value} {below : List Frame} {meth : Method} {c : Code} {H : Heap} {locs : List Loc} {cells slots : Nat} {Q : State → Prop}
variable {cc bytes : ByteArray} {pc : Nat} {ls : Array Slot} {st0 rest As : List Value} {D : va_G} {base : Nat} {g g1 : g_H} {a b : Nat} {Ts ws : List Cond} {own C : String} {index maxL nL n mc ms : Nat} {y : MethodName} {ret : Option FieldType} {rm : Room} {Qc : Array Value → State → Outcome → State → Prop} {XC : String → State → State → Prop}
theorem gC.pre (hE : gE base D s s.heap) (hP : gP base D s g H) (hS : va_S (gA base) s.heap H locs) (av : List Value) : ∀ U : State, U.heap = H → s.WarmedH U.vm → va_Pc av (gC base D g) av.toArray U :=
  fun U hU hW => ⟨rfl, by rw [hU]; exact hE.to hW hS.1 hS.2.1, by rw [hU]; exact hP.moved hW.alike⟩
theorem gC.preV {T : u_T} {N : Nat} (hE : gE base D s s.heap) (hP : gP base D s g H) (hS : va_S (gA base) s.heap H locs) (ci : Nat) (hc : vwCl[ci]? = some (C, T, N)) (hci : ci < 10) (hk0 : (gS g b).1 = ci + 1) (As : List Value) : PreV s H C b (va_Pc (.ref b :: As) (gC base D g)) As :=
  ⟨gC.blind _, hP.recv hE.1 hc hci hk0, gC.pre hE hP hS _⟩
theorem gC.preS (hE : gE base D s s.heap) (hP : gP base D s g H) (hS : va_S (gA base) s.heap H locs) (As : List Value) : PreS s H (va_Pc As (gC base D g)) As := ⟨gC.blind _, gC.pre hE hP hS _⟩
theorem g_calli {r : Int32} {av : Array Value} (hr : va_Run p l e R s m args below meth c H locs cells slots mc ms (F0 m pc ls st0) rest (gQi base D r g1 av) (gA base)) (hS : va_S (gA base) s.heap H locs)
    (kk : ∀ (H1 : Heap) (locs1 : List Loc), gP base D s g1 H1 → va_S (gA base) s.heap H1 locs1 → W p l e R s m args below meth c H1 locs1 (cells + mc) (slots + ms) Q (F0 m (pc + 3) ls (.int r :: rest))) : W p l e R s m args below meth c H locs cells slots Q (F0 m pc ls st0) :=
  va_calli hr hS (fun _ _ h => h) (fun _ h => h) (fun r' u t H1 locs1 ht hvm hw hB _ _ hS1 => by
    obtain ⟨rfl, rfl⟩ := hw
    exact kk H1 locs1 (ht ▸ gP.moved hvm.symm hB) hS1)
theorem g_calll {r : Int64} {av : Array Value} (hr : va_Run p l e R s m args below meth c H locs cells slots mc ms (F0 m pc ls st0) rest (gQl base D r g1 av) (gA base)) (hS : va_S (gA base) s.heap H locs)
    (kk : ∀ (H1 : Heap) (locs1 : List Loc), gP base D s g1 H1 → va_S (gA base) s.heap H1 locs1 → W p l e R s m args below meth c H1 locs1 (cells + mc) (slots + ms) Q (F0 m (pc + 3) ls (.long r :: rest))) : W p l e R s m args below meth c H locs cells slots Q (F0 m pc ls st0) :=
  va_calll hr hS (fun _ _ h => h) (fun _ h => h) (fun r' u t H1 locs1 ht hvm hw hB _ _ hS1 => by
    obtain ⟨rfl, rfl⟩ := hw
    exact kk H1 locs1 (ht ▸ gP.moved hvm.symm hB) hS1)
theorem g_calld {r : UInt64} {av : Array Value} (hr : va_Run p l e R s m args below meth c H locs cells slots mc ms (F0 m pc ls st0) rest (gQd base D r g1 av) (gA base)) (hS : va_S (gA base) s.heap H locs)
    (kk : ∀ (H1 : Heap) (locs1 : List Loc), gP base D s g1 H1 → va_S (gA base) s.heap H1 locs1 → W p l e R s m args below meth c H1 locs1 (cells + mc) (slots + ms) Q (F0 m (pc + 3) ls (.double r :: rest))) : W p l e R s m args below meth c H locs cells slots Q (F0 m pc ls st0) :=
  va_calld hr hS (fun _ _ h => h) (fun _ h => h) (fun r' u t H1 locs1 ht hvm hw hB _ _ hS1 => by
    obtain ⟨rfl, rfl⟩ := hw
    exact kk H1 locs1 (ht ▸ gP.moved hvm.symm hB) hS1)
theorem g_callv {av : Array Value} (hr : va_Run p l e R s m args below meth c H locs cells slots mc ms (F0 m pc ls st0) rest (gQv base D g1 av) (gA base)) (hS : va_S (gA base) s.heap H locs)
    (kk : ∀ (H1 : Heap) (locs1 : List Loc), gP base D s g1 H1 → va_S (gA base) s.heap H1 locs1 → W p l e R s m args below meth c H1 locs1 (cells + mc) (slots + ms) Q (F0 m (pc + 3) ls rest)) : W p l e R s m args below meth c H locs cells slots Q (F0 m pc ls st0) :=
  va_callv hr hS (fun _ _ h => h) (fun _ h => h) (fun u t H1 locs1 ht hvm hw hB _ _ hS1 => by
    subst hw
    exact kk H1 locs1 (ht ▸ gP.moved hvm.symm hB) hS1)
theorem g_callr {r : Nat} {av : Array Value} (hr : va_Run p l e R s m args below meth c H locs cells slots mc ms (F0 m pc ls st0) rest (gQr base D r g1 av) (gA base)) (hS : va_S (gA base) s.heap H locs)
    (kk : ∀ (H1 : Heap) (locs1 : List Loc), gP base D s g1 H1 → va_S (gA base) s.heap H1 locs1 → W p l e R s m args below meth c H1 locs1 (cells + mc) (slots + ms) Q (F0 m (pc + 3) ls (.ref r :: rest))) : W p l e R s m args below meth c H locs cells slots Q (F0 m pc ls st0) :=
  va_callr hr hS (fun _ _ h => h) (fun _ h => h) (fun u ra t H1 locs1 ht hvm hw hB _ _ hS1 => by
    subst hw
    obtain ⟨rfl, hB⟩ := hB
    exact kk H1 locs1 (ht ▸ gP.moved hvm.symm hB) hS1)
/-- a call that may throw, in a method that doesn't catch it and throws it on -/
theorem g_xcalli {o : Nat × Int32} {av : Array Value} {o2 : Nat × Int32} {g2 : g_H} {Qa : Array Value → State → Outcome → State → Prop} {mc0 ms0 : Nat} (hr : vx_Run p l e R s m args below meth c H locs cells slots mc ms (F0 m pc ls st0) rest (gXi base D o g1 av) (gX base D o g1) (gA base)) (hS : va_S (gA base) s.heap H locs) (ht : ∀ x ∈ c.exceptionTable.toList, False) (hlocks : meth.locks = false)
    (hx : o.1 ≠ 0 → o2.1 = o.1 ∧ g2 = g1) (hc : cells + mc ≤ mc0) (hs : slots + ms ≤ ms0)
    (kk : ∀ (r : Int32) (H1 : Heap) (locs1 : List Loc), o = (0, r) → gP base D s g1 H1 → va_S (gA base) s.heap H1 locs1 → W p l e R s m args below meth c H1 locs1 (cells + mc) (slots + ms) (vx_MQ below Qa (gX base D o2 g2) args s mc0 ms0 (gA base)) (F0 m (pc + 3) ls (.int r :: rest))) : W p l e R s m args below meth c H locs cells slots (vx_MQ below Qa (gX base D o2 g2) args s mc0 ms0 (gA base)) (F0 m pc ls st0) := by
  refine vx_calli hr hS (fun _ _ h => h) (fun _ h => h) (fun _ _ h => h) (fun E ce q9 u t H1 locs1 ht1 hvm hw hB hz hk hS1 hce hcv hcl => ?_) (fun r' u t H1 locs1 ht1 hvm hw hB _ _ hS1 => ?_)
  · obtain ⟨hE, hB⟩ := hB
    obtain ⟨e1, e2⟩ := hx hw.1
    refine vx_out (fun x h => (ht x h).elim) hlocks hce hcv hcl (fun t2 h2 hA2 => ⟨u, by rw [e1]; exact hw, ⟨by rw [hE, e1], ?_⟩, hS1.F h2⟩) hS1.2.2 hc hs
    rw [e2, gB, h2, ← ht1]
    exact gP.moved (hvm.symm.trans hA2) hB
  · obtain ⟨h1, rfl⟩ := hw
    exact kk r' H1 locs1 h1 (ht1 ▸ gP.moved hvm.symm hB) hS1
theorem g_xcallv {o : Nat × Int32} {av : Array Value} {o2 : Nat × Int32} {g2 : g_H} {Qa : Array Value → State → Outcome → State → Prop} {mc0 ms0 : Nat} (hr : vx_Run p l e R s m args below meth c H locs cells slots mc ms (F0 m pc ls st0) rest (gXv base D o g1 av) (gX base D o g1) (gA base)) (hS : va_S (gA base) s.heap H locs) (ht : ∀ x ∈ c.exceptionTable.toList, False) (hlocks : meth.locks = false)
    (hx : o.1 ≠ 0 → o2.1 = o.1 ∧ g2 = g1) (hc : cells + mc ≤ mc0) (hs : slots + ms ≤ ms0)
    (kk : ∀ (H1 : Heap) (locs1 : List Loc), o.1 = 0 → gP base D s g1 H1 → va_S (gA base) s.heap H1 locs1 → W p l e R s m args below meth c H1 locs1 (cells + mc) (slots + ms) (vx_MQ below Qa (gX base D o2 g2) args s mc0 ms0 (gA base)) (F0 m (pc + 3) ls rest)) : W p l e R s m args below meth c H locs cells slots (vx_MQ below Qa (gX base D o2 g2) args s mc0 ms0 (gA base)) (F0 m pc ls st0) := by
  refine vx_callv hr hS (fun _ _ h => h) (fun _ h => h) (fun _ _ h => h) (fun E ce q9 u t H1 locs1 ht1 hvm hw hB hz hk hS1 hce hcv hcl => ?_) (fun u t H1 locs1 ht1 hvm hw hB _ _ hS1 => ?_)
  · obtain ⟨hE, hB⟩ := hB
    obtain ⟨e1, e2⟩ := hx hw.1
    refine vx_out (fun x h => (ht x h).elim) hlocks hce hcv hcl (fun t2 h2 hA2 => ⟨u, by rw [e1]; exact hw, ⟨by rw [hE, e1], ?_⟩, hS1.F h2⟩) hS1.2.2 hc hs
    rw [e2, gB, h2, ← ht1]
    exact gP.moved (hvm.symm.trans hA2) hB
  · obtain ⟨h1, rfl⟩ := hw
    exact kk H1 locs1 h1 (ht1 ▸ gP.moved hvm.symm hB) hS1
/-- ends -/
theorem g_iret {r : Int32} (hexec : p.tables.exec = Jvm.exec) (hb : c.code = cc) (hr : meth.sig.returnType = some .int) (hlocks : meth.locks = false) (hP : gP base D s g1 H) (hS : va_S (gA base) s.heap H locs) (hc : cells ≤ mc) (hs : slots ≤ ms) (hdg : decode cc pc = .ok (.ireturn, 1)) : W p l e R s m args below meth c H locs cells slots (MQ below (gQi base D r g1) args s mc ms (gA base)) (F0 m pc ls [.int r]) :=
  W.widen hc hs (W.iret hexec hb hr (fun t ht hW => ⟨⟨r, g1, rfl, ⟨rfl, rfl⟩, by rw [gB, ht]; exact hP.moved hW.alike⟩, hS.F ht⟩) hS.2.2 hdg)
theorem g_zret {r : Int32} (hexec : p.tables.exec = Jvm.exec) (hb : c.code = cc) (hr : meth.sig.returnType = some .boolean) (hz : r = 0 ∨ r = 1) (hlocks : meth.locks = false) (hP : gP base D s g1 H) (hS : va_S (gA base) s.heap H locs) (hc : cells ≤ mc) (hs : slots ≤ ms) (hdg : decode cc pc = .ok (.ireturn, 1)) : W p l e R s m args below meth c H locs cells slots (MQ below (gQi base D r g1) args s mc ms (gA base)) (F0 m pc ls [.int r]) :=
  W.widen hc hs (W.zret hexec hb hr (by rcases hz with h | h <;> subst h <;> rfl) (fun t ht hW => ⟨⟨r, g1, rfl, ⟨rfl, rfl⟩, by rw [gB, ht]; exact hP.moved hW.alike⟩, hS.F ht⟩) hS.2.2 hdg)
theorem g_lret {r : Int64} (hexec : p.tables.exec = Jvm.exec) (hb : c.code = cc) (hr : meth.sig.returnType = some .long) (hlocks : meth.locks = false) (hP : gP base D s g1 H) (hS : va_S (gA base) s.heap H locs) (hc : cells ≤ mc) (hs : slots ≤ ms) (hdg : decode cc pc = .ok (.lreturn, 1)) : W p l e R s m args below meth c H locs cells slots (MQ below (gQl base D r g1) args s mc ms (gA base)) (F0 m pc ls [.long r]) :=
  W.widen hc hs (W.lret hexec hb hr (fun t ht hW => ⟨⟨r, g1, rfl, ⟨rfl, rfl⟩, by rw [gB, ht]; exact hP.moved hW.alike⟩, hS.F ht⟩) hS.2.2 hdg)
theorem g_vret (hexec : p.tables.exec = Jvm.exec) (hb : c.code = cc) (hr : meth.sig.returnType = none) (hlocks : meth.locks = false) (hP : gP base D s g1 H) (hS : va_S (gA base) s.heap H locs) (hc : cells ≤ mc) (hs : slots ≤ ms) (hdg : decode cc pc = .ok (.return_, 1)) : W p l e R s m args below meth c H locs cells slots (MQ below (gQv base D g1) args s mc ms (gA base)) (F0 m pc ls []) :=
  W.widen hc hs (W.vret hexec hb hr (fun t ht hW => ⟨⟨g1, rfl, rfl, by rw [gB, ht]; exact hP.moved hW.alike⟩, hS.F ht⟩) hS.2.2 hdg)
theorem g_aret {r : Nat} {rt : FieldType} (hexec : p.tables.exec = Jvm.exec) (hb : c.code = cc) (hr : meth.sig.returnType = some rt) (hrt : (∃ n, rt = .object n) ∨ ∃ t, rt = .array t) (hlocks : meth.locks = false) (hP : gP base D s g1 H) (hS : va_S (gA base) s.heap H locs) (hc : cells ≤ mc) (hs : slots ≤ ms) (hdg : decode cc pc = .ok (.areturn, 1)) : W p l e R s m args below meth c H locs cells slots (MQ below (gQr base D r g1) args s mc ms (gA base)) (F0 m pc ls [.ref r]) :=
  W.widen hc hs (W.aret hexec hb hr hrt (Or.inr ⟨r, rfl⟩) (fun t ht hW => ⟨⟨(r, g1), r, rfl, rfl, rfl, by rw [gB, ht]; exact hP.moved hW.alike⟩, hS.F ht⟩) hS.2.2 hdg)
theorem g_xiret {r : Int32} {o : Nat × Int32} (ho : o = (0, r)) (hexec : p.tables.exec = Jvm.exec) (hb : c.code = cc) (hr : meth.sig.returnType = some .int) (hlocks : meth.locks = false) (hP : gP base D s g1 H) (hS : va_S (gA base) s.heap H locs) (hc : cells ≤ mc) (hs : slots ≤ ms) (hdg : decode cc pc = .ok (.ireturn, 1)) : W p l e R s m args below meth c H locs cells slots (vx_MQ below (gXi base D o g1) XC args s mc ms (gA base)) (F0 m pc ls [.int r]) :=
  vx_ret (W.widen hc hs (W.iret hexec hb hr (fun t ht hW => ⟨⟨r, g1, rfl, ⟨ho, rfl⟩, by rw [gB, ht]; exact hP.moved hW.alike⟩, hS.F ht⟩) hS.2.2 hdg))
theorem g_xzret {r : Int32} {o : Nat × Int32} (ho : o = (0, r)) (hexec : p.tables.exec = Jvm.exec) (hb : c.code = cc) (hr : meth.sig.returnType = some .boolean) (hz : r = 0 ∨ r = 1) (hlocks : meth.locks = false) (hP : gP base D s g1 H) (hS : va_S (gA base) s.heap H locs) (hc : cells ≤ mc) (hs : slots ≤ ms) (hdg : decode cc pc = .ok (.ireturn, 1)) : W p l e R s m args below meth c H locs cells slots (vx_MQ below (gXi base D o g1) XC args s mc ms (gA base)) (F0 m pc ls [.int r]) :=
  vx_ret (W.widen hc hs (W.zret hexec hb hr (by rcases hz with h | h <;> subst h <;> rfl) (fun t ht hW => ⟨⟨r, g1, rfl, ⟨ho, rfl⟩, by rw [gB, ht]; exact hP.moved hW.alike⟩, hS.F ht⟩) hS.2.2 hdg))
theorem g_xvret {o : Nat × Int32} (ho : o.1 = 0) (hexec : p.tables.exec = Jvm.exec) (hb : c.code = cc) (hr : meth.sig.returnType = none) (hlocks : meth.locks = false) (hP : gP base D s g1 H) (hS : va_S (gA base) s.heap H locs) (hc : cells ≤ mc) (hs : slots ≤ ms) (hdg : decode cc pc = .ok (.return_, 1)) : W p l e R s m args below meth c H locs cells slots (vx_MQ below (gXv base D o g1) XC args s mc ms (gA base)) (F0 m pc ls []) :=
  vx_ret (W.widen hc hs (W.vret hexec hb hr (fun t ht hW => ⟨⟨g1, rfl, ⟨ho, rfl⟩, by rw [gB, ht]; exact hP.moved hW.alike⟩, hS.F ht⟩) hS.2.2 hdg))
end GCALL
