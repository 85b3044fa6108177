def gNw {β : Type} (g : g_H) (kd n : Nat) (r : Nat → Int32) (k : Nat → g_H → β) : β := k (gZ g) (gN g kd n r)
theorem g_nw {β : Type} {g : g_H} {kd n : Nat} {r : Nat → Int32} {k : Nat → g_H → β} {y : β} (h : gNw g kd n r k = y) : ∃ q g1, gZ g = q ∧ gN g kd n r = g1 ∧ (gS g1 q).1 = kd ∧ k q g1 = y := ⟨gZ g, gN g kd n r, rfl, rfl, congrArg Prod.fst (gS_gN rfl), h⟩
def gLt {α β : Type} (x : α) (k : α → β) : β := k x
theorem g_let {α β : Type} {x : α} {k : α → β} {y : β} (h : gLt x k = y) : ∃ v, x = v ∧ k v = y := ⟨x, rfl, h⟩
def gB2 {α β : Type} (x : Option (α × g_H)) (k : α → g_H → Option β) : Option β := x.bind fun q => k q.1 q.2
theorem g_bind2 {α β : Type} {x : Option (α × g_H)} {k : α → g_H → Option β} {y : β} (h : gB2 x k = some y) : ∃ v g, x = some (v, g) ∧ k v g = some y := by
  unfold gB2 at h
  cases x with
  | none => cases h
  | some q => exact ⟨q.1, q.2, rfl, h⟩
theorem g_bz {x : Int32} (h : x = 0 ∨ x = 1) : narrow .boolean (.int x) = .int x ∧ fits .boolean (.int x) = true := by
  rcases h with h | h <;> subst h <;> exact ⟨rfl, rfl⟩
theorem dfX0 : ∀ j, j < 10 → defaultValue (tyX0 j) = gFv TX0 j 0 none
  | 0, _ => rfl | 1, _ => rfl | 2, _ => rfl | 3, _ => rfl | 4, _ => rfl | 5, _ => rfl | 6, _ => rfl | 7, _ => rfl | 8, _ => rfl | 9, _ => rfl
  | n + 10, h => absurd h (by omega)
theorem dfX1 : ∀ j, j < 8 → defaultValue (tyX1 j) = gFv TX1 j 0 none
  | 0, _ => rfl | 1, _ => rfl | 2, _ => rfl | 3, _ => rfl | 4, _ => rfl | 5, _ => rfl | 6, _ => rfl | 7, _ => rfl
  | n + 8, h => absurd h (by omega)
theorem dfX2 : ∀ j, j < 5 → defaultValue (tyX2 j) = gFv TX2 j 0 none
  | 0, _ => rfl | 1, _ => rfl | 2, _ => rfl | 3, _ => rfl | 4, _ => rfl
  | n + 5, h => absurd h (by omega)
theorem dfX3 : ∀ j, j < 5 → defaultValue (tyX3 j) = gFv TX3 j 0 none
  | 0, _ => rfl | 1, _ => rfl | 2, _ => rfl | 3, _ => rfl | 4, _ => rfl
  | n + 5, h => absurd h (by omega)
theorem dfX4 : ∀ j, j < 4 → defaultValue (tyX4 j) = gFv TX4 j 0 none
  | 0, _ => rfl | 1, _ => rfl | 2, _ => rfl | 3, _ => rfl
  | n + 4, h => absurd h (by omega)
theorem dfX5 : ∀ j, j < 5 → defaultValue (tyX5 j) = gFv TX5 j 0 none
  | 0, _ => rfl | 1, _ => rfl | 2, _ => rfl | 3, _ => rfl | 4, _ => rfl
  | n + 5, h => absurd h (by omega)
theorem dfX6 : ∀ j, j < 4 → defaultValue (tyX6 j) = gFv TX6 j 0 none
  | 0, _ => rfl | 1, _ => rfl | 2, _ => rfl | 3, _ => rfl
  | n + 4, h => absurd h (by omega)
theorem dfX7 : ∀ j, j < 13 → defaultValue (tyX7 j) = gFv TX7 j 0 none
  | 0, _ => rfl | 1, _ => rfl | 2, _ => rfl | 3, _ => rfl | 4, _ => rfl | 5, _ => rfl | 6, _ => rfl | 7, _ => rfl | 8, _ => rfl | 9, _ => rfl | 10, _ => rfl | 11, _ => rfl | 12, _ => rfl
  | n + 13, h => absurd h (by omega)
section GRET
variable {p : Program} {l : Launch} {e : Env} {R : Room} {s : State} {m : MethodId} {args : Array Value} {below : List Frame} {meth : Method} {c : Code} {H : Heap} {locs : List Loc} {cells slots : Nat} {Q : State → Prop}
variable {cc : ByteArray} {pc : Nat} {ls : Array Slot} {D : va_G} {base : Nat} {g gz : g_H} {mc ms : Nat} {XC : String → State → State → Prop}
theorem g_retI {x rr : Int32} (hexec : p.tables.exec = Jvm.exec) (hb : c.code = cc) (hr : meth.sig.returnType = some .int) (hlocks : meth.locks = false) (hF : some (x, g) = some (rr, gz)) (hP : gP base D s g H) (hS : va_S (gA base) s.heap H locs) (hc : cells ≤ mc) (hs : slots ≤ ms) (hdg : decode cc pc = .ok (.ireturn, 1)) : W p l e R s m args below meth c H locs cells slots (MQ below (gQi base D rr gz) args s mc ms (gA base)) (F0 m pc ls [.int x]) := by
  cases hF
  exact g_iret hexec hb hr hlocks hP hS hc hs hdg
theorem g_retZ {x rr : Int32} (hexec : p.tables.exec = Jvm.exec) (hb : c.code = cc) (hr : meth.sig.returnType = some .boolean) (hz : x = 0 ∨ x = 1) (hlocks : meth.locks = false) (hF : some (x, g) = some (rr, gz)) (hP : gP base D s g H) (hS : va_S (gA base) s.heap H locs) (hc : cells ≤ mc) (hs : slots ≤ ms) (hdg : decode cc pc = .ok (.ireturn, 1)) : W p l e R s m args below meth c H locs cells slots (MQ below (gQi base D rr gz) args s mc ms (gA base)) (F0 m pc ls [.int x]) := by
  cases hF
  exact g_zret hexec hb hr hz hlocks hP hS hc hs hdg
theorem g_retJ {x rr : Int64} (hexec : p.tables.exec = Jvm.exec) (hb : c.code = cc) (hr : meth.sig.returnType = some .long) (hlocks : meth.locks = false) (hF : some (x, g) = some (rr, gz)) (hP : gP base D s g H) (hS : va_S (gA base) s.heap H locs) (hc : cells ≤ mc) (hs : slots ≤ ms) (hdg : decode cc pc = .ok (.lreturn, 1)) : W p l e R s m args below meth c H locs cells slots (MQ below (gQl base D rr gz) args s mc ms (gA base)) (F0 m pc ls [.long x]) := by
  cases hF
  exact g_lret hexec hb hr hlocks hP hS hc hs hdg
theorem g_retD {x rr : UInt64} (hexec : p.tables.exec = Jvm.exec) (hb : c.code = cc) (hr : meth.sig.returnType = some .double) (hlocks : meth.locks = false) (hF : some (x, g) = some (rr, gz)) (hP : gP base D s g H) (hS : va_S (gA base) s.heap H locs) (hc : cells ≤ mc) (hs : slots ≤ ms) (hdg : decode cc pc = .ok (.dreturn, 1)) : W p l e R s m args below meth c H locs cells slots (MQ below (gQd base D rr gz) args s mc ms (gA base)) (F0 m pc ls [.double x]) := by
  cases hF
  exact W.widen hc hs (W.dret hexec hb hr (fun t ht hW => ⟨⟨x, g, rfl, ⟨rfl, rfl⟩, by rw [gB, ht]; exact hP.moved hW.alike⟩, hS.F ht⟩) hS.2.2 hdg)
theorem g_retV (hexec : p.tables.exec = Jvm.exec) (hb : c.code = cc) (hr : meth.sig.returnType = none) (hlocks : meth.locks = false) (hF : some g = some gz) (hP : gP base D s g H) (hS : va_S (gA base) s.heap H locs) (hc : cells ≤ mc) (hs : slots ≤ ms) (hdg : decode cc pc = .ok (.return_, 1)) : W p l e R s m args below meth c H locs cells slots (MQ below (gQv base D gz) args s mc ms (gA base)) (F0 m pc ls []) := by
  cases hF
  exact g_vret hexec hb hr hlocks hP hS hc hs hdg
theorem g_retA {x rr : Nat} {rt : FieldType} (hexec : p.tables.exec = Jvm.exec) (hb : c.code = cc) (hr : meth.sig.returnType = some rt) (hrt : (∃ n, rt = .object n) ∨ ∃ t, rt = .array t) (hlocks : meth.locks = false) (hF : some (x, g) = some (rr, gz)) (hP : gP base D s g H) (hS : va_S (gA base) s.heap H locs) (hc : cells ≤ mc) (hs : slots ≤ ms) (hdg : decode cc pc = .ok (.areturn, 1)) : W p l e R s m args below meth c H locs cells slots (MQ below (gQr base D rr gz) args s mc ms (gA base)) (F0 m pc ls [.ref x]) := by
  cases hF
  exact g_aret hexec hb hr hrt hlocks hP hS hc hs hdg
theorem g_xretI {x : Int32} {rr : Nat × Int32} (hexec : p.tables.exec = Jvm.exec) (hb : c.code = cc) (hr : meth.sig.returnType = some .int) (hlocks : meth.locks = false) (hF : some ((0, x), g) = some (rr, gz)) (hP : gP base D s g H) (hS : va_S (gA base) s.heap H locs) (hc : cells ≤ mc) (hs : slots ≤ ms) (hdg : decode cc pc = .ok (.ireturn, 1)) : W p l e R s m args below meth c H locs cells slots (vx_MQ below (gXi base D rr gz) XC args s mc ms (gA base)) (F0 m pc ls [.int x]) := by
  cases hF
  exact g_xiret rfl hexec hb hr hlocks hP hS hc hs hdg
theorem g_xretZ {x : Int32} {rr : Nat × Int32} (hexec : p.tables.exec = Jvm.exec) (hb : c.code = cc) (hr : meth.sig.returnType = some .boolean) (hz : x = 0 ∨ x = 1) (hlocks : meth.locks = false) (hF : some ((0, x), g) = some (rr, gz)) (hP : gP base D s g H) (hS : va_S (gA base) s.heap H locs) (hc : cells ≤ mc) (hs : slots ≤ ms) (hdg : decode cc pc = .ok (.ireturn, 1)) : W p l e R s m args below meth c H locs cells slots (vx_MQ below (gXi base D rr gz) XC args s mc ms (gA base)) (F0 m pc ls [.int x]) := by
  cases hF
  exact g_xzret rfl hexec hb hr hz hlocks hP hS hc hs hdg
theorem g_xretV {rr : Nat × Int32} (hexec : p.tables.exec = Jvm.exec) (hb : c.code = cc) (hr : meth.sig.returnType = none) (hlocks : meth.locks = false) (hF : some ((0, 0), g) = some (rr, gz)) (hP : gP base D s g H) (hS : va_S (gA base) s.heap H locs) (hc : cells ≤ mc) (hs : slots ≤ ms) (hdg : decode cc pc = .ok (.return_, 1)) : W p l e R s m args below meth c H locs cells slots (vx_MQ below (gXv base D rr gz) XC args s mc ms (gA base)) (F0 m pc ls []) := by
  cases hF
  exact g_xvret rfl hexec hb hr hlocks hP hS hc hs hdg
theorem g_throwF {rest : List Value} {k : Nat} (hexec : p.tables.exec = Jvm.exec) (hb : c.code = cc) (hl : l.stackTraces = false) {o : Nat × Int32} (hF : some (((k, 0) : Nat × Int32), g) = some (o, gz)) {cls : String} {ik is ic : Nat} {Qa : Array Value → State → Outcome → State → Prop} {ws : List Cond} {text : String}
    (hown : s.vm.findClass "CourierBees" = some m.cls) (hts : ∀ w ∈ ws, w.before args s = true) (hcls : Bundle.fit cls = true)
    (hk : (Cond.classLink "CourierBees" ik cls).before args s = true) (hini : (Cond.initialized cls).before args s = true) (hsub : ∀ w ∈ (vx_atS "CourierBees" ic cls gSup).filter goodWord, w ∈ ws) (hbad : ∀ w ∈ (vx_atS "CourierBees" ic cls gSup).filter (fun w => !goodWord w), w ∈ gBad cls) (hcast : (cls, cls) ∈ gCasts)
    (hgood : ∀ w ∈ Cond.classLink "CourierBees" ik cls :: Cond.initialized cls :: vx_atS "CourierBees" ic cls gSup, vx_ot w = true) (htx : (is, text) ∈ gTexts)
    (hE : gE base D s s.heap) (hP : gP base D s g H) (hS : va_S (gA base) s.heap H locs) (hsize : ls.size = c.maxLocals)
    (d0 : decode cc pc = .ok (.new ik, 3)) (d3 : decode cc (pc + 3) = .ok (.dup, 1)) (d4 : decode cc (pc + 4) = .ok (.ldc is, 2)) (d6 : decode cc (pc + 6) = .ok (.invokespecial ic, 3)) (d9 : decode cc (pc + 9) = .ok (.athrow, 1))
    (ht : ∀ x ∈ c.exceptionTable.toList, False) (hRf : 5 < R.frames) (hRl : (rest.map fun v => v.category).sum + 82 ≤ R.locals) (hRc : cells + 1 ≤ R.cells) (hRs : slots + 6 ≤ R.slots) (hlocks : meth.locks = false)
    (ho : k ≠ 0 ∧ k ≤ 3) (hox : gEx k = cls) (hc : cells + 1 ≤ mc) (hs : slots + 6 ≤ ms) :
    W p l e R s m args below meth c H locs cells slots (vx_MQ below Qa (gX base D o gz) args s mc ms (gA base)) (F0 m pc ls rest) := by
  cases hF
  exact g_throw hexec hb hl hown hts hcls hk hini hsub hbad hcast hgood htx hE hP hS hsize d0 d3 d4 d6 d9 ht hRf hRl hRc hRs hlocks ho hox hc hs
end GRET
