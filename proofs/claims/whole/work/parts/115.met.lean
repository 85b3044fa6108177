/-! bodies, copies, throws -/
def gL {α : Type} (body : α → α) (bot : α) : Nat → α
  | 0 => bot
  | n + 1 => body (gL body bot n)
theorem g_pr {g : g_H} {a k : Nat} (h : (gS g a).1 = k) : gS g a = (k, (gS g a).2) := by rw [← h]
theorem g_thr {o o2 : Nat × Int32} {g1 g2 : g_H} {i : Decidable (o.1 = 0)} {X : Option ((Nat × Int32) × g_H)} (h0 : o.1 ≠ 0) (h : (@ite _ (o.1 = 0) i X (some ((o.1, 0), g1))) = some (o2, g2)) : o2.1 = o.1 ∧ g2 = g1 := by
  rw [if_neg h0] at h
  cases h
  exact ⟨rfl, rfl⟩
theorem g_nn (z : Int32) (hz : ¬ z < 0) : z.toInt = (z.toNatClampNeg : Int) := by
  have hz0 : (0 : Int) ≤ z.toInt := by
    have := Int32.not_lt.mp hz
    simpa using Int32.le_iff_toInt_le.mp this
  show z.toInt = ((z.toInt.toNat : Nat) : Int)
  omega
theorem g_out (x : Int32) (n : Nat) (hn : n < 100) (h : ∀ k : Nat, k ≤ n → ¬ x = nI k) : x.toInt < 0 ∨ (n : Int) < x.toInt := by
  by_cases h0 : x.toInt < 0
  · exact Or.inl h0
  · by_cases h1 : (n : Int) < x.toInt
    · exact Or.inr h1
    · refine absurd ?_ (h x.toInt.toNat (by omega))
      refine Int32.toInt_inj.mp ?_
      rw [nI_toInt (by omega)]
      omega
theorem g_met {l : Launch} {y : MethodName} {ws ws' : List Cond} {rm : Room} {av : List Value} {Qc : Array Value → State → Outcome → State → Prop} {mc ms : Nat} {free : Addr → Prop} {cc : ByteArray} {maxL : Nat} {ret : Option FieldType} {base : Nat} {D : va_G} {g : g_H} {lst : List (Nat × Value)}
    (hy : plainName y.cls = true) (hw : ws = Cond.code y cc maxL ret :: ws') (hn : (lg_sl av).length ≤ maxL) (hlst : lv_args 0 av = lst)
    (body : ∀ (p : Program) (e : Env) (s : State) (m : MethodId) (args : Array Value) (below : List Frame) (meth : Method) (c : Code) (ls : Array Slot), p.tables.exec = Jvm.exec → c.code = cc → meth.sig.returnType = ret → c.maxLocals = maxL → s.vm.findClass y.cls = some m.cls → meth.locks = false → meth.name = y.name → (∀ w ∈ ws, w.before args s = true) → gE base D s s.heap → gP base D s g s.heap → lv_has ls maxL lst →
      W p l e rm s m args below meth c s.heap [] 0 0 (MQ below Qc args s mc ms free) (F0 m 0 ls [])) : Met l y ws rm (va_Pc av (gC base D g)) Qc mc ms free := by
  refine Met.ofW (cc := cc) (maxL := maxL) (ret := ret) hy hw ?_
  intro p e s m args below meth c s₁ B hml hv
  obtain ⟨rfl, hE, hP⟩ := hv
  have hl := lv_entry av hn
  rw [hlst] at hl
  rw [lg_entry_eq]
  exact body p e s m _ below meth c _ B.exec B.bytes B.returns hml (findClass_of_methodNamed B.named) B.notSynchronized (name_of_methodNamed B.named B.method).1 (atoms_spec (ws := ws) B.pre) hE hP hl
theorem g_xmet {l : Launch} {y : MethodName} {ws ws' : List Cond} {rm : Room} {av : List Value} {Qc : Array Value → State → Outcome → State → Prop} {XC : String → State → State → Prop} {mc ms : Nat} {free : Addr → Prop} {cc : ByteArray} {maxL : Nat} {ret : Option FieldType} {base : Nat} {D : va_G} {g : g_H} {lst : List (Nat × Value)}
    (hy : plainName y.cls = true) (hw : ws = Cond.code y cc maxL ret :: ws') (hn : (lg_sl av).length ≤ maxL) (hlst : lv_args 0 av = lst)
    (body : ∀ (p : Program) (e : Env) (s : State) (m : MethodId) (args : Array Value) (below : List Frame) (meth : Method) (c : Code) (ls : Array Slot), p.tables.exec = Jvm.exec → c.code = cc → meth.sig.returnType = ret → c.maxLocals = maxL → s.vm.findClass y.cls = some m.cls → meth.locks = false → meth.name = y.name → (∀ w ∈ ws, w.before args s = true) → gE base D s s.heap → gP base D s g s.heap → lv_has ls maxL lst → (∀ x ∈ c.exceptionTable.toList, False) →
      W p l e rm s m args below meth c s.heap [] 0 0 (vx_MQ below Qc XC args s mc ms free) (F0 m 0 ls [])) : vx_Met l y ws rm (va_Pc av (gC base D g)) Qc XC mc ms free := by
  refine vx_ofW (cc := cc) (maxL := maxL) (ret := ret) hy hw ?_
  intro p e s m args below meth c s₁ B hml ht hv
  obtain ⟨rfl, hE, hP⟩ := hv
  have hl := lv_entry av hn
  rw [hlst] at hl
  rw [lg_entry_eq]
  exact body p e s m _ below meth c _ B.exec B.bytes B.returns hml (findClass_of_methodNamed B.named) B.notSynchronized (name_of_methodNamed B.named B.method).1 (atoms_spec (ws := ws) B.pre) hE hP hl ht
def gBad (cls : String) : List Cond := Cond.castable cls cls :: gDecls.map Cond.declares
section GCOPY
variable {p : Program} {l : Launch} {e : Env} {R : Room} {s : State} {m : MethodId} {args : Array Value} {below : List Frame} {meth : Method} {c : Code} {H : Heap} {locs : List Loc} {cells slots : Nat} {Q : State → Prop}
variable {cc : ByteArray} {pc : Nat} {ls : Array Slot} {rest : List Value} {D : va_G} {base : Nat} {g g1 : g_H} {a a0 : Nat} {H0 : Heap}
theorem g_copy (hexec : p.tables.exec = Jvm.exec) (hb : c.code = cc) (hml : c.maxLocals = ls.size) {own : String} {index : Nat} (hown : s.vm.findClass own = some m.cls) (hlink : (Cond.methodLink own index arraycopyName).before args s = true) (hnat : (Cond.native arraycopyName).before args s = true) (hstat : (Cond.static arraycopyName).before args s = true) (hini : (Cond.initialized "java/lang/System").before args s = true)
    (hP : gP base D s g H) (hS : va_S (gA base) H0 H locs) {n0 n1 : Nat} (hk0 : gS g a0 = (11, n0)) (hk1 : gS g a = (11, n1))
    {sp dp n : Int32} (h1 : ¬ sp < 0) (h2 : ¬ dp < 0) (h3 : ¬ n < 0) (h4 : sp.toNatClampNeg + n.toNatClampNeg ≤ n0) (h5 : dp.toNatClampNeg + n.toNatClampNeg ≤ n1)
    (hframes : 1 ≤ R.frames) (hlocals : (rest.map fun v => v.category).sum + (nativeFrameWords "java/lang/System" "arraycopy" 5 + 11) ≤ R.locals) (hdg : decode cc pc = .ok (.invokestatic index, 3))
    (kk : ∀ (H1 : Heap) (locs1 : List Loc), gP base D s (gPW g a (va_cpy (gI g a0) (gI g a) sp.toNatClampNeg dp.toNatClampNeg n.toNatClampNeg)) H1 → va_S (gA base) H0 H1 locs1 → W p l e R s m args below meth c H1 locs1 cells slots Q (F0 m (pc + 3) ls rest)) : W p l e R s m args below meth c H locs cells slots Q (F0 m pc ls (.int n :: .int dp :: .ref a :: .int sp :: .ref a0 :: rest)) := by
  intro T hT X
  obtain ⟨c0, x1, x2, hc0⟩ := hP.ar hk0 (by omega)
  obtain ⟨c1, y1, y2, hc1⟩ := hP.ar hk1 (by omega)
  have hbase : base ≤ a := (hP.2 a).2 (by rw [hk1]; simp)
  obtain ⟨-, k0, hk0', cm0, hkk0⟩ := x1 n0 (fun j => .int (gI g a0 j))
  obtain ⟨-, k1, hk1', cm1, hkk1⟩ := y1 n1 (fun j => .int (gI g a j))
  obtain ⟨vm', X', step⟩ := X.arraycopy hexec hown hlink hnat hstat hini (src := a0) (dst := a) (cs := arrV c0 n0 (fun j => .int (gI g a0 j))) (cd := arrV c1 n1 (fun j => .int (gI g a j))) (srcPos := sp) (destPos := dp) (n := n) (by rw [hT]; exact hc0) (by rw [hT]; exact hc1)
    (fun _ h => by cases h) (fun _ h => by cases h) (fun h => by cases h) (fun h => by cases h) hk0' hk1' hkk0 hkk1 (by simp [show refKind (gTy 11) = false from rfl]) h1 h2 h3
    (by rw [g_nn sp h1, g_nn n h3, arrV_size]; omega)
    (by rw [g_nn dp h2, g_nn n h3, arrV_size]; omega)
    (fun vm₁ _ i hi => by
      have e : (arrV c0 n0 (fun j => .int (gI g a0 j))).slots.getD (sp.toNatClampNeg + i) .null = .int (gI g a0 (sp.toNatClampNeg + i)) := by
        rw [Array.getD_eq_getD_getElem?, arrV_read _ _ (by omega)]
        rfl
      refine ⟨?_, ?_⟩
      · rw [e]
        rfl
      · rw [e]
        exact trivial)
    (g := F0 m pc ls (.int n :: .int dp :: .ref a :: .int sp :: .ref a0 :: rest)) rfl (by rw [hml]) (rest := rest) rfl (by rw [hb]; exact hdg) hframes (by show 2 * 0 + _ + _ ≤ _; omega)
  have e1 : copied (arrV c0 n0 (fun j => .int (gI g a0 j))) (arrV c1 n1 (fun j => .int (gI g a j))) sp dp n = arrV c1 n1 (fun j => .int (va_cpy (gI g a0) (gI g a) sp.toNatClampNeg dp.toNatClampNeg n.toNatClampNeg j)) := va_copied (fun z => .int z) c0 c1 (gI g a0) (gI g a) h4
  rw [e1] at X' step
  have hl : a < H.size := (Array.getElem?_eq_some_iff.mp hc1).1
  generalize hv : va_cpy (gI g a0) (gI g a) sp.toNatClampNeg dp.toNatClampNeg n.toNatClampNeg = v at X' step kk
  have hheap : ((T.setVm vm').setCell a (arrV c1 n1 (fun j => .int (v j)))).heap = H.setIfInBounds a (arrV c1 n1 (fun j => .int (v j))) := by rw [← hT]; rfl
  have oq : ∀ q : Nat, q ≠ a → (H.setIfInBounds a (arrV c1 n1 (fun j => .int (v j))))[q]? = H[q]? := fun q hq => by simp [Array.getElem?_setIfInBounds, Ne.symm hq]
  have hat : (H.setIfInBounds a (arrV c1 n1 (fun j => .int (v j))))[a]? = some (arrV c1 n1 (fun j => .int (v j))) := by simp [Array.getElem?_setIfInBounds, hl]
  have hPn : gP base D s (gPW g a v) (H.setIfInBounds a (arrV c1 n1 (fun j => .int (v j)))) := by
    refine hP.set (g1 := gPW g a v) rfl rfl (by simp) ⟨fun h0 h1 => ?_, fun h1 => ?_⟩ (fun b hb => ⟨gW_o hb, rfl, rfl⟩) oq
    · rw [show gS (gPW g a v) a = (11, n1) from hk1] at h1
      exact absurd h1 (by simp)
    · rw [show gS (gPW g a v) a = (11, n1) from hk1]
      refine ⟨c1, y1, y2, hat.trans ?_⟩
      rw [show gI (gPW g a v) a = v from gW_s]
      rfl
  obtain ⟨t, a1, b1⟩ := kk _ (locs ++ _) hPn ⟨by simp; exact hS.1, fun q g1 g2 => by
      rw [oq q (fun e => g2 (by rw [e]; exact hbase))]
      exact hS.2.1 q g1 g2, fun q hq => by
      rcases List.mem_append.mp hq with h | h
      · exact hS.2.2 q h
      · obtain ⟨z, -, hz⟩ := List.mem_map.mp h
        rw [← hz]
        exact hbase⟩ _ hheap X'
  exact ⟨t, step t a1, b1⟩
theorem g_clone (hexec : p.tables.exec = Jvm.exec) (hb : c.code = cc) (hml : c.maxLocals = ls.size) {own : String} {index : Nat} (hown : s.vm.findClass own = some m.cls)
    (hlink : (Cond.methodLink own index ⟨"[I", "clone", "()Ljava/lang/Object;"⟩).before args s = true) (hsame : (Cond.sameMethod "[I" "java/lang/Object" "clone" "()Ljava/lang/Object;").before args s = true)
    (hnat : (Cond.native ⟨"java/lang/Object", "clone", "()Ljava/lang/Object;"⟩).before args s = true) (hinst : (Cond.instanceMethod ⟨"java/lang/Object", "clone", "()Ljava/lang/Object;"⟩).before args s = true)
    (hsel : (Cond.selects "[I" ⟨"[I", "clone", "()Ljava/lang/Object;"⟩ ⟨"java/lang/Object", "clone", "()Ljava/lang/Object;"⟩).before args s = true) (hcl : va_Nw (.castable "[I" "java/lang/Cloneable") s)
    (hP : gP base D s g H) (hS : va_S (gA base) H0 H locs) (hbz : base ≤ H0.size) {n0 : Nat} (hk0 : gS g a = (11, n0))
    (hframes : 1 ≤ R.frames) (hlocals : (rest.map fun v => v.category).sum + 14 ≤ R.locals) (N' : Nat) (hN : n0 ≤ N') (hcells : cells + 1 ≤ R.cells) (hslots : slots + N' ≤ R.slots) (hdg : decode cc pc = .ok (.invokevirtual index, 3))
    (kk : ∀ (H1 : Heap), gP base D s (gN g 11 n0 (gI g a)) H1 → va_S (gA base) H0 H1 locs →
      W p l e R s m args below meth c H1 locs (cells + 1) (slots + N') Q (F0 m (pc + 3) ls (.ref (gZ g) :: rest))) : W p l e R s m args below meth c H locs cells slots Q (F0 m pc ls (.ref a :: rest)) := by
  obtain ⟨cA, x1, x2, hc0⟩ := hP.ar hk0 (by omega)
  have hgz := hP.1
  have hnm : s.vm.findClass "[I" = some cA := by
    have e : "[" ++ FieldType.int.toString = "[I" := by decide +kernel
    rw [← e]
    exact x2
  obtain ⟨c0, t0', f1, f2, f3⟩ := Cond.castable_spec (va_Nw.use (A := args) rfl hcl)
  cases hnm.symm.trans f1
  intro T hT X
  have hcellT : T.heap[a]? = some (arrV cA n0 (fun j => .int (gI g a j))) := by rw [hT]; exact hc0
  obtain ⟨-, kA, hkA, comp, hkind⟩ := State.isArrayOf_alike X.warmed.alike (x1 0 (fun _ => .null))
  obtain ⟨-, kS, hkS, compS, hkindS⟩ := x1 0 (fun _ => .null)
  obtain ⟨vm', X', st⟩ := X.cloneArray hexec hown hlink hsame hnat hinst hsel (a := a) (cell := arrV cA n0 (fun j => .int (gI g a j))) hcellT (fun k h => by cases h) (fun h => by cases h) hnm f2 f3
    (fun i v hv => by
      have hk' : T.vm.classes[cA]? = some kA := hkA
      have hf := va_fit (cA := cA) (n := n0) (F := fun j => .int (gI g a j)) (ty := .int) (fun i _ => rfl) i v hv
      simpa [State.fitsSlot, State.slotType?, hk', hkind, arrV, gTy] using hf)
    (g := F0 m pc ls (.ref a :: rest)) rfl (by rw [hml]) rfl (by rw [hb]; exact hdg) hframes (by show 2 * 0 + _ + 14 ≤ _; omega) hcells (by rw [arrV_size]; omega) (hloader := Vm.clonesLoader_of_array hkS hkindS)
  have hcellE : ({ cls := (arrV cA n0 (fun j => .int (gI g a j))).cls, slots := (arrV cA n0 (fun j => .int (gI g a j))).slots } : Cell) = arrV cA n0 (fun j => .int (gI g a j)) := rfl
  rw [hcellE, arrV_size] at X'
  generalize hH1 : H.push (arrV cA n0 (fun j => .int (gI g a j))) = H1
  have z1 : H1.size = H.size + 1 := by rw [← hH1, Array.size_push]
  have e1 : H1[H.size]? = some (arrV cA n0 (fun j => .int (gI g a j))) := by rw [← hH1, Array.getElem?_push_size]
  have o1 : ∀ q : Nat, q < H.size → H1[q]? = H[q]? := fun q hq => by rw [← hH1, Array.getElem?_push, if_neg (Nat.ne_of_lt hq)]
  obtain ⟨t, b1, b2⟩ := kk H1 (hP.push (Nat.le_trans hbz hS.1) z1 o1 ⟨fun h0 h1 => by
      rw [gS_gN hgz] at h1
      exact absurd h1 (by simp), fun h1 => by
      rw [gS_gN hgz, gI_gN hgz, gR_gN hgz, gJ_gN hgz]
      exact ⟨cA, x1, x2, e1⟩⟩) (gS_push hS (by omega) o1)
    ((T.setVm vm').pushCell (arrV cA n0 (fun j => .int (gI g a j)))) (by rw [← hH1, ← hT]; rfl) (stand_widen X' (Nat.le_refl _) (by omega))
  refine ⟨t, st t ?_, b2⟩
  rw [hcellE, hT, ← hgz]
  exact b1
theorem g_castI (hexec : p.tables.exec = Jvm.exec) (hb : c.code = cc) {own : String} {index : Nat} (hown : s.vm.findClass own = some m.cls) (hlink : (Cond.classLink own index "[I").before args s = true) (hP : gP base D s g H) {n0 : Nat} (hk0 : gS g a = (11, n0)) (hdg : decode cc pc = .ok (.checkcast index, 3))
    (k : W p l e R s m args below meth c H locs cells slots Q (F0 m (pc + 3) ls (.ref a :: rest))) : W p l e R s m args below meth c H locs cells slots Q (F0 m pc ls (.ref a :: rest)) := by
  obtain ⟨cA, x1, x2, hc0⟩ := hP.ar hk0 (by omega)
  have hnm : s.vm.findClass "[I" = some cA := by
    have e : "[" ++ FieldType.int.toString = "[I" := by decide +kernel
    rw [← e]
    exact x2
  intro T hT X
  obtain ⟨vm', X', st⟩ := X.checkcastYes hexec hown hlink (by rw [hT]; exact hc0) rfl hnm (va_asg _ _) (g := F0 m pc ls (.ref a :: rest)) rfl rfl (by rw [hb]; exact hdg)
  obtain ⟨t, a1, b1⟩ := k (T.setVm vm') hT X'
  exact ⟨t, st t a1, b1⟩
abbrev gSup : List String := ["java/lang/RuntimeException", "java/lang/Exception"]
/-- throw new X(text), in the system's own methods -/
theorem g_throw (hexec : p.tables.exec = Jvm.exec) (hb : c.code = cc) (hl : l.stackTraces = false) {cls : String} {ik is ic mc ms : Nat} {o : Nat × Int32} {Qa : Array Value → State → Outcome → State → Prop} {ws : List Cond} {text : String}
    (hown : s.vm.findClass "CourierBees" = some m.cls) (hts : ∀ w ∈ ws, w.before args s = true) (hcls : Bundle.fit cls = true)
    (hk : (Cond.classLink "CourierBees" ik cls).before args s = true) (hini : (Cond.initialized cls).before args s = true) (hsub : ∀ w ∈ (vx_atS "CourierBees" ic cls gSup).filter goodWord, w ∈ ws) (hbad : ∀ w ∈ (vx_atS "CourierBees" ic cls gSup).filter (fun w => !goodWord w), w ∈ gBad cls) (hcast : (cls, cls) ∈ gCasts)
    (hgood : ∀ w ∈ Cond.classLink "CourierBees" ik cls :: Cond.initialized cls :: vx_atS "CourierBees" ic cls gSup, vx_ot w = true) (htx : (is, text) ∈ gTexts)
    (hE : gE base D s s.heap) (hP : gP base D s g H) (hS : va_S (gA base) s.heap H locs) (hsize : ls.size = c.maxLocals)
    (d0 : decode cc pc = .ok (.new ik, 3)) (d3 : decode cc (pc + 3) = .ok (.dup, 1)) (d4 : decode cc (pc + 4) = .ok (.ldc is, 2)) (d6 : decode cc (pc + 6) = .ok (.invokespecial ic, 3)) (d9 : decode cc (pc + 9) = .ok (.athrow, 1))
    (ht : ∀ x ∈ c.exceptionTable.toList, False) (hRf : 5 < R.frames) (hRl : (rest.map fun v => v.category).sum + 82 ≤ R.locals) (hRc : cells + 1 ≤ R.cells) (hRs : slots + 6 ≤ R.slots) (hlocks : meth.locks = false)
    (ho : o.1 ≠ 0 ∧ o.1 ≤ 3) (hox : gEx o.1 = cls) (hc : cells + 1 ≤ mc) (hs : slots + 6 ≤ ms) :
    W p l e R s m args below meth c H locs cells slots (vx_MQ below Qa (gX base D o g) args s mc ms (gA base)) (F0 m pc ls rest) := by
  obtain ⟨sa, hsa⟩ := hE.2.2.2.1 _ htx
  have hcc := hE.2.2.2.2.2.2.2.2.1 _ hcast
  have hat : ∀ w ∈ vx_atS "CourierBees" ic cls gSup, w.before args s = true := vx_hat (B := gBad cls) (fun w hw => hts w (hsub w hw)) hbad (fun w hw => by
    rcases List.mem_cons.mp hw with h | h
    · rw [h]; exact va_Nw.use rfl hcc
    · obtain ⟨q, hq, rfl⟩ := List.mem_map.mp h
      exact va_Nw.use rfl (hE.2.2.2.2.2.2.2.2.2.2.1 q hq))
  exact vx_throwS hexec hb hl hown hcls (by decide +kernel) hk hini hsa hat hgood hE.2.1 hE.2.2.1 hS hsize d0 d3 d4 d6 d9 (fun x h => (ht x h).elim) hRf hRl hRc hRs hlocks
    (fun t hA hz hk2 => ⟨t.heap.size, ho, ⟨hox.symm, (hP.grow hk2).moved hA⟩, Nat.le_trans hS.1 hz, fun q h1 h2 => (hk2 q (Nat.lt_of_lt_of_le h1 hS.1)).trans (hS.2.1 q h1 h2)⟩) hS.2.2 hc hs
end GCOPY
