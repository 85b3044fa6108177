section
/-! THE PURE HEAP: what each address is (kind, length), its ints, its references, its longs; the next free address -/
abbrev g_H : Type := (Nat → Nat × Nat) × (Nat → Nat → Int32) × (Nat → Nat → Option Nat) × (Nat → Nat → Int64) × Nat
def gS (g : g_H) : Nat → Nat × Nat := g.1
def gI (g : g_H) : Nat → Nat → Int32 := g.2.1
def gR (g : g_H) : Nat → Nat → Option Nat := g.2.2.1
def gJ (g : g_H) : Nat → Nat → Int64 := g.2.2.2.1
def gZ (g : g_H) : Nat := g.2.2.2.2
def gU {α : Type} (f : Nat → Nat → α) (a k : Nat) (x : α) : Nat → Nat → α := fun b j => if b = a then (if j = k then x else f b j) else f b j
def gW {α : Type} (f : Nat → Nat → α) (a : Nat) (r : Nat → α) : Nat → Nat → α := fun b => if b = a then r else f b
def gPI (g : g_H) (a k : Nat) (x : Int32) : g_H := (gS g, gU (gI g) a k x, gR g, gJ g, gZ g)
def gPR (g : g_H) (a k : Nat) (x : Option Nat) : g_H := (gS g, gI g, gU (gR g) a k x, gJ g, gZ g)
def gPJ (g : g_H) (a k : Nat) (x : Int64) : g_H := (gS g, gI g, gR g, gU (gJ g) a k x, gZ g)
def gPW (g : g_H) (a : Nat) (r : Nat → Int32) : g_H := (gS g, gW (gI g) a r, gR g, gJ g, gZ g)
/-- one new cell at the next free address -/
def gN (g : g_H) (kd n : Nat) (r : Nat → Int32) : g_H := (fun b => if b = gZ g then (kd, n) else gS g b, gW (gI g) (gZ g) r, gW (gR g) (gZ g) (fun _ => none), gW (gJ g) (gZ g) (fun _ => 0), gZ g + 1)
/-- n rows of k ints, and the row of them ahead -/
def gM (g : g_H) (n k : Nat) : g_H := (fun b => if b < gZ g then gS g b else if b = gZ g then (14, n) else if b < gZ g + 1 + n then (11, k) else gS g b,
  fun b => if b < gZ g then gI g b else if b < gZ g + 1 + n then (fun _ => 0) else gI g b,
  fun b => if b = gZ g then (fun j => if j < n then some (gZ g + 1 + j) else none) else gR g b, gJ g, gZ g + 1 + n)
def gZset (g : g_H) (z : Nat) : g_H := (gS g, gI g, gR g, gJ g, z)
def gTy (k : Nat) : FieldType := if k = 11 then .int else if k = 12 then .boolean else if k = 13 then .long else if k = 14 then .array .int else if k = 15 then .object "CourierBees$Bee" else if k = 16 then .object "CourierBees$Lane" else .object "CourierBees$Letter"
def gFv (T : u_T) (j : Nat) (x : Int32) (y : Option Nat) : Value := if (T j).2.2.1 = "I" ∨ (T j).2.2.1 = "Z" then .int x else va_rf y
def gAv (k : Nat) (x : Int32) (y : Option Nat) (z : Int64) : Value := if k = 11 ∨ k = 12 then .int x else if k = 13 then .long z else va_rf y
def gAt (D : va_G) (s : State) (g : g_H) (H : Heap) (a : Nat) : Prop :=
  ((gS g a).1 ≠ 0 → (gS g a).1 < 11 → ∃ r : vw_C, vwCl[(gS g a).1 - 1]? = some r ∧ t_OB a (D.1 ((gS g a).1 - 1)) r.2.2 (D.2 ((gS g a).1 - 1)) H (fun j => gFv r.2.1 j (gI g a j) (gR g a j))) ∧
  (11 ≤ (gS g a).1 → ∃ cA : ClassId, ArrOfT s cA (gTy (gS g a).1) ∧ va_RA s cA (gTy (gS g a).1) ∧ H[a]? = some (arrV cA (gS g a).2 (fun j => gAv (gS g a).1 (gI g a j) (gR g a j) (gJ g a j))))
def gP (base : Nat) (D : va_G) (s : State) (g : g_H) (H : Heap) : Prop := gZ g = H.size ∧ ∀ a, gAt D s g H a ∧ ((gS g a).1 ≠ 0 → base ≤ a)
def gA (base : Nat) : Nat → Prop := fun q => base ≤ q
theorem gAt.kept {D : va_G} {s : State} {g g1 : g_H} {H H1 : Heap} {a : Nat} (h : gAt D s g H a) (e1 : gS g1 a = gS g a) (e2 : gI g1 a = gI g a) (e3 : gR g1 a = gR g a) (e4 : gJ g1 a = gJ g a) (hq : H1[a]? = H[a]?) : gAt D s g1 H1 a := by
  unfold gAt
  rw [e1, e2, e3, e4]
  refine ⟨fun h0 h1 => ?_, fun h1 => ?_⟩
  · obtain ⟨r, hr, ht⟩ := h.1 h0 h1
    exact ⟨r, hr, ht.kept hq⟩
  · obtain ⟨cA, x1, x2, x3⟩ := h.2 h1
    exact ⟨cA, x1, x2, hq.trans x3⟩
theorem gAt.lt {D : va_G} {s : State} {g : g_H} {H : Heap} {a : Nat} (h : gAt D s g H a) (hk : (gS g a).1 ≠ 0) : a < H.size := by
  by_cases h1 : (gS g a).1 < 11
  · obtain ⟨r, hr, cell, hc, -⟩ := h.1 hk h1
    exact (Array.getElem?_eq_some_iff.mp hc).1
  · obtain ⟨cA, -, -, x3⟩ := h.2 (by omega)
    exact (Array.getElem?_eq_some_iff.mp x3).1
theorem gAt.moved {D : va_G} {u U : State} {g : g_H} {H : Heap} {a : Nat} (hvm : u.vm.Alike U.vm) (h : gAt D u g H a) : gAt D U g H a :=
  ⟨h.1, fun h1 => by
    obtain ⟨cA, x1, x2, x3⟩ := h.2 h1
    exact ⟨cA, arrOfT_moved hvm x1, x2.moved hvm, x3⟩⟩
theorem gP.moved {base : Nat} {D : va_G} {u U : State} {g : g_H} {H : Heap} (hvm : u.vm.Alike U.vm) (h : gP base D u g H) : gP base D U g H := ⟨h.1, fun a => ⟨(h.2 a).1.moved hvm, (h.2 a).2⟩⟩
/-- the known cells stay, the free address moves up -/
theorem gP.grow {base : Nat} {D : va_G} {s : State} {g : g_H} {H H1 : Heap} (h : gP base D s g H) (hq : ∀ q : Nat, q < H.size → H1[q]? = H[q]?) : gP base D s (gZset g H1.size) H1 := by
  refine ⟨rfl, fun a => ⟨?_, (h.2 a).2⟩⟩
  by_cases hk : (gS g a).1 = 0
  · have e : (gS (gZset g H1.size) a).1 = 0 := hk
    exact ⟨fun h0 => absurd e h0, fun h1 => by omega⟩
  · exact (h.2 a).1.kept rfl rfl rfl rfl (hq a ((h.2 a).1.lt hk))
theorem gP.set {base : Nat} {D : va_G} {s : State} {g g1 : g_H} {H H1 : Heap} {a : Nat} (h : gP base D s g H) (hz : gZ g1 = gZ g) (hS : gS g1 = gS g) (hz1 : H1.size = H.size) (ha : gAt D s g1 H1 a)
    (ho : ∀ b, b ≠ a → gI g1 b = gI g b ∧ gR g1 b = gR g b ∧ gJ g1 b = gJ g b) (oq : ∀ q : Nat, q ≠ a → H1[q]? = H[q]?) : gP base D s g1 H1 := by
  refine ⟨by rw [hz, hz1]; exact h.1, fun b => ⟨?_, by rw [hS]; exact (h.2 b).2⟩⟩
  by_cases hb : b = a
  · subst hb; exact ha
  · obtain ⟨o1, o2, o3⟩ := ho b hb
    exact (h.2 b).1.kept (by rw [hS]) o1 o2 o3 (oq b hb)
def gAOA (t : FieldType) (U : State) : Prop := (Cond.arrayOver (.array t)).before #[] U = true
theorem gAOA.of {t : FieldType} {A : Array Value} {U : State} (h : (Cond.arrayOver (.array t)).before A U = true) : gAOA t U := h
theorem gAOA.use {t : FieldType} {A : Array Value} {U : State} (h : gAOA t U) : (Cond.arrayOver (.array t)).before A U = true := h
theorem gAOA.moved {t : FieldType} {u U : State} (hvm : u.vm.Alike U.vm) (h : gAOA t u) : gAOA t U := by
  obtain ⟨comp, c, k, h1, h2, h3, h4, h5⟩ := arrayOverA_spec h
  obtain ⟨k', hk', he⟩ := hvm.2.2 _ _ h3
  have hi : (U.vm.classes.findIdx? fun (x : Class) => match x.kind with | .array component _ => component == comp | _ => false) = some c := by
    have hb0 : U.vm.bare = u.vm.bare := by first | exact hvm.bare_eq | exact hvm.bare_eq.symm
    exact (va_idx_bare U.vm comp).symm.trans ((congrArg (fun b : Vm => b.classes.findIdx? fun (x : Class) => match x.kind with | .array component _ => component == comp | _ => false) hb0).trans ((va_idx_bare u.vm comp).trans h2))
  have hkind : k'.kind = .array comp (.array t) := by rw [he]; exact h4
  have f1 : U.vm.findClass (FieldType.array t).toString = some comp := by rw [hvm.findClass]; exact h1
  have f2 : U.vm.findClass ("[" ++ (FieldType.array t).toString) = some c := by rw [hvm.findClass]; exact h5
  unfold gAOA Cond.before Cond.holds
  simp only [Cond.value]
  rw [f1, Option.bind_some]
  refine (congrArg (fun o : Option Nat => (o.bind (fun c => (U.vm.classes[c]?).map fun (k : Class) => match k.kind with | .array _ ty => decide (ty = FieldType.array t) && decide (U.vm.findClass ("[" ++ (FieldType.array t).toString) = some c) | _ => false) == some true)) hi).trans ?_
  simp [hk', hkind, f2]
theorem g_if {c : Prop} {i : Decidable c} {α : Type} {x : Option α} {y : α} (h : @ite (Option α) c i x none = some y) : c ∧ x = some y := by
  by_cases hc : c
  · rw [if_pos hc] at h; exact ⟨hc, h⟩
  · rw [if_neg hc] at h; cases h
theorem g_t {c : Prop} {i : Decidable c} {α : Type} {x y z : α} (hc : c) (h : @ite α c i x y = z) : x = z := by rw [if_pos hc] at h; exact h
theorem g_f {c : Prop} {i : Decidable c} {α : Type} {x y z : α} (hc : ¬ c) (h : @ite α c i x y = z) : y = z := by rw [if_neg hc] at h; exact h
theorem g_bind {α β : Type} {x : Option α} {f : α → Option β} {y : β} (h : x.bind f = some y) : ∃ q, x = some q ∧ f q = some y := by
  cases x with
  | none => cases h
  | some q => exact ⟨q, rfl, h⟩
theorem g_ref {α : Type} {x : Option Nat} {f : Nat → Option α} {y : α} (h : x.bind f = some y) : ∃ q, x = some q ∧ f q = some y := g_bind h
theorem g_ret {α β : Type} {a a1 : α} {b b1 : β} (h : some (a, b) = some (a1, b1)) : a = a1 ∧ b = b1 := by cases h; exact ⟨rfl, rfl⟩
theorem g_no {α : Type} {P : Prop} {y : α} (h : (none : Option α) = some y) : P := nomatch h
/-! rows over the pure heap -/
theorem gFv_i {T : u_T} {k : Nat} {x : Int32} {y : Option Nat} (h : (T k).2.2.1 = "I" ∨ (T k).2.2.1 = "Z") : gFv T k x y = .int x := if_pos h
theorem gFv_r {T : u_T} {k : Nat} {x : Int32} {y : Option Nat} (h : ¬ ((T k).2.2.1 = "I" ∨ (T k).2.2.1 = "Z")) : gFv T k x y = va_rf y := if_neg h
theorem gU_s {α : Type} {f : Nat → Nat → α} {a k : Nat} {x : α} : gU f a k x a k = x := by unfold gU; rw [if_pos rfl, if_pos rfl]
theorem gU_k {α : Type} {f : Nat → Nat → α} {a k j : Nat} {x : α} (h : j ≠ k) : gU f a k x a j = f a j := by unfold gU; rw [if_pos rfl, if_neg h]
theorem gU_o {α : Type} {f : Nat → Nat → α} {a b k : Nat} {x : α} (h : b ≠ a) : gU f a k x b = f b := by funext j; unfold gU; rw [if_neg h]
theorem gW_s {α : Type} {f : Nat → Nat → α} {a : Nat} {r : Nat → α} : gW f a r a = r := by unfold gW; rw [if_pos rfl]
theorem gW_o {α : Type} {f : Nat → Nat → α} {a b : Nat} {r : Nat → α} (h : b ≠ a) : gW f a r b = f b := by unfold gW; rw [if_neg h]
section GROWS
variable {p : Program} {l : Launch} {e : Env} {R : Room} {s : State} {m : MethodId} {args : Array Value} {below : List Frame} {meth : Method} {c : Code} {H : Heap} {locs : List Loc} {cells slots : Nat} {Q : State → Prop}
variable {cc : ByteArray} {pc : Nat} {ls : Array Slot} {rest : List Value} {D : va_G} {base : Nat} {g : g_H} {a : Nat} {H0 : Heap}
theorem gP.ob {C : String} {T : u_T} {N ci : Nat} (hP : gP base D s g H) (hc : vwCl[ci]? = some (C, T, N)) (hci : ci < 10) (hk0 : (gS g a).1 = ci + 1) : t_OB a (D.1 ci) N (D.2 ci) H (fun j => gFv T j (gI g a j) (gR g a j)) := by
  obtain ⟨r, h1, h2⟩ := (hP.2 a).1.1 (by omega) (by omega)
  rw [hk0] at h1 h2
  have hr : r = (C, T, N) := Option.some.inj (h1.symm.trans hc)
  subst hr
  exact h2
theorem gP.recv {C : String} {T : u_T} {N ci : Nat} (hK : va_K D vwCl [] s) (hP : gP base D s g H) (hc : vwCl[ci]? = some (C, T, N)) (hci : ci < 10) (hk0 : (gS g a).1 = ci + 1) : ∃ cell : Cell, H[a]? = some cell ∧ cell.vm.isStatics = false ∧ s.vm.findClass C = some cell.cls := by
  obtain ⟨cell, g1, g2, g3, -⟩ := hP.ob hc hci hk0
  exact ⟨cell, g1, by rw [g3]; rfl, by rw [g2]; exact (hK.1 ci _ hc).2.1⟩
theorem g_get (hexec : p.tables.exec = Jvm.exec) (hb : c.code = cc) {own ref C : String} {T : u_T} {N index : Nat} {Ts : List Cond} (hts : ∀ w ∈ Ts, w.before args s = true) (hin : ∀ w ∈ u_ws C T N, w ∈ Ts) (hown : s.vm.findClass own = some m.cls) (hK : va_K D vwCl [] s) (hP : gP base D s g H) (ci : Nat) (hc : vwCl[ci]? = some (C, T, N)) (hci : ci < 10) (hk0 : (gS g a).1 = ci + 1) (k : Nat) (hk : k < N)
    (hlink : (Cond.fieldLink own index ref (T k).2.1 (T k).2.2.1).before args s = true) (hsame : ∀ x, s.fieldFound? (T k).1 (T k).2.1 (T k).2.2.1 = some x → s.fieldFound? ref (T k).2.1 (T k).2.2.1 = some x) {v : Value} (hv : gFv T k (gI g a k) (gR g a k) = v) (hdg : decode cc pc = .ok (.getfield index, 3))
    (kk : W p l e R s m args below meth c H locs cells slots Q (F0 m (pc + 3) ls (v :: rest))) : W p l e R s m args below meth c H locs cells slots Q (F0 m pc ls (.ref a :: rest)) := by
  obtain ⟨cell, q1, q2, q3, q4⟩ := hP.ob hc hci hk0
  obtain ⟨hS, hfc, kC, hkC, hkind⟩ := hK.1 ci _ hc
  obtain ⟨cf, kf, fi, f, hi, hsl⟩ := hS k hk
  refine W.getf hexec hb hown hlink (hsame _ hi) (u_facts hfc hkC (u_lays hts hin hk) hi).1 q1 (by rw [q3]; exact fun h => by cases h) (v := v) ?_ rfl rfl hdg kk
  rw [hsl]
  exact (q4 k hk).trans (congrArg some hv)
theorem g_put (hexec : p.tables.exec = Jvm.exec) (hb : c.code = cc) {own ref C : String} {T : u_T} {N index : Nat} {Ts : List Cond} (hts : ∀ w ∈ Ts, w.before args s = true) (hin : ∀ w ∈ u_ws C T N, w ∈ Ts) (ty0 : Nat → FieldType) (hty : ∀ k, k < N → parseFieldDescriptor (T k).2.2.1 = some (ty0 k)) (hnm : ∀ a, a < N → ∀ b, b < N → a ≠ b → (T a).2.1 ≠ (T b).2.1) (hown : s.vm.findClass own = some m.cls) (hK : va_K D vwCl [] s) (hP : gP base D s g H) (hS0 : va_S (gA base) H0 H locs)
    (ci : Nat) (hc : vwCl[ci]? = some (C, T, N)) (hci : ci < 10) (hk0 : (gS g a).1 = ci + 1) (k : Nat) (hk : k < N) (hlink : (Cond.fieldLink own index ref (T k).2.1 (T k).2.2.1).before args s = true) (hsame : ∀ x, s.fieldFound? (T k).1 (T k).2.1 (T k).2.2.1 = some x → s.fieldFound? ref (T k).2.1 (T k).2.2.1 = some x)
    (hfin : (T k).2.2.2 = false ∨ ((T k).2.2.2 = true ∧ meth.name = "<init>" ∧ (T k).1 = own)) {v : Value} (hn : narrow (ty0 k) v = v) (hfit : fits (ty0 k) v = true) {g1 : g_H} (hgv : gFv T k (gI g1 a k) (gR g1 a k) = v) (hgs : gS g1 = gS g) (hgz : gZ g1 = gZ g) (hgk : ∀ j, j ≠ k → gI g1 a j = gI g a j ∧ gR g1 a j = gR g a j) (hgo : ∀ b, b ≠ a → gI g1 b = gI g b ∧ gR g1 b = gR g b ∧ gJ g1 b = gJ g b)
    (hdg : decode cc pc = .ok (.putfield index, 3)) (kk : ∀ (H1 : Heap) (locs1 : List Loc), gP base D s g1 H1 → va_S (gA base) H0 H1 locs1 → W p l e R s m args below meth c H1 locs1 cells slots Q (F0 m (pc + 3) ls rest)) : W p l e R s m args below meth c H locs cells slots Q (F0 m pc ls (v :: .ref a :: rest)) := by
  have hap := va_apart (own := own) hts hin ty0 hty hnm hK hc
  obtain ⟨cell, q1, q2, q3, q4⟩ := hP.ob hc hci hk0
  obtain ⟨hS, hfc, kC, hkC, hkind⟩ := hK.1 ci _ hc
  obtain ⟨cf, kf, fi, f, hi, hsl⟩ := hS k hk
  have hd := hty k hk
  have hlay := hts _ (hin _ (u_in_lay hk))
  have hst := (u_facts hfc hkC (u_lays hts hin hk) hi).1
  have hbase : base ≤ a := (hP.2 a).2 (by omega)
  have key : ∀ H' : Heap, H'[a]? = some (cell.setSlot f.slot v) → H'.size = H.size → (∀ q, q ≠ a → H'[q]? = H[q]?) → gP base D s g1 H' := by
    intro H' e1 e2 e3
    rw [hsl] at e1
    refine hP.set hgz hgs e2 ?_ hgo e3
    refine ⟨fun h0 h1 => ?_, fun h1 => by rw [hgs] at h1; omega⟩
    rw [hgs, hk0]
    refine ⟨(C, T, N), hc, t_OB.to (V := updV (fun j => gFv T j (gI g a j) (gR g a j)) k v) ⟨_, e1, q2, q3, t_set q4 hap hk v⟩ (fun j hj => ?_)⟩
    by_cases hjk : j = k
    · subst hjk
      rw [hgv]
      simp [updV]
    · obtain ⟨z1, z2⟩ := hgk j hjk
      rw [z1, z2]
      simp [updV, hjk]
  rcases hfin with hfin | ⟨hfin, hin2, hdecl⟩
  · unfold u_lay at hlay
    rw [if_neg (by rw [hfin]; decide)] at hlay
    have h6 := u_store hfc hkC hkind hlay hi hd hn hfit
    refine W.putK hexec hb (f := f) ⟨hown, hlink, ⟨_, _, _, hsame _ hi⟩, hst⟩ (by rw [q2]; exact h6) q1 q3 (by rw [hsl]; exact k2_hasslot (q4 k hk)) rfl rfl hdg fun H' e1 e2 e3 => ?_
    exact kk H' _ (key H' e1 e2 e3) (hS0.put e2 e3 hbase)
  · unfold u_lay at hlay
    rw [if_pos hfin] at hlay
    have hcf : m.cls = cf := by
      obtain ⟨_, _, c', _, _, _, -, -, hf', -, -, -, hown2, -⟩ := Cond.laysFinal_spec hlay
      have e1 : c' = cf := by have := hi.symm.trans hf'; simp at this; exact this.1.symm
      rw [hdecl] at hown2
      rw [← e1]; exact Option.some.inj (hown.symm.trans hown2)
    have h6 := u_fits hfc hkC hkind (Or.inr hlay) hi hd hn hfit
    refine W.putFinK hexec hb hown hlink (hsame _ hi) hst hcf hin2 (by rw [q2]; exact h6) q1 q3 (by rw [hsl]; exact k2_hasslot (q4 k hk)) rfl rfl hdg fun H' e1 e2 e3 => ?_
    exact kk H' _ (key H' e1 e2 e3) (hS0.put e2 e3 hbase)
theorem g_puti (hexec : p.tables.exec = Jvm.exec) (hb : c.code = cc) {own ref C : String} {T : u_T} {N index : Nat} {Ts : List Cond} (hts : ∀ w ∈ Ts, w.before args s = true) (hin : ∀ w ∈ u_ws C T N, w ∈ Ts) (ty0 : Nat → FieldType) (hty : ∀ k, k < N → parseFieldDescriptor (T k).2.2.1 = some (ty0 k)) (hnm : ∀ a, a < N → ∀ b, b < N → a ≠ b → (T a).2.1 ≠ (T b).2.1) (hown : s.vm.findClass own = some m.cls) (hK : va_K D vwCl [] s) (hP : gP base D s g H) (hS0 : va_S (gA base) H0 H locs)
    (ci : Nat) (hc : vwCl[ci]? = some (C, T, N)) (hci : ci < 10) (hk0 : (gS g a).1 = ci + 1) (k : Nat) (hk : k < N) (hlink : (Cond.fieldLink own index ref (T k).2.1 (T k).2.2.1).before args s = true) (hsame : ∀ x, s.fieldFound? (T k).1 (T k).2.1 (T k).2.2.1 = some x → s.fieldFound? ref (T k).2.1 (T k).2.2.1 = some x)
    (hfin : (T k).2.2.2 = false ∨ ((T k).2.2.2 = true ∧ meth.name = "<init>" ∧ (T k).1 = own)) {x : Int32} (hdsc : (T k).2.2.1 = "I" ∨ (T k).2.2.1 = "Z") (hn : narrow (ty0 k) (.int x) = .int x) (hfit : fits (ty0 k) (.int x) = true)
    (hdg : decode cc pc = .ok (.putfield index, 3)) (kk : ∀ (H1 : Heap) (locs1 : List Loc), gP base D s (gPI g a k x) H1 → va_S (gA base) H0 H1 locs1 → W p l e R s m args below meth c H1 locs1 cells slots Q (F0 m (pc + 3) ls rest)) : W p l e R s m args below meth c H locs cells slots Q (F0 m pc ls (.int x :: .ref a :: rest)) :=
  g_put hexec hb hts hin ty0 hty hnm hown hK hP hS0 ci hc hci hk0 k hk hlink hsame hfin hn hfit (g1 := gPI g a k x) (by rw [gFv_i hdsc]; exact congrArg Value.int gU_s) rfl rfl (fun j hj => ⟨gU_k hj, rfl⟩) (fun b hb => ⟨gU_o hb, rfl, rfl⟩) hdg kk
theorem g_putr (hexec : p.tables.exec = Jvm.exec) (hb : c.code = cc) {own ref C : String} {T : u_T} {N index : Nat} {Ts : List Cond} (hts : ∀ w ∈ Ts, w.before args s = true) (hin : ∀ w ∈ u_ws C T N, w ∈ Ts) (ty0 : Nat → FieldType) (hty : ∀ k, k < N → parseFieldDescriptor (T k).2.2.1 = some (ty0 k)) (hnm : ∀ a, a < N → ∀ b, b < N → a ≠ b → (T a).2.1 ≠ (T b).2.1) (hown : s.vm.findClass own = some m.cls) (hK : va_K D vwCl [] s) (hP : gP base D s g H) (hS0 : va_S (gA base) H0 H locs)
    (ci : Nat) (hc : vwCl[ci]? = some (C, T, N)) (hci : ci < 10) (hk0 : (gS g a).1 = ci + 1) (k : Nat) (hk : k < N) (hlink : (Cond.fieldLink own index ref (T k).2.1 (T k).2.2.1).before args s = true) (hsame : ∀ x, s.fieldFound? (T k).1 (T k).2.1 (T k).2.2.1 = some x → s.fieldFound? ref (T k).2.1 (T k).2.2.1 = some x)
    (hfin : (T k).2.2.2 = false ∨ ((T k).2.2.2 = true ∧ meth.name = "<init>" ∧ (T k).1 = own)) {q : Nat} (hdsc : ¬ ((T k).2.2.1 = "I" ∨ (T k).2.2.1 = "Z")) (hn : narrow (ty0 k) (.ref q) = .ref q) (hfit : fits (ty0 k) (.ref q) = true)
    (hdg : decode cc pc = .ok (.putfield index, 3)) (kk : ∀ (H1 : Heap) (locs1 : List Loc), gP base D s (gPR g a k (some q)) H1 → va_S (gA base) H0 H1 locs1 → W p l e R s m args below meth c H1 locs1 cells slots Q (F0 m (pc + 3) ls rest)) : W p l e R s m args below meth c H locs cells slots Q (F0 m pc ls (.ref q :: .ref a :: rest)) :=
  g_put hexec hb hts hin ty0 hty hnm hown hK hP hS0 ci hc hci hk0 k hk hlink hsame hfin hn hfit (g1 := gPR g a k (some q)) (by rw [gFv_r hdsc]; exact congrArg va_rf gU_s) rfl rfl (fun j hj => ⟨rfl, gU_k hj⟩) (fun b hb => ⟨rfl, gU_o hb, rfl⟩) hdg kk
/-- an array's cell -/
theorem gP.ar {k n : Nat} (hP : gP base D s g H) (hk0 : (gS g a) = (k, n)) (hk : 11 ≤ k) : ∃ cA : ClassId, ArrOfT s cA (gTy k) ∧ va_RA s cA (gTy k) ∧ H[a]? = some (arrV cA n (fun j => gAv k (gI g a j) (gR g a j) (gJ g a j))) := by
  have h := (hP.2 a).1.2 (by rw [hk0]; exact hk)
  rw [hk0] at h
  exact h
theorem g_iald (hexec : p.tables.exec = Jvm.exec) (hb : c.code = cc) (hP : gP base D s g H) {n : Nat} (hk0 : gS g a = (11, n)) {i : Int32} (hin : ¬ (i < 0 ∨ n ≤ i.toNatClampNeg)) (hdg : decode cc pc = .ok (.iaload, 1))
    (kk : W p l e R s m args below meth c H locs cells slots Q (F0 m (pc + 1) ls (.int (gI g a i.toNatClampNeg) :: rest))) : W p l e R s m args below meth c H locs cells slots Q (F0 m pc ls (.int i :: .ref a :: rest)) := by
  obtain ⟨cA, x1, x2, x3⟩ := hP.ar hk0 (by omega)
  have hlt : i.toNatClampNeg < n := Nat.not_le.mp fun q => hin (Or.inr q)
  exact W.iald (v := .int (gI g a i.toNatClampNeg)) hexec hb x3 (x1 n _) (fun q => by cases q) (by rw [arrV_size]; exact hin) (by rw [arrV_read _ _ hlt]; rfl) rfl rfl hdg kk
theorem g_zald (hexec : p.tables.exec = Jvm.exec) (hb : c.code = cc) (hP : gP base D s g H) {n : Nat} (hk0 : gS g a = (12, n)) {i : Int32} (hin : ¬ (i < 0 ∨ n ≤ i.toNatClampNeg)) (hdg : decode cc pc = .ok (.baload, 1))
    (kk : W p l e R s m args below meth c H locs cells slots Q (F0 m (pc + 1) ls (.int (gI g a i.toNatClampNeg) :: rest))) : W p l e R s m args below meth c H locs cells slots Q (F0 m pc ls (.int i :: .ref a :: rest)) := by
  obtain ⟨cA, x1, x2, x3⟩ := hP.ar hk0 (by omega)
  have hlt : i.toNatClampNeg < n := Nat.not_le.mp fun q => hin (Or.inr q)
  exact W.zald (v := .int (gI g a i.toNatClampNeg)) hexec hb x3 (x1 n _) (fun q => by cases q) (by rw [arrV_size]; exact hin) (by rw [arrV_read _ _ hlt]; rfl) rfl rfl hdg kk
theorem g_lald (hexec : p.tables.exec = Jvm.exec) (hb : c.code = cc) (hP : gP base D s g H) {n : Nat} (hk0 : gS g a = (13, n)) {i : Int32} (hin : ¬ (i < 0 ∨ n ≤ i.toNatClampNeg)) (hdg : decode cc pc = .ok (.laload, 1))
    (kk : W p l e R s m args below meth c H locs cells slots Q (F0 m (pc + 1) ls (.long (gJ g a i.toNatClampNeg) :: rest))) : W p l e R s m args below meth c H locs cells slots Q (F0 m pc ls (.int i :: .ref a :: rest)) := by
  obtain ⟨cA, x1, x2, x3⟩ := hP.ar hk0 (by omega)
  have hlt : i.toNatClampNeg < n := Nat.not_le.mp fun q => hin (Or.inr q)
  exact W.lald (v := .long (gJ g a i.toNatClampNeg)) hexec hb x3 (x1 n _) (fun q => by cases q) (by rw [arrV_size]; exact hin) (by rw [arrV_read _ _ hlt]; rfl) rfl rfl hdg kk
theorem g_aald (hexec : p.tables.exec = Jvm.exec) (hb : c.code = cc) (hP : gP base D s g H) {k n : Nat} (hk0 : gS g a = (k, n)) (hk : 14 ≤ k) {i : Int32} (hin : ¬ (i < 0 ∨ n ≤ i.toNatClampNeg)) {q : Nat} (hq : gR g a i.toNatClampNeg = some q) (hdg : decode cc pc = .ok (.aaload, 1))
    (kk : W p l e R s m args below meth c H locs cells slots Q (F0 m (pc + 1) ls (.ref q :: rest))) : W p l e R s m args below meth c H locs cells slots Q (F0 m pc ls (.int i :: .ref a :: rest)) := by
  obtain ⟨cA, x1, x2, x3⟩ := hP.ar hk0 (by omega)
  have hlt : i.toNatClampNeg < n := Nat.not_le.mp fun q => hin (Or.inr q)
  have hty : (gTy k).isReference = true := by
    unfold gTy
    rw [if_neg (by omega), if_neg (by omega), if_neg (by omega)]
    split
    · rfl
    · split
      · rfl
      · split <;> rfl
  have hav : gAv k (gI g a i.toNatClampNeg) (gR g a i.toNatClampNeg) (gJ g a i.toNatClampNeg) = .ref q := by
    unfold gAv
    rw [if_neg (by omega), if_neg (by omega), hq]
    rfl
  exact W.aald (v := .ref q) hexec hb x3 (x1 n _) hty (fun q => by cases q) (by rw [arrV_size]; exact hin) (by rw [arrV_read _ _ hlt, hav]) rfl rfl hdg kk
theorem g_alen (hexec : p.tables.exec = Jvm.exec) (hb : c.code = cc) (hP : gP base D s g H) {k n : Nat} (hk0 : gS g a = (k, n)) (hk : 11 ≤ k) (hdg : decode cc pc = .ok (.arraylength, 1))
    (kk : W p l e R s m args below meth c H locs cells slots Q (F0 m (pc + 1) ls (.int (nI n) :: rest))) : W p l e R s m args below meth c H locs cells slots Q (F0 m pc ls (.ref a :: rest)) := by
  obtain ⟨cA, x1, x2, x3⟩ := hP.ar hk0 hk
  exact W.alen (n := nI n) hexec hb x3 (x1 n _) (by rw [arrV_size] <;> rfl) rfl rfl hdg kk
/-- an array's cell anew -/
theorem gP.setA {k n i : Nat} {v : Value} {cA : ClassId} {g1 : g_H} {H1 : Heap} (hP : gP base D s g H) (hk0 : gS g a = (k, n)) (hk : 11 ≤ k) (x1 : ArrOfT s cA (gTy k)) (x2 : va_RA s cA (gTy k)) (hgs : gS g1 = gS g) (hgz : gZ g1 = gZ g)
    (hgv : gAv k (gI g1 a i) (gR g1 a i) (gJ g1 a i) = v) (hgk : ∀ j, j ≠ i → gI g1 a j = gI g a j ∧ gR g1 a j = gR g a j ∧ gJ g1 a j = gJ g a j) (hgo : ∀ b, b ≠ a → gI g1 b = gI g b ∧ gR g1 b = gR g b ∧ gJ g1 b = gJ g b)
    (e1 : H1[a]? = some ((arrV cA n (fun j => gAv k (gI g a j) (gR g a j) (gJ g a j))).setSlot i v)) (e2 : H1.size = H.size) (e3 : ∀ q, q ≠ a → H1[q]? = H[q]?) : gP base D s g1 H1 := by
  refine hP.set hgz hgs e2 ⟨fun h0 h1 => ?_, fun h1 => ?_⟩ hgo e3
  · rw [hgs, hk0] at h1
    exact absurd h1 (by show ¬ k < 11; omega)
  · rw [hgs, hk0]
    refine ⟨cA, x1, x2, ?_⟩
    rw [e1, arrV_store]
    show some (arrV cA n _) = some (arrV cA n _)
    congr 2
    funext j
    by_cases hj : j = i
    · subst hj
      simp only [updV, if_pos rfl]
      exact hgv.symm
    · obtain ⟨z1, z2, z3⟩ := hgk j hj
      simp only [updV, if_neg hj]
      rw [z1, z2, z3]
theorem g_iast (hexec : p.tables.exec = Jvm.exec) (hb : c.code = cc) (hP : gP base D s g H) (hS0 : va_S (gA base) H0 H locs) {n : Nat} (hk0 : gS g a = (11, n)) {i x : Int32} (hin : ¬ (i < 0 ∨ n ≤ i.toNatClampNeg)) (hdg : decode cc pc = .ok (.iastore, 1))
    (kk : ∀ (H1 : Heap) (locs1 : List Loc), gP base D s (gPI g a i.toNatClampNeg x) H1 → va_S (gA base) H0 H1 locs1 → W p l e R s m args below meth c H1 locs1 cells slots Q (F0 m (pc + 1) ls rest)) : W p l e R s m args below meth c H locs cells slots Q (F0 m pc ls (.int x :: .int i :: .ref a :: rest)) := by
  obtain ⟨cA, x1, x2, x3⟩ := hP.ar hk0 (by omega)
  have hbase : base ≤ a := (hP.2 a).2 (by rw [hk0]; simp)
  refine W.iast hexec hb x3 (x1 n _) (fun q => by cases q) (by rw [arrV_size]; exact hin) rfl rfl hdg fun H1 e z oq => ?_
  exact kk H1 _ (hP.setA (i := i.toNatClampNeg) (g1 := gPI g a i.toNatClampNeg x) hk0 (by omega) x1 x2 rfl rfl (congrArg Value.int gU_s) (fun j hj => ⟨gU_k hj, rfl, rfl⟩) (fun b hb => ⟨gU_o hb, rfl, rfl⟩) e z oq) (hS0.put z oq hbase)
theorem g_zast (hexec : p.tables.exec = Jvm.exec) (hb : c.code = cc) (hP : gP base D s g H) (hS0 : va_S (gA base) H0 H locs) {n : Nat} (hk0 : gS g a = (12, n)) {i x : Int32} (hin : ¬ (i < 0 ∨ n ≤ i.toNatClampNeg)) (hx : x = 0 ∨ x = 1) (hdg : decode cc pc = .ok (.bastore, 1))
    (kk : ∀ (H1 : Heap) (locs1 : List Loc), gP base D s (gPI g a i.toNatClampNeg x) H1 → va_S (gA base) H0 H1 locs1 → W p l e R s m args below meth c H1 locs1 cells slots Q (F0 m (pc + 1) ls rest)) : W p l e R s m args below meth c H locs cells slots Q (F0 m pc ls (.int x :: .int i :: .ref a :: rest)) := by
  obtain ⟨cA, x1, x2, x3⟩ := hP.ar hk0 (by omega)
  have hbase : base ≤ a := (hP.2 a).2 (by rw [hk0]; simp)
  refine W.zast hexec hb x3 (x1 n _) (fun q => by cases q) (by rw [arrV_size]; exact hin) rfl rfl hdg fun H1 e z oq => ?_
  have hnx : narrow .boolean (.int x) = .int x := by rcases hx with h | h <;> subst h <;> rfl
  rw [hnx] at e
  exact kk H1 _ (hP.setA (i := i.toNatClampNeg) (g1 := gPI g a i.toNatClampNeg x) hk0 (by omega) x1 x2 rfl rfl (congrArg Value.int gU_s) (fun j hj => ⟨gU_k hj, rfl, rfl⟩) (fun b hb => ⟨gU_o hb, rfl, rfl⟩) e z oq) (hS0.put z oq hbase)
theorem g_last (hexec : p.tables.exec = Jvm.exec) (hb : c.code = cc) (hP : gP base D s g H) (hS0 : va_S (gA base) H0 H locs) {n : Nat} (hk0 : gS g a = (13, n)) {i : Int32} {x : Int64} (hin : ¬ (i < 0 ∨ n ≤ i.toNatClampNeg)) (hdg : decode cc pc = .ok (.lastore, 1))
    (kk : ∀ (H1 : Heap) (locs1 : List Loc), gP base D s (gPJ g a i.toNatClampNeg x) H1 → va_S (gA base) H0 H1 locs1 → W p l e R s m args below meth c H1 locs1 cells slots Q (F0 m (pc + 1) ls rest)) : W p l e R s m args below meth c H locs cells slots Q (F0 m pc ls (.long x :: .int i :: .ref a :: rest)) := by
  obtain ⟨cA, x1, x2, x3⟩ := hP.ar hk0 (by omega)
  have hbase : base ≤ a := (hP.2 a).2 (by rw [hk0]; simp)
  refine W.last hexec hb x3 (x1 n _) (fun q => by cases q) (by rw [arrV_size]; exact hin) rfl rfl hdg fun H1 e z oq => ?_
  exact kk H1 _ (hP.setA (i := i.toNatClampNeg) (g1 := gPJ g a i.toNatClampNeg x) hk0 (by omega) x1 x2 rfl rfl (congrArg Value.long gU_s) (fun j hj => ⟨rfl, rfl, gU_k hj⟩) (fun b hb => ⟨rfl, rfl, gU_o hb⟩) e z oq) (hS0.put z oq hbase)
/-- a row of references to objects of C -/
theorem g_aast (hexec : p.tables.exec = Jvm.exec) (hb : c.code = cc) (hK : va_K D vwCl [] s) (hP : gP base D s g H) (hS0 : va_S (gA base) H0 H locs) {k n : Nat} (hk0 : gS g a = (k, n)) (hk : 15 ≤ k) {C : String} {T : u_T} {N : Nat} (ci : Nat) (hty : gTy k = .object C) (hc : vwCl[ci]? = some (C, T, N)) (hci : ci < 10) {v : Nat} (hv0 : (gS g v).1 = ci + 1) {i : Int32} (hin : ¬ (i < 0 ∨ n ≤ i.toNatClampNeg)) (hdg : decode cc pc = .ok (.aastore, 1))
    (kk : ∀ (H1 : Heap) (locs1 : List Loc), gP base D s (gPR g a i.toNatClampNeg (some v)) H1 → va_S (gA base) H0 H1 locs1 → W p l e R s m args below meth c H1 locs1 cells slots Q (F0 m (pc + 1) ls rest)) : W p l e R s m args below meth c H locs cells slots Q (F0 m pc ls (.ref v :: .int i :: .ref a :: rest)) := by
  obtain ⟨cA, x1, x2, x3⟩ := hP.ar hk0 (by omega)
  have hbase : base ≤ a := (hP.2 a).2 (by rw [hk0]; show k ≠ 0; omega)
  have hlt : i.toNatClampNeg < n := Nat.not_le.mp fun q => hin (Or.inr q)
  have h0 : ¬ i < 0 := fun q => hin (Or.inl q)
  obtain ⟨cellV, g1, g2, g3, -⟩ := hP.ob hc hci hv0
  have hcls := (hK.1 ci _ hc).2
  have x2' := x2
  rw [hty] at x2'
  obtain ⟨kA, comp, k1, k2, k3, -⟩ := x2'
  have hcomp : comp = D.1 ci := Option.some.inj (k3.symm.trans hcls.1)
  subst hcomp
  obtain ⟨kC, hkC, -⟩ := hcls.2
  refine W.aast hexec hb x3 (fun q h => by cases h) (fun h => by cases h) k1 k2 rfl hkC ⟨h0, by rw [arrV_size]; exact hlt⟩ g1 (fun q h => by rw [g3] at h; cases h) (by rw [g2]; exact hkC) (by rw [g2]; exact va_assign hcls) rfl rfl hdg fun H1 e z oq => ?_
  exact kk H1 _ (hP.setA (i := i.toNatClampNeg) (g1 := gPR g a i.toNatClampNeg (some v)) hk0 (by omega) x1 x2 rfl rfl (by unfold gAv; rw [if_neg (by omega), if_neg (by omega)]; exact congrArg va_rf gU_s) (fun j hj => ⟨rfl, gU_k hj, rfl⟩) (fun b hb => ⟨rfl, gU_o hb, rfl⟩) e z oq) (hS0.put z oq hbase)
/-- a row of references to rows of ints -/
theorem g_aastA (hexec : p.tables.exec = Jvm.exec) (hb : c.code = cc) (hP : gP base D s g H) (hS0 : va_S (gA base) H0 H locs) {n nv : Nat} (hk0 : gS g a = (14, n)) {v : Nat} (hv0 : gS g v = (11, nv)) (hov : gAOA .int s) {i : Int32} (hin : ¬ (i < 0 ∨ n ≤ i.toNatClampNeg)) (hdg : decode cc pc = .ok (.aastore, 1))
    (kk : ∀ (H1 : Heap) (locs1 : List Loc), gP base D s (gPR g a i.toNatClampNeg (some v)) H1 → va_S (gA base) H0 H1 locs1 → W p l e R s m args below meth c H1 locs1 cells slots Q (F0 m (pc + 1) ls rest)) : W p l e R s m args below meth c H locs cells slots Q (F0 m pc ls (.ref v :: .int i :: .ref a :: rest)) := by
  obtain ⟨cA, x1, x2, x3⟩ := hP.ar hk0 (by omega)
  obtain ⟨cV, y1, y2, y3⟩ := hP.ar hv0 (by omega)
  have hbase : base ≤ a := (hP.2 a).2 (by rw [hk0]; simp)
  have hlt : i.toNatClampNeg < n := Nat.not_le.mp fun q => hin (Or.inr q)
  have h0 : ¬ i < 0 := fun q => hin (Or.inl q)
  obtain ⟨comp, cA2, kA, k3, -, k1, k2, k4⟩ := arrayOverA_spec (gAOA.use (A := args) hov)
  have hcA : cA = cA2 := Option.some.inj ((show s.vm.findClass ("[" ++ (FieldType.array FieldType.int).toString) = some cA from x2).symm.trans k4)
  subst hcA
  have hcV : cV = comp := Option.some.inj ((show s.vm.findClass ("[" ++ FieldType.int.toString) = some cV from y2).symm.trans k3)
  subst hcV
  obtain ⟨-, kV, hkV, cm, hkk⟩ := y1 0 (fun _ => .null)
  refine W.aast hexec hb x3 (fun q h => by cases h) (fun h => by cases h) k1 k2 rfl hkV ⟨h0, by rw [arrV_size]; exact hlt⟩ y3 (fun q h => by cases h) hkV (va_asg s.vm cV) rfl rfl hdg fun H1 e z oq => ?_
  exact kk H1 _ (hP.setA (i := i.toNatClampNeg) (g1 := gPR g a i.toNatClampNeg (some v)) hk0 (by omega) x1 x2 rfl rfl (congrArg va_rf gU_s) (fun j hj => ⟨rfl, gU_k hj, rfl⟩) (fun b hb => ⟨rfl, gU_o hb, rfl⟩) e z oq) (hS0.put z oq hbase)
/-- a new cell at the end of the heap -/
theorem gP.push {kd n : Nat} {r : Nat → Int32} {H1 : Heap} (hP : gP base D s g H) (hbz : base ≤ H.size) (hz : H1.size = H.size + 1) (ho : ∀ q : Nat, q < H.size → H1[q]? = H[q]?) (ha : gAt D s (gN g kd n r) H1 H.size) : gP base D s (gN g kd n r) H1 := by
  have hgz := hP.1
  refine ⟨by show gZ g + 1 = _; rw [hz, hgz], fun b => ?_⟩
  by_cases hb : b = H.size
  · subst hb
    exact ⟨ha, fun _ => hbz⟩
  · have hb2 : b ≠ gZ g := by rw [hgz]; exact hb
    have e0 : gS (gN g kd n r) b = gS g b := if_neg hb2
    rw [e0]
    refine ⟨?_, (hP.2 b).2⟩
    by_cases hk : (gS g b).1 = 0
    · exact ⟨fun h => absurd (by rw [e0]; exact hk) h, fun h => by rw [e0] at h; omega⟩
    · exact (hP.2 b).1.kept e0 (gW_o hb2) (gW_o hb2) (gW_o hb2) (ho b ((hP.2 b).1.lt hk))
theorem gS_gN {kd n : Nat} {r : Nat → Int32} (hz : gZ g = a) : gS (gN g kd n r) a = (kd, n) := if_pos hz.symm
theorem gI_gN {kd n : Nat} {r : Nat → Int32} (hz : gZ g = a) : gI (gN g kd n r) a = r := by subst hz; exact gW_s
theorem gR_gN {kd n : Nat} {r : Nat → Int32} (hz : gZ g = a) : gR (gN g kd n r) a = fun _ => none := by subst hz; exact gW_s
theorem gJ_gN {kd n : Nat} {r : Nat → Int32} (hz : gZ g = a) : gJ (gN g kd n r) a = fun _ => 0 := by subst hz; exact gW_s
theorem gS_push {H1 : Heap} (hS : va_S (gA base) H0 H locs) (hz : H.size ≤ H1.size) (ho : ∀ q : Nat, q < H.size → H1[q]? = H[q]?) : va_S (gA base) H0 H1 locs :=
  ⟨Nat.le_trans hS.1 hz, fun x h1 h2 => (ho x (Nat.lt_of_lt_of_le h1 hS.1)).trans (hS.2.1 x h1 h2), hS.2.2⟩
theorem g_new (hexec : p.tables.exec = Jvm.exec) (hb : c.code = cc) {own C : String} {T : u_T} {N index : Nat} {Ts : List Cond} (hts : ∀ w ∈ Ts, w.before args s = true) (hin : ∀ w ∈ u_ws C T N, w ∈ Ts) (ty : Nat → FieldType) (hty : ∀ k, k < N → parseFieldDescriptor (T k).2.2.1 = some (ty k)) (hown : s.vm.findClass own = some m.cls) (hcl : (Cond.classLink own index C).before args s = true) (hinst : (Cond.instantiable C N).before args s = true) (hini : (Cond.initialized C).before args s = true)
    (hK : va_K D vwCl [] s) (hP : gP base D s g H) (hS : va_S (gA base) H0 H locs) (hbz : base ≤ H0.size) (ci : Nat) (hc : vwCl[ci]? = some (C, T, N)) (hci : ci < 10) (hdf : ∀ j, j < N → defaultValue (ty j) = gFv T j 0 none) (hcells : cells + 1 ≤ R.cells) (hslots : slots + N ≤ R.slots) (hdg : decode cc pc = .ok (.new index, 3))
    (kk : ∀ (H1 : Heap), gP base D s (gN g (ci + 1) 0 (fun _ => 0)) H1 → va_S (gA base) H0 H1 locs → W p l e R s m args below meth c H1 locs (cells + 1) (slots + N) Q (F0 m (pc + 3) ls (.ref (gZ g) :: rest))) : W p l e R s m args below meth c H locs cells slots Q (F0 m pc ls rest) := by
  have hKn := hK.1 ci _ hc
  have hgz := hP.1
  refine W.newcK hexec hb hown hcl hinst hini rfl hdg hcells hslots hKn.2.1 hgz.symm fun H1 kC hkC e1 z1 o1 => ?_
  rw [hgz] at e1 z1 o1
  refine kk H1 (hP.push (Nat.le_trans hbz hS.1) z1 o1 ⟨fun h0 h1 => ?_, fun h1 => ?_⟩) (gS_push hS (by omega) o1)
  · rw [gS_gN hgz, gI_gN hgz, gR_gN hgz]
    exact ⟨_, hc, (u_born ty hts hin hKn hkC e1 hty).to hdf⟩
  · rw [gS_gN hgz] at h1
    exact absurd h1 (by show ¬ 11 ≤ ci + 1; omega)
theorem g_newa (hexec : p.tables.exec = Jvm.exec) (hb : c.code = cc) {atype : ArrayType} (harr : (Cond.arrayClass (newarray.typeOf atype)).before args s = true) (kd : Nat) (hkd : gTy kd = newarray.typeOf atype) (hk11 : 11 ≤ kd) (hdv : defaultValue (newarray.typeOf atype) = gAv kd 0 none 0)
    (hP : gP base D s g H) (hS : va_S (gA base) H0 H locs) (hbz : base ≤ H0.size) {n : Int32} {N' : Nat} (hn : ¬ n < 0) (hN : n.toNatClampNeg = N') (hbytes : N' * componentBytes (newarray.typeOf atype) ≤ 536870912) (hcells : cells + 1 ≤ R.cells) (hslots : slots + N' ≤ R.slots) (hdg : decode cc pc = .ok (.newarray atype, 2))
    (kk : ∀ (H1 : Heap), gP base D s (gN g kd N' (fun _ => 0)) H1 → va_S (gA base) H0 H1 locs → W p l e R s m args below meth c H1 locs (cells + 1) (slots + N') Q (F0 m (pc + 2) ls (.ref (gZ g) :: rest))) : W p l e R s m args below meth c H locs cells slots Q (F0 m pc ls (.int n :: rest)) := by
  have hgz := hP.1
  refine va_newaK hexec hb harr rfl hdg rfl hn hN hbytes hcells hslots hgz.symm fun H1 cA e1 z1 o1 hAr hNm => ?_
  rw [hgz] at e1 z1 o1
  refine kk H1 (hP.push (Nat.le_trans hbz hS.1) z1 o1 ⟨fun h0 h1 => ?_, fun h1 => ?_⟩) (gS_push hS (by omega) o1)
  · rw [gS_gN hgz] at h1
    exact absurd h1 (by show ¬ kd < 11; omega)
  · rw [gS_gN hgz, gI_gN hgz, gR_gN hgz, gJ_gN hgz]
    refine ⟨cA, by rw [hkd]; exact hAr, by rw [hkd]; cases atype <;> exact hNm, ?_⟩
    rw [e1, hdv]
theorem g_newq (hexec : p.tables.exec = Jvm.exec) (hb : c.code = cc) {own C : String} {index : Nat} (hown : s.vm.findClass own = some m.cls) (hclink : (Cond.classLink own index C).before args s = true) (hover : va_AO C s) (kd : Nat) (hkd : gTy kd = .object C) (hk15 : 15 ≤ kd)
    (hP : gP base D s g H) (hS : va_S (gA base) H0 H locs) (hbz : base ≤ H0.size) {n : Int32} {N' : Nat} (hn : ¬ n < 0) (hN : n.toNatClampNeg = N') (hbytes : N' * 4 ≤ 536870912) (hcells : cells + 1 ≤ R.cells) (hslots : slots + N' ≤ R.slots) (hdg : decode cc pc = .ok (.anewarray index, 3))
    (kk : ∀ (H1 : Heap), gP base D s (gN g kd N' (fun _ => 0)) H1 → va_S (gA base) H0 H1 locs → W p l e R s m args below meth c H1 locs (cells + 1) (slots + N') Q (F0 m (pc + 3) ls (.ref (gZ g) :: rest))) : W p l e R s m args below meth c H locs cells slots Q (F0 m pc ls (.int n :: rest)) := by
  subst hN
  have hgz := hP.1
  refine W.anew hexec hb hown hclink (va_AO.use hover) rfl hdg rfl hn hbytes hcells hslots fun cA kA comp f1 f2 f3 f4 => ?_
  generalize hH1 : H.push ({ cls := cA, slots := Array.replicate n.toNatClampNeg .null, vm := .none } : Cell) = H1
  have z1 : H1.size = H.size + 1 := by rw [← hH1, Array.size_push]
  have e1 : H1[H.size]? = some (arrV cA n.toNatClampNeg (fun _ => .null)) := by rw [← hH1, Array.getElem?_push_size, ← arrV_new]
  have o1 : ∀ q : Nat, q < H.size → H1[q]? = H[q]? := fun q hq => by rw [← hH1, Array.getElem?_push, if_neg (Nat.ne_of_lt hq)]
  have hAr : ArrOfT s cA (.object C) := fun N z => ⟨(fun k h => by cases h), kA, f2, comp, f3⟩
  rw [← hgz]
  refine kk H1 (hP.push (Nat.le_trans hbz hS.1) z1 o1 ⟨fun h0 h1 => ?_, fun h1 => ?_⟩) (gS_push hS (by omega) o1)
  · rw [gS_gN hgz] at h1
    exact absurd h1 (by show ¬ kd < 11; omega)
  · rw [gS_gN hgz, gI_gN hgz, gR_gN hgz, gJ_gN hgz]
    refine ⟨cA, by rw [hkd]; exact hAr, by rw [hkd]; exact ⟨kA, comp, f2, f3, f4, f1⟩, ?_⟩
    rw [e1]
    have hav : (fun j : Nat => gAv kd ((fun _ => (0 : Int32)) j) ((fun _ => (none : Option Nat)) j) ((fun _ => (0 : Int64)) j)) = fun _ => Value.null := by
      funext j
      unfold gAv
      rw [if_neg (by omega), if_neg (by omega)]
      rfl
    rw [hav]
theorem g_newqA (hexec : p.tables.exec = Jvm.exec) (hb : c.code = cc) {own : String} {index : Nat} (hown : s.vm.findClass own = some m.cls) (hclink : (Cond.classLink own index (FieldType.array .int).toString).before args s = true) (hover : gAOA .int s)
    (hP : gP base D s g H) (hS : va_S (gA base) H0 H locs) (hbz : base ≤ H0.size) {n : Int32} {N' : Nat} (hn : ¬ n < 0) (hN : n.toNatClampNeg = N') (hbytes : N' * 4 ≤ 536870912) (hcells : cells + 1 ≤ R.cells) (hslots : slots + N' ≤ R.slots) (hdg : decode cc pc = .ok (.anewarray index, 3))
    (kk : ∀ (H1 : Heap), gP base D s (gN g 14 N' (fun _ => 0)) H1 → va_S (gA base) H0 H1 locs → W p l e R s m args below meth c H1 locs (cells + 1) (slots + N') Q (F0 m (pc + 3) ls (.ref (gZ g) :: rest))) : W p l e R s m args below meth c H locs cells slots Q (F0 m pc ls (.int n :: rest)) := by
  subst hN
  have hgz := hP.1
  refine W.anewA hexec hb hown hclink (gAOA.use hover) rfl hdg rfl hn hbytes hcells hslots fun cA kA comp f1 f2 f3 f4 => ?_
  generalize hH1 : H.push ({ cls := cA, slots := Array.replicate n.toNatClampNeg .null, vm := .none } : Cell) = H1
  have z1 : H1.size = H.size + 1 := by rw [← hH1, Array.size_push]
  have e1 : H1[H.size]? = some (arrV cA n.toNatClampNeg (fun _ => .null)) := by rw [← hH1, Array.getElem?_push_size, ← arrV_new]
  have o1 : ∀ q : Nat, q < H.size → H1[q]? = H[q]? := fun q hq => by rw [← hH1, Array.getElem?_push, if_neg (Nat.ne_of_lt hq)]
  have hAr : ArrOfT s cA (.array .int) := fun N z => ⟨(fun k h => by cases h), kA, f2, comp, f3⟩
  rw [← hgz]
  refine kk H1 (hP.push (Nat.le_trans hbz hS.1) z1 o1 ⟨fun h0 h1 => ?_, fun h1 => ?_⟩) (gS_push hS (by omega) o1)
  · rw [gS_gN hgz] at h1
    exact absurd h1 (by simp)
  · rw [gS_gN hgz, gI_gN hgz, gR_gN hgz, gJ_gN hgz]
    exact ⟨cA, hAr, f1, e1⟩
end GROWS
end
section
/-! THE SURROUNDINGS: what holds at every method's entry, heap apart; calls -/
def gTexts : List (Nat × String) := [(41, "there are 14 houses"), (60, "no lane can be like this"), (69, "there are 24 lanes, or there is a bee"), (80, "no such lane"), (83, "no gate can be open like this"), (104, "there are 6 bees"), (130, "the bee is at no house of this route"), (142, "the letter is there already"), (147, "there are 20 letters"), (168, "the bee can not take this letter now"), (187, "quarters are 1 to 240"), (206, "quarters are 1 to 120"), (233, "no such house"), (235, "no such bee"), (237, "no such letter"), (239, "nothing is told by this number"), (245, "no such route")]
def gEI : String := "java/lang/IndexOutOfBoundsException"
def gEA : String := "java/lang/IllegalArgumentException"
def gES : String := "java/lang/IllegalStateException"
def gEx (k : Nat) : String := if k = 1 then gEI else if k = 2 then gEA else gES
def gCasts : List (String × String) := [(gEI, gEI), (gEA, gEA), (gES, gES), ("[I", "java/lang/Cloneable")]
def gNots : List (String × String) := [(gEI, gEA), (gEI, gES), (gEA, gEI), (gEA, gES), (gES, gEI), (gES, gEA)]
def gDecls : List MethodName := [Bundle.initS "java/lang/RuntimeException", Bundle.initS "java/lang/Exception", Bundle.initS Bundle.tN]
def gNests : List (String × Nat × MethodName) := [(RX1, 30, yX3_init), (RX5, 21, yX2_init)]
def gE (base : Nat) (D : va_G) (U : State) (H : Heap) : Prop :=
  va_K D vwCl [] U ∧ vx_Zq Bundle.tN "UNASSIGNED_STACK" Bundle.steD (gA base) U H ∧ vx_Zq Bundle.tN "SUPPRESSED_SENTINEL" Bundle.listD (gA base) U H ∧
  (∀ q ∈ gTexts, ∃ sa, vk_R "CourierBees" q.1 q.2 sa U) ∧ va_AO "CourierBees$Bee" U ∧ va_AO "CourierBees$Lane" U ∧ va_AO "CourierBees$Letter" U ∧ gAOA .int U ∧
  (∀ q ∈ gCasts, va_Nw (.castable q.1 q.2) U) ∧ (∀ q ∈ gNots, va_Nc q.1 q.2 U) ∧ (∀ q ∈ gDecls, va_Nw (.declares q) U) ∧ (∀ q ∈ gNests, va_Nw (.methodLinkNest q.1 q.2.1 q.2.2 "CourierBees") U) ∧ base ≤ H.size
theorem gE.to {base : Nat} {D : va_G} {s U : State} {H0 H : Heap} (h : gE base D s H0) (hW : s.WarmedH U.vm) (hz : H0.size ≤ H.size) (hk : ∀ q : Nat, q < H0.size → ¬ gA base q → H[q]? = H0[q]?) : gE base D U H := by
  obtain ⟨h1, h2, h3, h4, h5, h6, h7, h8, h9, h10, h12, h13, h11⟩ := h
  refine ⟨h1.moved hW.alike, (vx_Zq.moved hW.alike h2).kept hk, (vx_Zq.moved hW.alike h3).kept hk, fun q hq => ?_, h5.moved hW.alike, h6.moved hW.alike, h7.moved hW.alike, h8.moved hW.alike, fun q hq => va_Nw.warmC hW (h9 q hq), fun q hq => va_Nc.moved hW.alike (h10 q hq), fun q hq => va_Nw.warmD hW (h12 q hq), fun q hq => va_Nw.warmM hW (h13 q hq), Nat.le_trans h11 hz⟩
  obtain ⟨sa, hs⟩ := h4 q hq
  exact ⟨sa, vk_R.warm hW hs⟩
theorem gE.same {base : Nat} {D : va_G} {s U : State} {H : Heap} (h : gE base D s H) (hv : U.vm = s.vm) : gE base D U H :=
  h.to (by rw [hv]; exact State.WarmedH.refl s) (Nat.le_refl _) (fun _ _ _ => rfl)
/-- a method's start, over the pure heap g -/
def gC (base : Nat) (D : va_G) (g : g_H) : State → Prop := fun U => gE base D U U.heap ∧ gP base D U g U.heap
theorem gC.blind {base : Nat} {D : va_G} {g : g_H} (av : List Value) : FrameBlind (va_Pc av (gC base D g)) := fun a U fr mk q => ⟨q.1, ⟨gE.same q.2.1 rfl, gP.moved (u := U) (U := U.calling fr mk a) (Vm.Alike.refl U.vm) q.2.2⟩⟩
/-- a method's end -/
abbrev gB (base : Nat) (D : va_G) (g1 : g_H) (t : State) : Prop := gP base D t g1 t.heap
abbrev gQi (base : Nat) (D : va_G) (r : Int32) (g1 : g_H) : Array Value → State → Outcome → State → Prop := va_Qi (fun (r' : Int32) (g' : g_H) => r' = r ∧ g' = g1) (gB base D) (gA base)
abbrev gQl (base : Nat) (D : va_G) (r : Int64) (g1 : g_H) : Array Value → State → Outcome → State → Prop := va_Ql (fun (r' : Int64) (g' : g_H) => r' = r ∧ g' = g1) (gB base D) (gA base)
abbrev gQd (base : Nat) (D : va_G) (r : UInt64) (g1 : g_H) : Array Value → State → Outcome → State → Prop := va_Qd (fun (r' : UInt64) (g' : g_H) => r' = r ∧ g' = g1) (gB base D) (gA base)
abbrev gQv (base : Nat) (D : va_G) (g1 : g_H) : Array Value → State → Outcome → State → Prop := va_Qv (fun (g' : g_H) => g' = g1) (gB base D) (gA base)
abbrev gQr (base : Nat) (D : va_G) (r : Nat) (g1 : g_H) : Array Value → State → Outcome → State → Prop := va_Qr (fun (g' : Nat × g_H) => g' = (r, g1)) (fun (u : Nat × g_H) (a : Nat) (t : State) => a = u.1 ∧ gB base D u.2 t) (gA base)
/-- one that throws: o = (0, r): the answer r; o = (k, _): thrown -/
abbrev gXi (base : Nat) (D : va_G) (o : Nat × Int32) (g1 : g_H) : Array Value → State → Outcome → State → Prop := va_Qi (fun (r' : Int32) (g' : g_H) => o = (0, r') ∧ g' = g1) (gB base D) (gA base)
abbrev gXv (base : Nat) (D : va_G) (o : Nat × Int32) (g1 : g_H) : Array Value → State → Outcome → State → Prop := va_Qv (fun (g' : g_H) => o.1 = 0 ∧ g' = g1) (gB base D) (gA base)
abbrev gX (base : Nat) (D : va_G) (o : Nat × Int32) (g1 : g_H) : String → State → State → Prop := vx_X (fun (z : Nat) => o.1 ≠ 0 ∧ o.1 ≤ 3) (fun E z t => E = gEx o.1 ∧ gB base D (gZset g1 z) t) (gA base)
section GCALL
variable {p : Program} {l : Launch} {e : Env} {R : Room} {s : State} {m : MethodId} {args : Array Value} {below : List Frame} {meth : Method} {c : Code} {H : Heap} {locs : List Loc} {cells slots : Nat} {Q : State → Prop}
variable {cc bytes : ByteArray} {pc : Nat} {ls : Array Slot} {st0 rest As : List Value} {D : va_G} {base : Nat} {g g1 : g_H} {a b : Nat} {Ts ws : List Cond} {own C : String} {index maxL nL n mc ms : Nat} {y : MethodName} {ret : Option FieldType} {rm : Room} {Qc : Array Value → State → Outcome → State → Prop} {XC : String → State → State → Prop}
theorem gC.pre (hE : gE base D s s.heap) (hP : gP base D s g H) (hS : va_S (gA base) s.heap H locs) (av : List Value) : ∀ U : State, U.heap = H → s.WarmedH U.vm → va_Pc av (gC base D g) av.toArray U :=
  fun U hU hW => ⟨rfl, by rw [hU]; exact hE.to hW hS.1 hS.2.1, by rw [hU]; exact hP.moved hW.alike⟩
theorem gC.preV {T : u_T} {N : Nat} (hE : gE base D s s.heap) (hP : gP base D s g H) (hS : va_S (gA base) s.heap H locs) (ci : Nat) (hc : vwCl[ci]? = some (C, T, N)) (hci : ci < 10) (hk0 : (gS g b).1 = ci + 1) (As : List Value) : PreV s H C b (va_Pc (.ref b :: As) (gC base D g)) As :=
  ⟨gC.blind _, hP.recv hE.1 hc hci hk0, gC.pre hE hP hS _⟩
theorem gC.preS (hE : gE base D s s.heap) (hP : gP base D s g H) (hS : va_S (gA base) s.heap H locs) (As : List Value) : PreS s H (va_Pc As (gC base D g)) As := ⟨gC.blind _, gC.pre hE hP hS _⟩
theorem g_calli {r : Int32} {av : Array Value} (hr : va_Run p l e R s m args below meth c H locs cells slots mc ms (F0 m pc ls st0) rest (gQi base D r g1 av) (gA base)) (hS : va_S (gA base) s.heap H locs)
    (kk : ∀ (H1 : Heap) (locs1 : List Loc), gP base D s g1 H1 → va_S (gA base) s.heap H1 locs1 → W p l e R s m args below meth c H1 locs1 (cells + mc) (slots + ms) Q (F0 m (pc + 3) ls (.int r :: rest))) : W p l e R s m args below meth c H locs cells slots Q (F0 m pc ls st0) :=
  va_calli hr hS (fun _ _ h => h) (fun _ h => h) (fun r' u t H1 locs1 ht hvm hw hB _ _ hS1 => by
    obtain ⟨rfl, rfl⟩ := hw
    exact kk H1 locs1 (ht ▸ gP.moved hvm.symm hB) hS1)
theorem g_calll {r : Int64} {av : Array Value} (hr : va_Run p l e R s m args below meth c H locs cells slots mc ms (F0 m pc ls st0) rest (gQl base D r g1 av) (gA base)) (hS : va_S (gA base) s.heap H locs)
    (kk : ∀ (H1 : Heap) (locs1 : List Loc), gP base D s g1 H1 → va_S (gA base) s.heap H1 locs1 → W p l e R s m args below meth c H1 locs1 (cells + mc) (slots + ms) Q (F0 m (pc + 3) ls (.long r :: rest))) : W p l e R s m args below meth c H locs cells slots Q (F0 m pc ls st0) :=
  va_calll hr hS (fun _ _ h => h) (fun _ h => h) (fun r' u t H1 locs1 ht hvm hw hB _ _ hS1 => by
    obtain ⟨rfl, rfl⟩ := hw
    exact kk H1 locs1 (ht ▸ gP.moved hvm.symm hB) hS1)
theorem g_calld {r : UInt64} {av : Array Value} (hr : va_Run p l e R s m args below meth c H locs cells slots mc ms (F0 m pc ls st0) rest (gQd base D r g1 av) (gA base)) (hS : va_S (gA base) s.heap H locs)
    (kk : ∀ (H1 : Heap) (locs1 : List Loc), gP base D s g1 H1 → va_S (gA base) s.heap H1 locs1 → W p l e R s m args below meth c H1 locs1 (cells + mc) (slots + ms) Q (F0 m (pc + 3) ls (.double r :: rest))) : W p l e R s m args below meth c H locs cells slots Q (F0 m pc ls st0) :=
  va_calld hr hS (fun _ _ h => h) (fun _ h => h) (fun r' u t H1 locs1 ht hvm hw hB _ _ hS1 => by
    obtain ⟨rfl, rfl⟩ := hw
    exact kk H1 locs1 (ht ▸ gP.moved hvm.symm hB) hS1)
theorem g_callv {av : Array Value} (hr : va_Run p l e R s m args below meth c H locs cells slots mc ms (F0 m pc ls st0) rest (gQv base D g1 av) (gA base)) (hS : va_S (gA base) s.heap H locs)
    (kk : ∀ (H1 : Heap) (locs1 : List Loc), gP base D s g1 H1 → va_S (gA base) s.heap H1 locs1 → W p l e R s m args below meth c H1 locs1 (cells + mc) (slots + ms) Q (F0 m (pc + 3) ls rest)) : W p l e R s m args below meth c H locs cells slots Q (F0 m pc ls st0) :=
  va_callv hr hS (fun _ _ h => h) (fun _ h => h) (fun u t H1 locs1 ht hvm hw hB _ _ hS1 => by
    subst hw
    exact kk H1 locs1 (ht ▸ gP.moved hvm.symm hB) hS1)
theorem g_callr {r : Nat} {av : Array Value} (hr : va_Run p l e R s m args below meth c H locs cells slots mc ms (F0 m pc ls st0) rest (gQr base D r g1 av) (gA base)) (hS : va_S (gA base) s.heap H locs)
    (kk : ∀ (H1 : Heap) (locs1 : List Loc), gP base D s g1 H1 → va_S (gA base) s.heap H1 locs1 → W p l e R s m args below meth c H1 locs1 (cells + mc) (slots + ms) Q (F0 m (pc + 3) ls (.ref r :: rest))) : W p l e R s m args below meth c H locs cells slots Q (F0 m pc ls st0) :=
  va_callr hr hS (fun _ _ h => h) (fun _ h => h) (fun u ra t H1 locs1 ht hvm hw hB _ _ hS1 => by
    subst hw
    obtain ⟨rfl, hB⟩ := hB
    exact kk H1 locs1 (ht ▸ gP.moved hvm.symm hB) hS1)
/-- a call that may throw, in a method that doesn't catch it and throws it on -/
theorem g_xcalli {o : Nat × Int32} {av : Array Value} {o2 : Nat × Int32} {g2 : g_H} {Qa : Array Value → State → Outcome → State → Prop} {mc0 ms0 : Nat} (hr : vx_Run p l e R s m args below meth c H locs cells slots mc ms (F0 m pc ls st0) rest (gXi base D o g1 av) (gX base D o g1) (gA base)) (hS : va_S (gA base) s.heap H locs) (ht : ∀ x ∈ c.exceptionTable.toList, False) (hlocks : meth.locks = false)
    (hx : o.1 ≠ 0 → o2.1 = o.1 ∧ g2 = g1) (hc : cells + mc ≤ mc0) (hs : slots + ms ≤ ms0)
    (kk : ∀ (r : Int32) (H1 : Heap) (locs1 : List Loc), o = (0, r) → gP base D s g1 H1 → va_S (gA base) s.heap H1 locs1 → W p l e R s m args below meth c H1 locs1 (cells + mc) (slots + ms) (vx_MQ below Qa (gX base D o2 g2) args s mc0 ms0 (gA base)) (F0 m (pc + 3) ls (.int r :: rest))) : W p l e R s m args below meth c H locs cells slots (vx_MQ below Qa (gX base D o2 g2) args s mc0 ms0 (gA base)) (F0 m pc ls st0) := by
  refine vx_calli hr hS (fun _ _ h => h) (fun _ h => h) (fun _ _ h => h) (fun E ce q9 u t H1 locs1 ht1 hvm hw hB hz hk hS1 hce hcv hcl => ?_) (fun r' u t H1 locs1 ht1 hvm hw hB _ _ hS1 => ?_)
  · obtain ⟨hE, hB⟩ := hB
    obtain ⟨e1, e2⟩ := hx hw.1
    refine vx_out (fun x h => (ht x h).elim) hlocks hce hcv hcl (fun t2 h2 hA2 => ⟨u, by rw [e1]; exact hw, ⟨by rw [hE, e1], ?_⟩, hS1.F h2⟩) hS1.2.2 hc hs
    rw [e2, gB, h2, ← ht1]
    exact gP.moved (hvm.symm.trans hA2) hB
  · obtain ⟨h1, rfl⟩ := hw
    exact kk r' H1 locs1 h1 (ht1 ▸ gP.moved hvm.symm hB) hS1
theorem g_xcallv {o : Nat × Int32} {av : Array Value} {o2 : Nat × Int32} {g2 : g_H} {Qa : Array Value → State → Outcome → State → Prop} {mc0 ms0 : Nat} (hr : vx_Run p l e R s m args below meth c H locs cells slots mc ms (F0 m pc ls st0) rest (gXv base D o g1 av) (gX base D o g1) (gA base)) (hS : va_S (gA base) s.heap H locs) (ht : ∀ x ∈ c.exceptionTable.toList, False) (hlocks : meth.locks = false)
    (hx : o.1 ≠ 0 → o2.1 = o.1 ∧ g2 = g1) (hc : cells + mc ≤ mc0) (hs : slots + ms ≤ ms0)
    (kk : ∀ (H1 : Heap) (locs1 : List Loc), o.1 = 0 → gP base D s g1 H1 → va_S (gA base) s.heap H1 locs1 → W p l e R s m args below meth c H1 locs1 (cells + mc) (slots + ms) (vx_MQ below Qa (gX base D o2 g2) args s mc0 ms0 (gA base)) (F0 m (pc + 3) ls rest)) : W p l e R s m args below meth c H locs cells slots (vx_MQ below Qa (gX base D o2 g2) args s mc0 ms0 (gA base)) (F0 m pc ls st0) := by
  refine vx_callv hr hS (fun _ _ h => h) (fun _ h => h) (fun _ _ h => h) (fun E ce q9 u t H1 locs1 ht1 hvm hw hB hz hk hS1 hce hcv hcl => ?_) (fun u t H1 locs1 ht1 hvm hw hB _ _ hS1 => ?_)
  · obtain ⟨hE, hB⟩ := hB
    obtain ⟨e1, e2⟩ := hx hw.1
    refine vx_out (fun x h => (ht x h).elim) hlocks hce hcv hcl (fun t2 h2 hA2 => ⟨u, by rw [e1]; exact hw, ⟨by rw [hE, e1], ?_⟩, hS1.F h2⟩) hS1.2.2 hc hs
    rw [e2, gB, h2, ← ht1]
    exact gP.moved (hvm.symm.trans hA2) hB
  · obtain ⟨h1, rfl⟩ := hw
    exact kk H1 locs1 h1 (ht1 ▸ gP.moved hvm.symm hB) hS1
/-- ends -/
theorem g_iret {r : Int32} (hexec : p.tables.exec = Jvm.exec) (hb : c.code = cc) (hr : meth.sig.returnType = some .int) (hlocks : meth.locks = false) (hP : gP base D s g1 H) (hS : va_S (gA base) s.heap H locs) (hc : cells ≤ mc) (hs : slots ≤ ms) (hdg : decode cc pc = .ok (.ireturn, 1)) : W p l e R s m args below meth c H locs cells slots (MQ below (gQi base D r g1) args s mc ms (gA base)) (F0 m pc ls [.int r]) :=
  W.widen hc hs (W.iret hexec hb hr (fun t ht hW => ⟨⟨r, g1, rfl, ⟨rfl, rfl⟩, by rw [gB, ht]; exact hP.moved hW.alike⟩, hS.F ht⟩) hS.2.2 hdg)
theorem g_zret {r : Int32} (hexec : p.tables.exec = Jvm.exec) (hb : c.code = cc) (hr : meth.sig.returnType = some .boolean) (hz : r = 0 ∨ r = 1) (hlocks : meth.locks = false) (hP : gP base D s g1 H) (hS : va_S (gA base) s.heap H locs) (hc : cells ≤ mc) (hs : slots ≤ ms) (hdg : decode cc pc = .ok (.ireturn, 1)) : W p l e R s m args below meth c H locs cells slots (MQ below (gQi base D r g1) args s mc ms (gA base)) (F0 m pc ls [.int r]) :=
  W.widen hc hs (W.zret hexec hb hr (by rcases hz with h | h <;> subst h <;> rfl) (fun t ht hW => ⟨⟨r, g1, rfl, ⟨rfl, rfl⟩, by rw [gB, ht]; exact hP.moved hW.alike⟩, hS.F ht⟩) hS.2.2 hdg)
theorem g_lret {r : Int64} (hexec : p.tables.exec = Jvm.exec) (hb : c.code = cc) (hr : meth.sig.returnType = some .long) (hlocks : meth.locks = false) (hP : gP base D s g1 H) (hS : va_S (gA base) s.heap H locs) (hc : cells ≤ mc) (hs : slots ≤ ms) (hdg : decode cc pc = .ok (.lreturn, 1)) : W p l e R s m args below meth c H locs cells slots (MQ below (gQl base D r g1) args s mc ms (gA base)) (F0 m pc ls [.long r]) :=
  W.widen hc hs (W.lret hexec hb hr (fun t ht hW => ⟨⟨r, g1, rfl, ⟨rfl, rfl⟩, by rw [gB, ht]; exact hP.moved hW.alike⟩, hS.F ht⟩) hS.2.2 hdg)
theorem g_vret (hexec : p.tables.exec = Jvm.exec) (hb : c.code = cc) (hr : meth.sig.returnType = none) (hlocks : meth.locks = false) (hP : gP base D s g1 H) (hS : va_S (gA base) s.heap H locs) (hc : cells ≤ mc) (hs : slots ≤ ms) (hdg : decode cc pc = .ok (.return_, 1)) : W p l e R s m args below meth c H locs cells slots (MQ below (gQv base D g1) args s mc ms (gA base)) (F0 m pc ls []) :=
  W.widen hc hs (W.vret hexec hb hr (fun t ht hW => ⟨⟨g1, rfl, rfl, by rw [gB, ht]; exact hP.moved hW.alike⟩, hS.F ht⟩) hS.2.2 hdg)
theorem g_aret {r : Nat} {rt : FieldType} (hexec : p.tables.exec = Jvm.exec) (hb : c.code = cc) (hr : meth.sig.returnType = some rt) (hrt : (∃ n, rt = .object n) ∨ ∃ t, rt = .array t) (hlocks : meth.locks = false) (hP : gP base D s g1 H) (hS : va_S (gA base) s.heap H locs) (hc : cells ≤ mc) (hs : slots ≤ ms) (hdg : decode cc pc = .ok (.areturn, 1)) : W p l e R s m args below meth c H locs cells slots (MQ below (gQr base D r g1) args s mc ms (gA base)) (F0 m pc ls [.ref r]) :=
  W.widen hc hs (W.aret hexec hb hr hrt (Or.inr ⟨r, rfl⟩) (fun t ht hW => ⟨⟨(r, g1), r, rfl, rfl, rfl, by rw [gB, ht]; exact hP.moved hW.alike⟩, hS.F ht⟩) hS.2.2 hdg)
theorem g_xiret {r : Int32} {o : Nat × Int32} (ho : o = (0, r)) (hexec : p.tables.exec = Jvm.exec) (hb : c.code = cc) (hr : meth.sig.returnType = some .int) (hlocks : meth.locks = false) (hP : gP base D s g1 H) (hS : va_S (gA base) s.heap H locs) (hc : cells ≤ mc) (hs : slots ≤ ms) (hdg : decode cc pc = .ok (.ireturn, 1)) : W p l e R s m args below meth c H locs cells slots (vx_MQ below (gXi base D o g1) XC args s mc ms (gA base)) (F0 m pc ls [.int r]) :=
  vx_ret (W.widen hc hs (W.iret hexec hb hr (fun t ht hW => ⟨⟨r, g1, rfl, ⟨ho, rfl⟩, by rw [gB, ht]; exact hP.moved hW.alike⟩, hS.F ht⟩) hS.2.2 hdg))
theorem g_xzret {r : Int32} {o : Nat × Int32} (ho : o = (0, r)) (hexec : p.tables.exec = Jvm.exec) (hb : c.code = cc) (hr : meth.sig.returnType = some .boolean) (hz : r = 0 ∨ r = 1) (hlocks : meth.locks = false) (hP : gP base D s g1 H) (hS : va_S (gA base) s.heap H locs) (hc : cells ≤ mc) (hs : slots ≤ ms) (hdg : decode cc pc = .ok (.ireturn, 1)) : W p l e R s m args below meth c H locs cells slots (vx_MQ below (gXi base D o g1) XC args s mc ms (gA base)) (F0 m pc ls [.int r]) :=
  vx_ret (W.widen hc hs (W.zret hexec hb hr (by rcases hz with h | h <;> subst h <;> rfl) (fun t ht hW => ⟨⟨r, g1, rfl, ⟨ho, rfl⟩, by rw [gB, ht]; exact hP.moved hW.alike⟩, hS.F ht⟩) hS.2.2 hdg))
theorem g_xvret {o : Nat × Int32} (ho : o.1 = 0) (hexec : p.tables.exec = Jvm.exec) (hb : c.code = cc) (hr : meth.sig.returnType = none) (hlocks : meth.locks = false) (hP : gP base D s g1 H) (hS : va_S (gA base) s.heap H locs) (hc : cells ≤ mc) (hs : slots ≤ ms) (hdg : decode cc pc = .ok (.return_, 1)) : W p l e R s m args below meth c H locs cells slots (vx_MQ below (gXv base D o g1) XC args s mc ms (gA base)) (F0 m pc ls []) :=
  vx_ret (W.widen hc hs (W.vret hexec hb hr (fun t ht hW => ⟨⟨g1, rfl, ⟨ho, rfl⟩, by rw [gB, ht]; exact hP.moved hW.alike⟩, hS.F ht⟩) hS.2.2 hdg))
end GCALL
end
section
/-! bodies, copies, throws -/
def gL {α : Type} (body : α → α) (bot : α) : Nat → α
  | 0 => bot
  | n + 1 => body (gL body bot n)
theorem g_pr {g : g_H} {a k : Nat} (h : (gS g a).1 = k) : gS g a = (k, (gS g a).2) := by rw [← h]
theorem g_thr {o o2 : Nat × Int32} {g1 g2 : g_H} {i : Decidable (o.1 = 0)} {X : Option ((Nat × Int32) × g_H)} (h0 : o.1 ≠ 0) (h : (@ite _ (o.1 = 0) i X (some ((o.1, 0), g1))) = some (o2, g2)) : o2.1 = o.1 ∧ g2 = g1 := by
  rw [if_neg h0] at h
  cases h
  exact ⟨rfl, rfl⟩
theorem g_nn (z : Int32) (hz : ¬ z < 0) : z.toInt = (z.toNatClampNeg : Int) := by
  have hz0 : (0 : Int) ≤ z.toInt := by
    have := Int32.not_lt.mp hz
    simpa using Int32.le_iff_toInt_le.mp this
  show z.toInt = ((z.toInt.toNat : Nat) : Int)
  omega
theorem g_out (x : Int32) (n : Nat) (hn : n < 100) (h : ∀ k : Nat, k ≤ n → ¬ x = nI k) : x.toInt < 0 ∨ (n : Int) < x.toInt := by
  by_cases h0 : x.toInt < 0
  · exact Or.inl h0
  · by_cases h1 : (n : Int) < x.toInt
    · exact Or.inr h1
    · refine absurd ?_ (h x.toInt.toNat (by omega))
      refine Int32.toInt_inj.mp ?_
      rw [nI_toInt (by omega)]
      omega
theorem g_met {l : Launch} {y : MethodName} {ws ws' : List Cond} {rm : Room} {av : List Value} {Qc : Array Value → State → Outcome → State → Prop} {mc ms : Nat} {free : Addr → Prop} {cc : ByteArray} {maxL : Nat} {ret : Option FieldType} {base : Nat} {D : va_G} {g : g_H} {lst : List (Nat × Value)}
    (hy : plainName y.cls = true) (hw : ws = Cond.code y cc maxL ret :: ws') (hn : (lg_sl av).length ≤ maxL) (hlst : lv_args 0 av = lst)
    (body : ∀ (p : Program) (e : Env) (s : State) (m : MethodId) (args : Array Value) (below : List Frame) (meth : Method) (c : Code) (ls : Array Slot), p.tables.exec = Jvm.exec → c.code = cc → meth.sig.returnType = ret → c.maxLocals = maxL → s.vm.findClass y.cls = some m.cls → meth.locks = false → meth.name = y.name → (∀ w ∈ ws, w.before args s = true) → gE base D s s.heap → gP base D s g s.heap → lv_has ls maxL lst →
      W p l e rm s m args below meth c s.heap [] 0 0 (MQ below Qc args s mc ms free) (F0 m 0 ls [])) : Met l y ws rm (va_Pc av (gC base D g)) Qc mc ms free := by
  refine Met.ofW (cc := cc) (maxL := maxL) (ret := ret) hy hw ?_
  intro p e s m args below meth c s₁ B hml hv
  obtain ⟨rfl, hE, hP⟩ := hv
  have hl := lv_entry av hn
  rw [hlst] at hl
  rw [lg_entry_eq]
  exact body p e s m _ below meth c _ B.exec B.bytes B.returns hml (findClass_of_methodNamed B.named) B.notSynchronized (name_of_methodNamed B.named B.method).1 (atoms_spec (ws := ws) B.pre) hE hP hl
theorem g_xmet {l : Launch} {y : MethodName} {ws ws' : List Cond} {rm : Room} {av : List Value} {Qc : Array Value → State → Outcome → State → Prop} {XC : String → State → State → Prop} {mc ms : Nat} {free : Addr → Prop} {cc : ByteArray} {maxL : Nat} {ret : Option FieldType} {base : Nat} {D : va_G} {g : g_H} {lst : List (Nat × Value)}
    (hy : plainName y.cls = true) (hw : ws = Cond.code y cc maxL ret :: ws') (hn : (lg_sl av).length ≤ maxL) (hlst : lv_args 0 av = lst)
    (body : ∀ (p : Program) (e : Env) (s : State) (m : MethodId) (args : Array Value) (below : List Frame) (meth : Method) (c : Code) (ls : Array Slot), p.tables.exec = Jvm.exec → c.code = cc → meth.sig.returnType = ret → c.maxLocals = maxL → s.vm.findClass y.cls = some m.cls → meth.locks = false → meth.name = y.name → (∀ w ∈ ws, w.before args s = true) → gE base D s s.heap → gP base D s g s.heap → lv_has ls maxL lst → (∀ x ∈ c.exceptionTable.toList, False) →
      W p l e rm s m args below meth c s.heap [] 0 0 (vx_MQ below Qc XC args s mc ms free) (F0 m 0 ls [])) : vx_Met l y ws rm (va_Pc av (gC base D g)) Qc XC mc ms free := by
  refine vx_ofW (cc := cc) (maxL := maxL) (ret := ret) hy hw ?_
  intro p e s m args below meth c s₁ B hml ht hv
  obtain ⟨rfl, hE, hP⟩ := hv
  have hl := lv_entry av hn
  rw [hlst] at hl
  rw [lg_entry_eq]
  exact body p e s m _ below meth c _ B.exec B.bytes B.returns hml (findClass_of_methodNamed B.named) B.notSynchronized (name_of_methodNamed B.named B.method).1 (atoms_spec (ws := ws) B.pre) hE hP hl ht
def gBad (cls : String) : List Cond := Cond.castable cls cls :: gDecls.map Cond.declares
section GCOPY
variable {p : Program} {l : Launch} {e : Env} {R : Room} {s : State} {m : MethodId} {args : Array Value} {below : List Frame} {meth : Method} {c : Code} {H : Heap} {locs : List Loc} {cells slots : Nat} {Q : State → Prop}
variable {cc : ByteArray} {pc : Nat} {ls : Array Slot} {rest : List Value} {D : va_G} {base : Nat} {g g1 : g_H} {a a0 : Nat} {H0 : Heap}
theorem g_copy (hexec : p.tables.exec = Jvm.exec) (hb : c.code = cc) (hml : c.maxLocals = ls.size) {own : String} {index : Nat} (hown : s.vm.findClass own = some m.cls) (hlink : (Cond.methodLink own index arraycopyName).before args s = true) (hnat : (Cond.native arraycopyName).before args s = true) (hstat : (Cond.static arraycopyName).before args s = true) (hini : (Cond.initialized "java/lang/System").before args s = true)
    (hP : gP base D s g H) (hS : va_S (gA base) H0 H locs) {n0 n1 : Nat} (hk0 : gS g a0 = (11, n0)) (hk1 : gS g a = (11, n1))
    {sp dp n : Int32} (h1 : ¬ sp < 0) (h2 : ¬ dp < 0) (h3 : ¬ n < 0) (h4 : sp.toNatClampNeg + n.toNatClampNeg ≤ n0) (h5 : dp.toNatClampNeg + n.toNatClampNeg ≤ n1)
    (hframes : 1 ≤ R.frames) (hlocals : (rest.map fun v => v.category).sum + (nativeFrameWords "java/lang/System" "arraycopy" 5 + 11) ≤ R.locals) (hdg : decode cc pc = .ok (.invokestatic index, 3))
    (kk : ∀ (H1 : Heap) (locs1 : List Loc), gP base D s (gPW g a (va_cpy (gI g a0) (gI g a) sp.toNatClampNeg dp.toNatClampNeg n.toNatClampNeg)) H1 → va_S (gA base) H0 H1 locs1 → W p l e R s m args below meth c H1 locs1 cells slots Q (F0 m (pc + 3) ls rest)) : W p l e R s m args below meth c H locs cells slots Q (F0 m pc ls (.int n :: .int dp :: .ref a :: .int sp :: .ref a0 :: rest)) := by
  intro T hT X
  obtain ⟨c0, x1, x2, hc0⟩ := hP.ar hk0 (by omega)
  obtain ⟨c1, y1, y2, hc1⟩ := hP.ar hk1 (by omega)
  have hbase : base ≤ a := (hP.2 a).2 (by rw [hk1]; simp)
  obtain ⟨-, k0, hk0', cm0, hkk0⟩ := x1 n0 (fun j => .int (gI g a0 j))
  obtain ⟨-, k1, hk1', cm1, hkk1⟩ := y1 n1 (fun j => .int (gI g a j))
  obtain ⟨vm', X', step⟩ := X.arraycopy hexec hown hlink hnat hstat hini (src := a0) (dst := a) (cs := arrV c0 n0 (fun j => .int (gI g a0 j))) (cd := arrV c1 n1 (fun j => .int (gI g a j))) (srcPos := sp) (destPos := dp) (n := n) (by rw [hT]; exact hc0) (by rw [hT]; exact hc1)
    (fun _ h => by cases h) (fun _ h => by cases h) (fun h => by cases h) (fun h => by cases h) hk0' hk1' hkk0 hkk1 (by simp [show refKind (gTy 11) = false from rfl]) h1 h2 h3
    (by rw [g_nn sp h1, g_nn n h3, arrV_size]; omega)
    (by rw [g_nn dp h2, g_nn n h3, arrV_size]; omega)
    (fun vm₁ _ i hi => by
      have e : (arrV c0 n0 (fun j => .int (gI g a0 j))).slots.getD (sp.toNatClampNeg + i) .null = .int (gI g a0 (sp.toNatClampNeg + i)) := by
        rw [Array.getD_eq_getD_getElem?, arrV_read _ _ (by omega)]
        rfl
      refine ⟨?_, ?_⟩
      · rw [e]
        rfl
      · rw [e]
        exact trivial)
    (g := F0 m pc ls (.int n :: .int dp :: .ref a :: .int sp :: .ref a0 :: rest)) rfl (by rw [hml]) (rest := rest) rfl (by rw [hb]; exact hdg) hframes (by show 2 * 0 + _ + _ ≤ _; omega)
  have e1 : copied (arrV c0 n0 (fun j => .int (gI g a0 j))) (arrV c1 n1 (fun j => .int (gI g a j))) sp dp n = arrV c1 n1 (fun j => .int (va_cpy (gI g a0) (gI g a) sp.toNatClampNeg dp.toNatClampNeg n.toNatClampNeg j)) := va_copied (fun z => .int z) c0 c1 (gI g a0) (gI g a) h4
  rw [e1] at X' step
  have hl : a < H.size := (Array.getElem?_eq_some_iff.mp hc1).1
  generalize hv : va_cpy (gI g a0) (gI g a) sp.toNatClampNeg dp.toNatClampNeg n.toNatClampNeg = v at X' step kk
  have hheap : ((T.setVm vm').setCell a (arrV c1 n1 (fun j => .int (v j)))).heap = H.setIfInBounds a (arrV c1 n1 (fun j => .int (v j))) := by rw [← hT]; rfl
  have oq : ∀ q : Nat, q ≠ a → (H.setIfInBounds a (arrV c1 n1 (fun j => .int (v j))))[q]? = H[q]? := fun q hq => by simp [Array.getElem?_setIfInBounds, Ne.symm hq]
  have hat : (H.setIfInBounds a (arrV c1 n1 (fun j => .int (v j))))[a]? = some (arrV c1 n1 (fun j => .int (v j))) := by simp [Array.getElem?_setIfInBounds, hl]
  have hPn : gP base D s (gPW g a v) (H.setIfInBounds a (arrV c1 n1 (fun j => .int (v j)))) := by
    refine hP.set (g1 := gPW g a v) rfl rfl (by simp) ⟨fun h0 h1 => ?_, fun h1 => ?_⟩ (fun b hb => ⟨gW_o hb, rfl, rfl⟩) oq
    · rw [show gS (gPW g a v) a = (11, n1) from hk1] at h1
      exact absurd h1 (by simp)
    · rw [show gS (gPW g a v) a = (11, n1) from hk1]
      refine ⟨c1, y1, y2, hat.trans ?_⟩
      rw [show gI (gPW g a v) a = v from gW_s]
      rfl
  obtain ⟨t, a1, b1⟩ := kk _ (locs ++ _) hPn ⟨by simp; exact hS.1, fun q g1 g2 => by
      rw [oq q (fun e => g2 (by rw [e]; exact hbase))]
      exact hS.2.1 q g1 g2, fun q hq => by
      rcases List.mem_append.mp hq with h | h
      · exact hS.2.2 q h
      · obtain ⟨z, -, hz⟩ := List.mem_map.mp h
        rw [← hz]
        exact hbase⟩ _ hheap X'
  exact ⟨t, step t a1, b1⟩
theorem g_clone (hexec : p.tables.exec = Jvm.exec) (hb : c.code = cc) (hml : c.maxLocals = ls.size) {own : String} {index : Nat} (hown : s.vm.findClass own = some m.cls)
    (hlink : (Cond.methodLink own index ⟨"[I", "clone", "()Ljava/lang/Object;"⟩).before args s = true) (hsame : (Cond.sameMethod "[I" "java/lang/Object" "clone" "()Ljava/lang/Object;").before args s = true)
    (hnat : (Cond.native ⟨"java/lang/Object", "clone", "()Ljava/lang/Object;"⟩).before args s = true) (hinst : (Cond.instanceMethod ⟨"java/lang/Object", "clone", "()Ljava/lang/Object;"⟩).before args s = true)
    (hsel : (Cond.selects "[I" ⟨"[I", "clone", "()Ljava/lang/Object;"⟩ ⟨"java/lang/Object", "clone", "()Ljava/lang/Object;"⟩).before args s = true) (hcl : va_Nw (.castable "[I" "java/lang/Cloneable") s)
    (hP : gP base D s g H) (hS : va_S (gA base) H0 H locs) (hbz : base ≤ H0.size) {n0 : Nat} (hk0 : gS g a = (11, n0))
    (hframes : 1 ≤ R.frames) (hlocals : (rest.map fun v => v.category).sum + 14 ≤ R.locals) (N' : Nat) (hN : n0 ≤ N') (hcells : cells + 1 ≤ R.cells) (hslots : slots + N' ≤ R.slots) (hdg : decode cc pc = .ok (.invokevirtual index, 3))
    (kk : ∀ (H1 : Heap), gP base D s (gN g 11 n0 (gI g a)) H1 → va_S (gA base) H0 H1 locs →
      W p l e R s m args below meth c H1 locs (cells + 1) (slots + N') Q (F0 m (pc + 3) ls (.ref (gZ g) :: rest))) : W p l e R s m args below meth c H locs cells slots Q (F0 m pc ls (.ref a :: rest)) := by
  obtain ⟨cA, x1, x2, hc0⟩ := hP.ar hk0 (by omega)
  have hgz := hP.1
  have hnm : s.vm.findClass "[I" = some cA := by
    have e : "[" ++ FieldType.int.toString = "[I" := by decide +kernel
    rw [← e]
    exact x2
  obtain ⟨c0, t0', f1, f2, f3⟩ := Cond.castable_spec (va_Nw.use (A := args) rfl hcl)
  cases hnm.symm.trans f1
  intro T hT X
  have hcellT : T.heap[a]? = some (arrV cA n0 (fun j => .int (gI g a j))) := by rw [hT]; exact hc0
  obtain ⟨-, kA, hkA, comp, hkind⟩ := State.isArrayOf_alike X.warmed.alike (x1 0 (fun _ => .null))
  obtain ⟨-, kS, hkS, compS, hkindS⟩ := x1 0 (fun _ => .null)
  obtain ⟨vm', X', st⟩ := X.cloneArray hexec hown hlink hsame hnat hinst hsel (a := a) (cell := arrV cA n0 (fun j => .int (gI g a j))) hcellT (fun k h => by cases h) (fun h => by cases h) hnm f2 f3
    (fun i v hv => by
      have hk' : T.vm.classes[cA]? = some kA := hkA
      have hf := va_fit (cA := cA) (n := n0) (F := fun j => .int (gI g a j)) (ty := .int) (fun i _ => rfl) i v hv
      simpa [State.fitsSlot, State.slotType?, hk', hkind, arrV, gTy] using hf)
    (g := F0 m pc ls (.ref a :: rest)) rfl (by rw [hml]) rfl (by rw [hb]; exact hdg) hframes (by show 2 * 0 + _ + 14 ≤ _; omega) hcells (by rw [arrV_size]; omega) (hloader := Vm.clonesLoader_of_array hkS hkindS)
  have hcellE : ({ cls := (arrV cA n0 (fun j => .int (gI g a j))).cls, slots := (arrV cA n0 (fun j => .int (gI g a j))).slots } : Cell) = arrV cA n0 (fun j => .int (gI g a j)) := rfl
  rw [hcellE, arrV_size] at X'
  generalize hH1 : H.push (arrV cA n0 (fun j => .int (gI g a j))) = H1
  have z1 : H1.size = H.size + 1 := by rw [← hH1, Array.size_push]
  have e1 : H1[H.size]? = some (arrV cA n0 (fun j => .int (gI g a j))) := by rw [← hH1, Array.getElem?_push_size]
  have o1 : ∀ q : Nat, q < H.size → H1[q]? = H[q]? := fun q hq => by rw [← hH1, Array.getElem?_push, if_neg (Nat.ne_of_lt hq)]
  obtain ⟨t, b1, b2⟩ := kk H1 (hP.push (Nat.le_trans hbz hS.1) z1 o1 ⟨fun h0 h1 => by
      rw [gS_gN hgz] at h1
      exact absurd h1 (by simp), fun h1 => by
      rw [gS_gN hgz, gI_gN hgz, gR_gN hgz, gJ_gN hgz]
      exact ⟨cA, x1, x2, e1⟩⟩) (gS_push hS (by omega) o1)
    ((T.setVm vm').pushCell (arrV cA n0 (fun j => .int (gI g a j)))) (by rw [← hH1, ← hT]; rfl) (stand_widen X' (Nat.le_refl _) (by omega))
  refine ⟨t, st t ?_, b2⟩
  rw [hcellE, hT, ← hgz]
  exact b1
theorem g_castI (hexec : p.tables.exec = Jvm.exec) (hb : c.code = cc) {own : String} {index : Nat} (hown : s.vm.findClass own = some m.cls) (hlink : (Cond.classLink own index "[I").before args s = true) (hP : gP base D s g H) {n0 : Nat} (hk0 : gS g a = (11, n0)) (hdg : decode cc pc = .ok (.checkcast index, 3))
    (k : W p l e R s m args below meth c H locs cells slots Q (F0 m (pc + 3) ls (.ref a :: rest))) : W p l e R s m args below meth c H locs cells slots Q (F0 m pc ls (.ref a :: rest)) := by
  obtain ⟨cA, x1, x2, hc0⟩ := hP.ar hk0 (by omega)
  have hnm : s.vm.findClass "[I" = some cA := by
    have e : "[" ++ FieldType.int.toString = "[I" := by decide +kernel
    rw [← e]
    exact x2
  intro T hT X
  obtain ⟨vm', X', st⟩ := X.checkcastYes hexec hown hlink (by rw [hT]; exact hc0) rfl hnm (va_asg _ _) (g := F0 m pc ls (.ref a :: rest)) rfl rfl (by rw [hb]; exact hdg)
  obtain ⟨t, a1, b1⟩ := k (T.setVm vm') hT X'
  exact ⟨t, st t a1, b1⟩
abbrev gSup : List String := ["java/lang/RuntimeException", "java/lang/Exception"]
/-- throw new X(text), in the system's own methods -/
theorem g_throw (hexec : p.tables.exec = Jvm.exec) (hb : c.code = cc) (hl : l.stackTraces = false) {cls : String} {ik is ic mc ms : Nat} {o : Nat × Int32} {Qa : Array Value → State → Outcome → State → Prop} {ws : List Cond} {text : String}
    (hown : s.vm.findClass "CourierBees" = some m.cls) (hts : ∀ w ∈ ws, w.before args s = true) (hcls : Bundle.fit cls = true)
    (hk : (Cond.classLink "CourierBees" ik cls).before args s = true) (hini : (Cond.initialized cls).before args s = true) (hsub : ∀ w ∈ (vx_atS "CourierBees" ic cls gSup).filter goodWord, w ∈ ws) (hbad : ∀ w ∈ (vx_atS "CourierBees" ic cls gSup).filter (fun w => !goodWord w), w ∈ gBad cls) (hcast : (cls, cls) ∈ gCasts)
    (hgood : ∀ w ∈ Cond.classLink "CourierBees" ik cls :: Cond.initialized cls :: vx_atS "CourierBees" ic cls gSup, vx_ot w = true) (htx : (is, text) ∈ gTexts)
    (hE : gE base D s s.heap) (hP : gP base D s g H) (hS : va_S (gA base) s.heap H locs) (hsize : ls.size = c.maxLocals)
    (d0 : decode cc pc = .ok (.new ik, 3)) (d3 : decode cc (pc + 3) = .ok (.dup, 1)) (d4 : decode cc (pc + 4) = .ok (.ldc is, 2)) (d6 : decode cc (pc + 6) = .ok (.invokespecial ic, 3)) (d9 : decode cc (pc + 9) = .ok (.athrow, 1))
    (ht : ∀ x ∈ c.exceptionTable.toList, False) (hRf : 5 < R.frames) (hRl : (rest.map fun v => v.category).sum + 82 ≤ R.locals) (hRc : cells + 1 ≤ R.cells) (hRs : slots + 6 ≤ R.slots) (hlocks : meth.locks = false)
    (ho : o.1 ≠ 0 ∧ o.1 ≤ 3) (hox : gEx o.1 = cls) (hc : cells + 1 ≤ mc) (hs : slots + 6 ≤ ms) :
    W p l e R s m args below meth c H locs cells slots (vx_MQ below Qa (gX base D o g) args s mc ms (gA base)) (F0 m pc ls rest) := by
  obtain ⟨sa, hsa⟩ := hE.2.2.2.1 _ htx
  have hcc := hE.2.2.2.2.2.2.2.2.1 _ hcast
  have hat : ∀ w ∈ vx_atS "CourierBees" ic cls gSup, w.before args s = true := vx_hat (B := gBad cls) (fun w hw => hts w (hsub w hw)) hbad (fun w hw => by
    rcases List.mem_cons.mp hw with h | h
    · rw [h]; exact va_Nw.use rfl hcc
    · obtain ⟨q, hq, rfl⟩ := List.mem_map.mp h
      exact va_Nw.use rfl (hE.2.2.2.2.2.2.2.2.2.2.1 q hq))
  exact vx_throwS hexec hb hl hown hcls (by decide +kernel) hk hini hsa hat hgood hE.2.1 hE.2.2.1 hS hsize d0 d3 d4 d6 d9 (fun x h => (ht x h).elim) hRf hRl hRc hRs hlocks
    (fun t hA hz hk2 => ⟨t.heap.size, ho, ⟨hox.symm, (hP.grow hk2).moved hA⟩, Nat.le_trans hS.1 hz, fun q h1 h2 => (hk2 q (Nat.lt_of_lt_of_le h1 hS.1)).trans (hS.2.1 q h1 h2)⟩) hS.2.2 hc hs
end GCOPY
end
section
def gNw {β : Type} (g : g_H) (kd n : Nat) (r : Nat → Int32) (k : Nat → g_H → β) : β := k (gZ g) (gN g kd n r)
theorem g_nw {β : Type} {g : g_H} {kd n : Nat} {r : Nat → Int32} {k : Nat → g_H → β} {y : β} (h : gNw g kd n r k = y) : ∃ q g1, gZ g = q ∧ gN g kd n r = g1 ∧ (gS g1 q).1 = kd ∧ k q g1 = y := ⟨gZ g, gN g kd n r, rfl, rfl, congrArg Prod.fst (gS_gN rfl), h⟩
def gLt {α β : Type} (x : α) (k : α → β) : β := k x
theorem g_let {α β : Type} {x : α} {k : α → β} {y : β} (h : gLt x k = y) : ∃ v, x = v ∧ k v = y := ⟨x, rfl, h⟩
def gB2 {α β : Type} (x : Option (α × g_H)) (k : α → g_H → Option β) : Option β := x.bind fun q => k q.1 q.2
theorem g_bind2 {α β : Type} {x : Option (α × g_H)} {k : α → g_H → Option β} {y : β} (h : gB2 x k = some y) : ∃ v g, x = some (v, g) ∧ k v g = some y := by
  unfold gB2 at h
  cases x with
  | none => cases h
  | some q => exact ⟨q.1, q.2, rfl, h⟩
theorem g_bz {x : Int32} (h : x = 0 ∨ x = 1) : narrow .boolean (.int x) = .int x ∧ fits .boolean (.int x) = true := by
  rcases h with h | h <;> subst h <;> exact ⟨rfl, rfl⟩
theorem dfX0 : ∀ j, j < 10 → defaultValue (tyX0 j) = gFv TX0 j 0 none
  | 0, _ => rfl | 1, _ => rfl | 2, _ => rfl | 3, _ => rfl | 4, _ => rfl | 5, _ => rfl | 6, _ => rfl | 7, _ => rfl | 8, _ => rfl | 9, _ => rfl
  | n + 10, h => absurd h (by omega)
theorem dfX1 : ∀ j, j < 8 → defaultValue (tyX1 j) = gFv TX1 j 0 none
  | 0, _ => rfl | 1, _ => rfl | 2, _ => rfl | 3, _ => rfl | 4, _ => rfl | 5, _ => rfl | 6, _ => rfl | 7, _ => rfl
  | n + 8, h => absurd h (by omega)
theorem dfX2 : ∀ j, j < 5 → defaultValue (tyX2 j) = gFv TX2 j 0 none
  | 0, _ => rfl | 1, _ => rfl | 2, _ => rfl | 3, _ => rfl | 4, _ => rfl
  | n + 5, h => absurd h (by omega)
theorem dfX3 : ∀ j, j < 5 → defaultValue (tyX3 j) = gFv TX3 j 0 none
  | 0, _ => rfl | 1, _ => rfl | 2, _ => rfl | 3, _ => rfl | 4, _ => rfl
  | n + 5, h => absurd h (by omega)
theorem dfX4 : ∀ j, j < 4 → defaultValue (tyX4 j) = gFv TX4 j 0 none
  | 0, _ => rfl | 1, _ => rfl | 2, _ => rfl | 3, _ => rfl
  | n + 4, h => absurd h (by omega)
theorem dfX5 : ∀ j, j < 5 → defaultValue (tyX5 j) = gFv TX5 j 0 none
  | 0, _ => rfl | 1, _ => rfl | 2, _ => rfl | 3, _ => rfl | 4, _ => rfl
  | n + 5, h => absurd h (by omega)
theorem dfX6 : ∀ j, j < 4 → defaultValue (tyX6 j) = gFv TX6 j 0 none
  | 0, _ => rfl | 1, _ => rfl | 2, _ => rfl | 3, _ => rfl
  | n + 4, h => absurd h (by omega)
theorem dfX7 : ∀ j, j < 13 → defaultValue (tyX7 j) = gFv TX7 j 0 none
  | 0, _ => rfl | 1, _ => rfl | 2, _ => rfl | 3, _ => rfl | 4, _ => rfl | 5, _ => rfl | 6, _ => rfl | 7, _ => rfl | 8, _ => rfl | 9, _ => rfl | 10, _ => rfl | 11, _ => rfl | 12, _ => rfl
  | n + 13, h => absurd h (by omega)
section GRET
variable {p : Program} {l : Launch} {e : Env} {R : Room} {s : State} {m : MethodId} {args : Array Value} {below : List Frame} {meth : Method} {c : Code} {H : Heap} {locs : List Loc} {cells slots : Nat} {Q : State → Prop}
variable {cc : ByteArray} {pc : Nat} {ls : Array Slot} {D : va_G} {base : Nat} {g gz : g_H} {mc ms : Nat} {XC : String → State → State → Prop}
theorem g_retI {x rr : Int32} (hexec : p.tables.exec = Jvm.exec) (hb : c.code = cc) (hr : meth.sig.returnType = some .int) (hlocks : meth.locks = false) (hF : some (x, g) = some (rr, gz)) (hP : gP base D s g H) (hS : va_S (gA base) s.heap H locs) (hc : cells ≤ mc) (hs : slots ≤ ms) (hdg : decode cc pc = .ok (.ireturn, 1)) : W p l e R s m args below meth c H locs cells slots (MQ below (gQi base D rr gz) args s mc ms (gA base)) (F0 m pc ls [.int x]) := by
  cases hF
  exact g_iret hexec hb hr hlocks hP hS hc hs hdg
theorem g_retZ {x rr : Int32} (hexec : p.tables.exec = Jvm.exec) (hb : c.code = cc) (hr : meth.sig.returnType = some .boolean) (hz : x = 0 ∨ x = 1) (hlocks : meth.locks = false) (hF : some (x, g) = some (rr, gz)) (hP : gP base D s g H) (hS : va_S (gA base) s.heap H locs) (hc : cells ≤ mc) (hs : slots ≤ ms) (hdg : decode cc pc = .ok (.ireturn, 1)) : W p l e R s m args below meth c H locs cells slots (MQ below (gQi base D rr gz) args s mc ms (gA base)) (F0 m pc ls [.int x]) := by
  cases hF
  exact g_zret hexec hb hr hz hlocks hP hS hc hs hdg
theorem g_retJ {x rr : Int64} (hexec : p.tables.exec = Jvm.exec) (hb : c.code = cc) (hr : meth.sig.returnType = some .long) (hlocks : meth.locks = false) (hF : some (x, g) = some (rr, gz)) (hP : gP base D s g H) (hS : va_S (gA base) s.heap H locs) (hc : cells ≤ mc) (hs : slots ≤ ms) (hdg : decode cc pc = .ok (.lreturn, 1)) : W p l e R s m args below meth c H locs cells slots (MQ below (gQl base D rr gz) args s mc ms (gA base)) (F0 m pc ls [.long x]) := by
  cases hF
  exact g_lret hexec hb hr hlocks hP hS hc hs hdg
theorem g_retD {x rr : UInt64} (hexec : p.tables.exec = Jvm.exec) (hb : c.code = cc) (hr : meth.sig.returnType = some .double) (hlocks : meth.locks = false) (hF : some (x, g) = some (rr, gz)) (hP : gP base D s g H) (hS : va_S (gA base) s.heap H locs) (hc : cells ≤ mc) (hs : slots ≤ ms) (hdg : decode cc pc = .ok (.dreturn, 1)) : W p l e R s m args below meth c H locs cells slots (MQ below (gQd base D rr gz) args s mc ms (gA base)) (F0 m pc ls [.double x]) := by
  cases hF
  exact W.widen hc hs (W.dret hexec hb hr (fun t ht hW => ⟨⟨x, g, rfl, ⟨rfl, rfl⟩, by rw [gB, ht]; exact hP.moved hW.alike⟩, hS.F ht⟩) hS.2.2 hdg)
theorem g_retV (hexec : p.tables.exec = Jvm.exec) (hb : c.code = cc) (hr : meth.sig.returnType = none) (hlocks : meth.locks = false) (hF : some g = some gz) (hP : gP base D s g H) (hS : va_S (gA base) s.heap H locs) (hc : cells ≤ mc) (hs : slots ≤ ms) (hdg : decode cc pc = .ok (.return_, 1)) : W p l e R s m args below meth c H locs cells slots (MQ below (gQv base D gz) args s mc ms (gA base)) (F0 m pc ls []) := by
  cases hF
  exact g_vret hexec hb hr hlocks hP hS hc hs hdg
theorem g_retA {x rr : Nat} {rt : FieldType} (hexec : p.tables.exec = Jvm.exec) (hb : c.code = cc) (hr : meth.sig.returnType = some rt) (hrt : (∃ n, rt = .object n) ∨ ∃ t, rt = .array t) (hlocks : meth.locks = false) (hF : some (x, g) = some (rr, gz)) (hP : gP base D s g H) (hS : va_S (gA base) s.heap H locs) (hc : cells ≤ mc) (hs : slots ≤ ms) (hdg : decode cc pc = .ok (.areturn, 1)) : W p l e R s m args below meth c H locs cells slots (MQ below (gQr base D rr gz) args s mc ms (gA base)) (F0 m pc ls [.ref x]) := by
  cases hF
  exact g_aret hexec hb hr hrt hlocks hP hS hc hs hdg
theorem g_xretI {x : Int32} {rr : Nat × Int32} (hexec : p.tables.exec = Jvm.exec) (hb : c.code = cc) (hr : meth.sig.returnType = some .int) (hlocks : meth.locks = false) (hF : some ((0, x), g) = some (rr, gz)) (hP : gP base D s g H) (hS : va_S (gA base) s.heap H locs) (hc : cells ≤ mc) (hs : slots ≤ ms) (hdg : decode cc pc = .ok (.ireturn, 1)) : W p l e R s m args below meth c H locs cells slots (vx_MQ below (gXi base D rr gz) XC args s mc ms (gA base)) (F0 m pc ls [.int x]) := by
  cases hF
  exact g_xiret rfl hexec hb hr hlocks hP hS hc hs hdg
theorem g_xretZ {x : Int32} {rr : Nat × Int32} (hexec : p.tables.exec = Jvm.exec) (hb : c.code = cc) (hr : meth.sig.returnType = some .boolean) (hz : x = 0 ∨ x = 1) (hlocks : meth.locks = false) (hF : some ((0, x), g) = some (rr, gz)) (hP : gP base D s g H) (hS : va_S (gA base) s.heap H locs) (hc : cells ≤ mc) (hs : slots ≤ ms) (hdg : decode cc pc = .ok (.ireturn, 1)) : W p l e R s m args below meth c H locs cells slots (vx_MQ below (gXi base D rr gz) XC args s mc ms (gA base)) (F0 m pc ls [.int x]) := by
  cases hF
  exact g_xzret rfl hexec hb hr hz hlocks hP hS hc hs hdg
theorem g_xretV {rr : Nat × Int32} (hexec : p.tables.exec = Jvm.exec) (hb : c.code = cc) (hr : meth.sig.returnType = none) (hlocks : meth.locks = false) (hF : some ((0, 0), g) = some (rr, gz)) (hP : gP base D s g H) (hS : va_S (gA base) s.heap H locs) (hc : cells ≤ mc) (hs : slots ≤ ms) (hdg : decode cc pc = .ok (.return_, 1)) : W p l e R s m args below meth c H locs cells slots (vx_MQ below (gXv base D rr gz) XC args s mc ms (gA base)) (F0 m pc ls []) := by
  cases hF
  exact g_xvret rfl hexec hb hr hlocks hP hS hc hs hdg
theorem g_throwF {rest : List Value} {k : Nat} (hexec : p.tables.exec = Jvm.exec) (hb : c.code = cc) (hl : l.stackTraces = false) {o : Nat × Int32} (hF : some (((k, 0) : Nat × Int32), g) = some (o, gz)) {cls : String} {ik is ic : Nat} {Qa : Array Value → State → Outcome → State → Prop} {ws : List Cond} {text : String}
    (hown : s.vm.findClass "CourierBees" = some m.cls) (hts : ∀ w ∈ ws, w.before args s = true) (hcls : Bundle.fit cls = true)
    (hk : (Cond.classLink "CourierBees" ik cls).before args s = true) (hini : (Cond.initialized cls).before args s = true) (hsub : ∀ w ∈ (vx_atS "CourierBees" ic cls gSup).filter goodWord, w ∈ ws) (hbad : ∀ w ∈ (vx_atS "CourierBees" ic cls gSup).filter (fun w => !goodWord w), w ∈ gBad cls) (hcast : (cls, cls) ∈ gCasts)
    (hgood : ∀ w ∈ Cond.classLink "CourierBees" ik cls :: Cond.initialized cls :: vx_atS "CourierBees" ic cls gSup, vx_ot w = true) (htx : (is, text) ∈ gTexts)
    (hE : gE base D s s.heap) (hP : gP base D s g H) (hS : va_S (gA base) s.heap H locs) (hsize : ls.size = c.maxLocals)
    (d0 : decode cc pc = .ok (.new ik, 3)) (d3 : decode cc (pc + 3) = .ok (.dup, 1)) (d4 : decode cc (pc + 4) = .ok (.ldc is, 2)) (d6 : decode cc (pc + 6) = .ok (.invokespecial ic, 3)) (d9 : decode cc (pc + 9) = .ok (.athrow, 1))
    (ht : ∀ x ∈ c.exceptionTable.toList, False) (hRf : 5 < R.frames) (hRl : (rest.map fun v => v.category).sum + 82 ≤ R.locals) (hRc : cells + 1 ≤ R.cells) (hRs : slots + 6 ≤ R.slots) (hlocks : meth.locks = false)
    (ho : k ≠ 0 ∧ k ≤ 3) (hox : gEx k = cls) (hc : cells + 1 ≤ mc) (hs : slots + 6 ≤ ms) :
    W p l e R s m args below meth c H locs cells slots (vx_MQ below Qa (gX base D o gz) args s mc ms (gA base)) (F0 m pc ls rest) := by
  cases hF
  exact g_throw hexec hb hl hown hts hcls hk hini hsub hbad hcast hgood htx hE hP hS hsize d0 d3 d4 d6 d9 ht hRf hRl hRc hRs hlocks ho hox hc hs
end GRET
end
section
theorem g_good1_78_82 : ∀ w ∈ Cond.classLink "CourierBees" 78 gEI :: Cond.initialized gEI :: vx_atS "CourierBees" 82 gEI gSup, vx_ot w = true := by decide +kernel
theorem g_good2_58_62 : ∀ w ∈ Cond.classLink "CourierBees" 58 gEA :: Cond.initialized gEA :: vx_atS "CourierBees" 62 gEA gSup, vx_ot w = true := by decide +kernel
theorem g_good3_39_43 : ∀ w ∈ Cond.classLink "CourierBees" 39 gES :: Cond.initialized gES :: vx_atS "CourierBees" 43 gES gSup, vx_ot w = true := by decide +kernel
theorem g_bad1_82 : ∀ w ∈ (vx_atS "CourierBees" 82 gEI gSup).filter (fun w => !goodWord w), w ∈ gBad gEI := by decide +kernel
theorem g_bad2_62 : ∀ w ∈ (vx_atS "CourierBees" 62 gEA gSup).filter (fun w => !goodWord w), w ∈ gBad gEA := by decide +kernel
theorem g_bad3_43 : ∀ w ∈ (vx_atS "CourierBees" 43 gES gSup).filter (fun w => !goodWord w), w ∈ gBad gES := by decide +kernel
end
