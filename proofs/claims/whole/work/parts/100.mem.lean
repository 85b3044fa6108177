/-! THE PURE HEAP: what each address is (kind, length), its ints, its references, its longs; the next free address -/
abbrev g_H : Type := (Nat → Nat × Nat) × (Nat → Nat → Int32) × (Nat → Nat → Option Nat) × (Nat → Nat → Int64) × Nat
def gS (g : g_H) : Nat → Nat × Nat := g.1
def gI (g : g_H) : Nat → Nat → Int32 := g.2.1
def gR (g : g_H) : Nat → Nat → Option Nat := g.2.2.1
def gJ (g : g_H) : Nat → Nat → Int64 := g.2.2.2.1
def gZ (g : g_H) : Nat := g.2.2.2.2
def gU {α : Type} (f : Nat → Nat → α) (a k : Nat) (x : α) : Nat → Nat → α := fun b j => if b = a then (if j = k then x else f b j) else f b j
def gW {α : Type} (f : Nat → Nat → α) (a : Nat) (r : Nat → α) : Nat → Nat → α := fun b => if b = a then r else f b
def gPI (g : g_H) (a k : Nat) (x : Int32) : g_H := (gS g, gU (gI g) a k x, gR g, gJ g, gZ g)
def gPR (g : g_H) (a k : Nat) (x : Option Nat) : g_H := (gS g, gI g, gU (gR g) a k x, gJ g, gZ g)
def gPJ (g : g_H) (a k : Nat) (x : Int64) : g_H := (gS g, gI g, gR g, gU (gJ g) a k x, gZ g)
def gPW (g : g_H) (a : Nat) (r : Nat → Int32) : g_H := (gS g, gW (gI g) a r, gR g, gJ g, gZ g)
/-- one new cell at the next free address -/
def gN (g : g_H) (kd n : Nat) (r : Nat → Int32) : g_H := (fun b => if b = gZ g then (kd, n) else gS g b, gW (gI g) (gZ g) r, gW (gR g) (gZ g) (fun _ => none), gW (gJ g) (gZ g) (fun _ => 0), gZ g + 1)
/-- n rows of k ints, and the row of them ahead -/
def gM (g : g_H) (n k : Nat) : g_H := (fun b => if b < gZ g then gS g b else if b = gZ g then (14, n) else if b < gZ g + 1 + n then (11, k) else gS g b,
  fun b => if b < gZ g then gI g b else if b < gZ g + 1 + n then (fun _ => 0) else gI g b,
  fun b => if b = gZ g then (fun j => if j < n then some (gZ g + 1 + j) else none) else gR g b, gJ g, gZ g + 1 + n)
def gZset (g : g_H) (z : Nat) : g_H := (gS g, gI g, gR g, gJ g, z)
def gTy (k : Nat) : FieldType := if k = 11 then .int else if k = 12 then .boolean else if k = 13 then .long else if k = 14 then .array .int else if k = 15 then .object "CourierBees$Bee" else if k = 16 then .object "CourierBees$Lane" else .object "CourierBees$Letter"
def gFv (T : u_T) (j : Nat) (x : Int32) (y : Option Nat) : Value := if (T j).2.2.1 = "I" ∨ (T j).2.2.1 = "Z" then .int x else va_rf y
def gAv (k : Nat) (x : Int32) (y : Option Nat) (z : Int64) : Value := if k = 11 ∨ k = 12 then .int x else if k = 13 then .long z else va_rf y
def gAt (D : va_G) (s : State) (g : g_H) (H : Heap) (a : Nat) : Prop :=
  ((gS g a).1 ≠ 0 → (gS g a).1 < 11 → ∃ r : vw_C, vwCl[(gS g a).1 - 1]? = some r ∧ t_OB a (D.1 ((gS g a).1 - 1)) r.2.2 (D.2 ((gS g a).1 - 1)) H (fun j => gFv r.2.1 j (gI g a j) (gR g a j))) ∧
  (11 ≤ (gS g a).1 → ∃ cA : ClassId, ArrOfT s cA (gTy (gS g a).1) ∧ va_RA s cA (gTy (gS g a).1) ∧ H[a]? = some (arrV cA (gS g a).2 (fun j => gAv (gS g a).1 (gI g a j) (gR g a j) (gJ g a j))))
def gP (base : Nat) (D : va_G) (s : State) (g : g_H) (H : Heap) : Prop := gZ g = H.size ∧ ∀ a, gAt D s g H a ∧ ((gS g a).1 ≠ 0 → base ≤ a)
def gA (base : Nat) : Nat → Prop := fun q => base ≤ q
theorem gAt.kept {D : va_G} {s : State} {g g1 : g_H} {H H1 : Heap} {a : Nat} (h : gAt D s g H a) (e1 : gS g1 a = gS g a) (e2 : gI g1 a = gI g a) (e3 : gR g1 a = gR g a) (e4 : gJ g1 a = gJ g a) (hq : H1[a]? = H[a]?) : gAt D s g1 H1 a := by
  unfold gAt
  rw [e1, e2, e3, e4]
  refine ⟨fun h0 h1 => ?_, fun h1 => ?_⟩
  · obtain ⟨r, hr, ht⟩ := h.1 h0 h1
    exact ⟨r, hr, ht.kept hq⟩
  · obtain ⟨cA, x1, x2, x3⟩ := h.2 h1
    exact ⟨cA, x1, x2, hq.trans x3⟩
theorem gAt.lt {D : va_G} {s : State} {g : g_H} {H : Heap} {a : Nat} (h : gAt D s g H a) (hk : (gS g a).1 ≠ 0) : a < H.size := by
  by_cases h1 : (gS g a).1 < 11
  · obtain ⟨r, hr, cell, hc, -⟩ := h.1 hk h1
    exact (Array.getElem?_eq_some_iff.mp hc).1
  · obtain ⟨cA, -, -, x3⟩ := h.2 (by omega)
    exact (Array.getElem?_eq_some_iff.mp x3).1
theorem gAt.moved {D : va_G} {u U : State} {g : g_H} {H : Heap} {a : Nat} (hvm : u.vm.Alike U.vm) (h : gAt D u g H a) : gAt D U g H a :=
  ⟨h.1, fun h1 => by
    obtain ⟨cA, x1, x2, x3⟩ := h.2 h1
    exact ⟨cA, arrOfT_moved hvm x1, x2.moved hvm, x3⟩⟩
theorem gP.moved {base : Nat} {D : va_G} {u U : State} {g : g_H} {H : Heap} (hvm : u.vm.Alike U.vm) (h : gP base D u g H) : gP base D U g H := ⟨h.1, fun a => ⟨(h.2 a).1.moved hvm, (h.2 a).2⟩⟩
/-- the known cells stay, the free address moves up -/
theorem gP.grow {base : Nat} {D : va_G} {s : State} {g : g_H} {H H1 : Heap} (h : gP base D s g H) (hq : ∀ q : Nat, q < H.size → H1[q]? = H[q]?) : gP base D s (gZset g H1.size) H1 := by
  refine ⟨rfl, fun a => ⟨?_, (h.2 a).2⟩⟩
  by_cases hk : (gS g a).1 = 0
  · have e : (gS (gZset g H1.size) a).1 = 0 := hk
    exact ⟨fun h0 => absurd e h0, fun h1 => by omega⟩
  · exact (h.2 a).1.kept rfl rfl rfl rfl (hq a ((h.2 a).1.lt hk))
theorem gP.set {base : Nat} {D : va_G} {s : State} {g g1 : g_H} {H H1 : Heap} {a : Nat} (h : gP base D s g H) (hz : gZ g1 = gZ g) (hS : gS g1 = gS g) (hz1 : H1.size = H.size) (ha : gAt D s g1 H1 a)
    (ho : ∀ b, b ≠ a → gI g1 b = gI g b ∧ gR g1 b = gR g b ∧ gJ g1 b = gJ g b) (oq : ∀ q : Nat, q ≠ a → H1[q]? = H[q]?) : gP base D s g1 H1 := by
  refine ⟨by rw [hz, hz1]; exact h.1, fun b => ⟨?_, by rw [hS]; exact (h.2 b).2⟩⟩
  by_cases hb : b = a
  · subst hb; exact ha
  · obtain ⟨o1, o2, o3⟩ := ho b hb
    exact (h.2 b).1.kept (by rw [hS]) o1 o2 o3 (oq b hb)
def gAOA (t : FieldType) (U : State) : Prop := (Cond.arrayOver (.array t)).before #[] U = true
theorem gAOA.of {t : FieldType} {A : Array Value} {U : State} (h : (Cond.arrayOver (.array t)).before A U = true) : gAOA t U := h
theorem gAOA.use {t : FieldType} {A : Array Value} {U : State} (h : gAOA t U) : (Cond.arrayOver (.array t)).before A U = true := h
theorem gAOA.moved {t : FieldType} {u U : State} (hvm : u.vm.Alike U.vm) (h : gAOA t u) : gAOA t U := by
  obtain ⟨comp, c, k, h1, h2, h3, h4, h5⟩ := arrayOverA_spec h
  obtain ⟨k', hk', he⟩ := hvm.2.2 _ _ h3
  have hi : (U.vm.classes.findIdx? fun (x : Class) => match x.kind with | .array component _ => component == comp | _ => false) = some c := by
    have hb0 : U.vm.bare = u.vm.bare := by first | exact hvm.bare_eq | exact hvm.bare_eq.symm
    exact (va_idx_bare U.vm comp).symm.trans ((congrArg (fun b : Vm => b.classes.findIdx? fun (x : Class) => match x.kind with | .array component _ => component == comp | _ => false) hb0).trans ((va_idx_bare u.vm comp).trans h2))
  have hkind : k'.kind = .array comp (.array t) := by rw [he]; exact h4
  have f1 : U.vm.findClass (FieldType.array t).toString = some comp := by rw [hvm.findClass]; exact h1
  have f2 : U.vm.findClass ("[" ++ (FieldType.array t).toString) = some c := by rw [hvm.findClass]; exact h5
  unfold gAOA Cond.before Cond.holds
  simp only [Cond.value]
  rw [f1, Option.bind_some]
  refine (congrArg (fun o : Option Nat => (o.bind (fun c => (U.vm.classes[c]?).map fun (k : Class) => match k.kind with | .array _ ty => decide (ty = FieldType.array t) && decide (U.vm.findClass ("[" ++ (FieldType.array t).toString) = some c) | _ => false) == some true)) hi).trans ?_
  simp [hk', hkind, f2]
theorem g_if {c : Prop} {i : Decidable c} {α : Type} {x : Option α} {y : α} (h : @ite (Option α) c i x none = some y) : c ∧ x = some y := by
  by_cases hc : c
  · rw [if_pos hc] at h; exact ⟨hc, h⟩
  · rw [if_neg hc] at h; cases h
theorem g_t {c : Prop} {i : Decidable c} {α : Type} {x y z : α} (hc : c) (h : @ite α c i x y = z) : x = z := by rw [if_pos hc] at h; exact h
theorem g_f {c : Prop} {i : Decidable c} {α : Type} {x y z : α} (hc : ¬ c) (h : @ite α c i x y = z) : y = z := by rw [if_neg hc] at h; exact h
theorem g_bind {α β : Type} {x : Option α} {f : α → Option β} {y : β} (h : x.bind f = some y) : ∃ q, x = some q ∧ f q = some y := by
  cases x with
  | none => cases h
  | some q => exact ⟨q, rfl, h⟩
theorem g_ref {α : Type} {x : Option Nat} {f : Nat → Option α} {y : α} (h : x.bind f = some y) : ∃ q, x = some q ∧ f q = some y := g_bind h
theorem g_ret {α β : Type} {a a1 : α} {b b1 : β} (h : some (a, b) = some (a1, b1)) : a = a1 ∧ b = b1 := by cases h; exact ⟨rfl, rfl⟩
theorem g_no {α : Type} {P : Prop} {y : α} (h : (none : Option α) = some y) : P := nomatch h
/-! rows over the pure heap -/
theorem gFv_i {T : u_T} {k : Nat} {x : Int32} {y : Option Nat} (h : (T k).2.2.1 = "I" ∨ (T k).2.2.1 = "Z") : gFv T k x y = .int x := if_pos h
theorem gFv_r {T : u_T} {k : Nat} {x : Int32} {y : Option Nat} (h : ¬ ((T k).2.2.1 = "I" ∨ (T k).2.2.1 = "Z")) : gFv T k x y = va_rf y := if_neg h
theorem gU_s {α : Type} {f : Nat → Nat → α} {a k : Nat} {x : α} : gU f a k x a k = x := by unfold gU; rw [if_pos rfl, if_pos rfl]
theorem gU_k {α : Type} {f : Nat → Nat → α} {a k j : Nat} {x : α} (h : j ≠ k) : gU f a k x a j = f a j := by unfold gU; rw [if_pos rfl, if_neg h]
theorem gU_o {α : Type} {f : Nat → Nat → α} {a b k : Nat} {x : α} (h : b ≠ a) : gU f a k x b = f b := by funext j; unfold gU; rw [if_neg h]
theorem gW_s {α : Type} {f : Nat → Nat → α} {a : Nat} {r : Nat → α} : gW f a r a = r := by unfold gW; rw [if_pos rfl]
theorem gW_o {α : Type} {f : Nat → Nat → α} {a b : Nat} {r : Nat → α} (h : b ≠ a) : gW f a r b = f b := by unfold gW; rw [if_neg h]
section GROWS
variable {p : Program} {l : Launch} {e : Env} {R : Room} {s : State} {m : MethodId} {args : Array Value} {below : List Frame} {meth : Method} {c : Code} {H : Heap} {locs : List Loc} {cells slots : Nat} {Q : State → Prop}
variable {cc : ByteArray} {pc : Nat} {ls : Array Slot} {rest : List Value} {D : va_G} {base : Nat} {g : g_H} {a : Nat} {H0 : Heap}
theorem gP.ob {C : String} {T : u_T} {N ci : Nat} (hP : gP base D s g H) (hc : vwCl[ci]? = some (C, T, N)) (hci : ci < 10) (hk0 : (gS g a).1 = ci + 1) : t_OB a (D.1 ci) N (D.2 ci) H (fun j => gFv T j (gI g a j) (gR g a j)) := by
  obtain ⟨r, h1, h2⟩ := (hP.2 a).1.1 (by omega) (by omega)
  rw [hk0] at h1 h2
  have hr : r = (C, T, N) := Option.some.inj (h1.symm.trans hc)
  subst hr
  exact h2
theorem gP.recv {C : String} {T : u_T} {N ci : Nat} (hK : va_K D vwCl [] s) (hP : gP base D s g H) (hc : vwCl[ci]? = some (C, T, N)) (hci : ci < 10) (hk0 : (gS g a).1 = ci + 1) : ∃ cell : Cell, H[a]? = some cell ∧ cell.vm.isStatics = false ∧ s.vm.findClass C = some cell.cls := by
  obtain ⟨cell, g1, g2, g3, -⟩ := hP.ob hc hci hk0
  exact ⟨cell, g1, by rw [g3]; rfl, by rw [g2]; exact (hK.1 ci _ hc).2.1⟩
theorem g_get (hexec : p.tables.exec = Jvm.exec) (hb : c.code = cc) {own ref C : String} {T : u_T} {N index : Nat} {Ts : List Cond} (hts : ∀ w ∈ Ts, w.before args s = true) (hin : ∀ w ∈ u_ws C T N, w ∈ Ts) (hown : s.vm.findClass own = some m.cls) (hK : va_K D vwCl [] s) (hP : gP base D s g H) (ci : Nat) (hc : vwCl[ci]? = some (C, T, N)) (hci : ci < 10) (hk0 : (gS g a).1 = ci + 1) (k : Nat) (hk : k < N)
    (hlink : (Cond.fieldLink own index ref (T k).2.1 (T k).2.2.1).before args s = true) (hsame : ∀ x, s.fieldFound? (T k).1 (T k).2.1 (T k).2.2.1 = some x → s.fieldFound? ref (T k).2.1 (T k).2.2.1 = some x) {v : Value} (hv : gFv T k (gI g a k) (gR g a k) = v) (hdg : decode cc pc = .ok (.getfield index, 3))
    (kk : W p l e R s m args below meth c H locs cells slots Q (F0 m (pc + 3) ls (v :: rest))) : W p l e R s m args below meth c H locs cells slots Q (F0 m pc ls (.ref a :: rest)) := by
  obtain ⟨cell, q1, q2, q3, q4⟩ := hP.ob hc hci hk0
  obtain ⟨hS, hfc, kC, hkC, hkind⟩ := hK.1 ci _ hc
  obtain ⟨cf, kf, fi, f, hi, hsl⟩ := hS k hk
  refine W.getf hexec hb hown hlink (hsame _ hi) (u_facts hfc hkC (u_lays hts hin hk) hi).1 q1 (by rw [q3]; exact fun h => by cases h) (v := v) ?_ rfl rfl hdg kk
  rw [hsl]
  exact (q4 k hk).trans (congrArg some hv)
theorem g_put (hexec : p.tables.exec = Jvm.exec) (hb : c.code = cc) {own ref C : String} {T : u_T} {N index : Nat} {Ts : List Cond} (hts : ∀ w ∈ Ts, w.before args s = true) (hin : ∀ w ∈ u_ws C T N, w ∈ Ts) (ty0 : Nat → FieldType) (hty : ∀ k, k < N → parseFieldDescriptor (T k).2.2.1 = some (ty0 k)) (hnm : ∀ a, a < N → ∀ b, b < N → a ≠ b → (T a).2.1 ≠ (T b).2.1) (hown : s.vm.findClass own = some m.cls) (hK : va_K D vwCl [] s) (hP : gP base D s g H) (hS0 : va_S (gA base) H0 H locs)
    (ci : Nat) (hc : vwCl[ci]? = some (C, T, N)) (hci : ci < 10) (hk0 : (gS g a).1 = ci + 1) (k : Nat) (hk : k < N) (hlink : (Cond.fieldLink own index ref (T k).2.1 (T k).2.2.1).before args s = true) (hsame : ∀ x, s.fieldFound? (T k).1 (T k).2.1 (T k).2.2.1 = some x → s.fieldFound? ref (T k).2.1 (T k).2.2.1 = some x)
    (hfin : (T k).2.2.2 = false ∨ ((T k).2.2.2 = true ∧ meth.name = "<init>" ∧ (T k).1 = own)) {v : Value} (hn : narrow (ty0 k) v = v) (hfit : fits (ty0 k) v = true) {g1 : g_H} (hgv : gFv T k (gI g1 a k) (gR g1 a k) = v) (hgs : gS g1 = gS g) (hgz : gZ g1 = gZ g) (hgk : ∀ j, j ≠ k → gI g1 a j = gI g a j ∧ gR g1 a j = gR g a j) (hgo : ∀ b, b ≠ a → gI g1 b = gI g b ∧ gR g1 b = gR g b ∧ gJ g1 b = gJ g b)
    (hdg : decode cc pc = .ok (.putfield index, 3)) (kk : ∀ (H1 : Heap) (locs1 : List Loc), gP base D s g1 H1 → va_S (gA base) H0 H1 locs1 → W p l e R s m args below meth c H1 locs1 cells slots Q (F0 m (pc + 3) ls rest)) : W p l e R s m args below meth c H locs cells slots Q (F0 m pc ls (v :: .ref a :: rest)) := by
  have hap := va_apart (own := own) hts hin ty0 hty hnm hK hc
  obtain ⟨cell, q1, q2, q3, q4⟩ := hP.ob hc hci hk0
  obtain ⟨hS, hfc, kC, hkC, hkind⟩ := hK.1 ci _ hc
  obtain ⟨cf, kf, fi, f, hi, hsl⟩ := hS k hk
  have hd := hty k hk
  have hlay := hts _ (hin _ (u_in_lay hk))
  have hst := (u_facts hfc hkC (u_lays hts hin hk) hi).1
  have hbase : base ≤ a := (hP.2 a).2 (by omega)
  have key : ∀ H' : Heap, H'[a]? = some (cell.setSlot f.slot v) → H'.size = H.size → (∀ q, q ≠ a → H'[q]? = H[q]?) → gP base D s g1 H' := by
    intro H' e1 e2 e3
    rw [hsl] at e1
    refine hP.set hgz hgs e2 ?_ hgo e3
    refine ⟨fun h0 h1 => ?_, fun h1 => by rw [hgs] at h1; omega⟩
    rw [hgs, hk0]
    refine ⟨(C, T, N), hc, t_OB.to (V := updV (fun j => gFv T j (gI g a j) (gR g a j)) k v) ⟨_, e1, q2, q3, t_set q4 hap hk v⟩ (fun j hj => ?_)⟩
    by_cases hjk : j = k
    · subst hjk
      rw [hgv]
      simp [updV]
    · obtain ⟨z1, z2⟩ := hgk j hjk
      rw [z1, z2]
      simp [updV, hjk]
  rcases hfin with hfin | ⟨hfin, hin2, hdecl⟩
  · unfold u_lay at hlay
    rw [if_neg (by rw [hfin]; decide)] at hlay
    have h6 := u_store hfc hkC hkind hlay hi hd hn hfit
    refine W.putK hexec hb (f := f) ⟨hown, hlink, ⟨_, _, _, hsame _ hi⟩, hst⟩ (by rw [q2]; exact h6) q1 q3 (by rw [hsl]; exact k2_hasslot (q4 k hk)) rfl rfl hdg fun H' e1 e2 e3 => ?_
    exact kk H' _ (key H' e1 e2 e3) (hS0.put e2 e3 hbase)
  · unfold u_lay at hlay
    rw [if_pos hfin] at hlay
    have hcf : m.cls = cf := by
      obtain ⟨_, _, c', _, _, _, -, -, hf', -, -, -, hown2, -⟩ := Cond.laysFinal_spec hlay
      have e1 : c' = cf := by have := hi.symm.trans hf'; simp at this; exact this.1.symm
      rw [hdecl] at hown2
      rw [← e1]; exact Option.some.inj (hown.symm.trans hown2)
    have h6 := u_fits hfc hkC hkind (Or.inr hlay) hi hd hn hfit
    refine W.putFinK hexec hb hown hlink (hsame _ hi) hst hcf hin2 (by rw [q2]; exact h6) q1 q3 (by rw [hsl]; exact k2_hasslot (q4 k hk)) rfl rfl hdg fun H' e1 e2 e3 => ?_
    exact kk H' _ (key H' e1 e2 e3) (hS0.put e2 e3 hbase)
theorem g_puti (hexec : p.tables.exec = Jvm.exec) (hb : c.code = cc) {own ref C : String} {T : u_T} {N index : Nat} {Ts : List Cond} (hts : ∀ w ∈ Ts, w.before args s = true) (hin : ∀ w ∈ u_ws C T N, w ∈ Ts) (ty0 : Nat → FieldType) (hty : ∀ k, k < N → parseFieldDescriptor (T k).2.2.1 = some (ty0 k)) (hnm : ∀ a, a < N → ∀ b, b < N → a ≠ b → (T a).2.1 ≠ (T b).2.1) (hown : s.vm.findClass own = some m.cls) (hK : va_K D vwCl [] s) (hP : gP base D s g H) (hS0 : va_S (gA base) H0 H locs)
    (ci : Nat) (hc : vwCl[ci]? = some (C, T, N)) (hci : ci < 10) (hk0 : (gS g a).1 = ci + 1) (k : Nat) (hk : k < N) (hlink : (Cond.fieldLink own index ref (T k).2.1 (T k).2.2.1).before args s = true) (hsame : ∀ x, s.fieldFound? (T k).1 (T k).2.1 (T k).2.2.1 = some x → s.fieldFound? ref (T k).2.1 (T k).2.2.1 = some x)
    (hfin : (T k).2.2.2 = false ∨ ((T k).2.2.2 = true ∧ meth.name = "<init>" ∧ (T k).1 = own)) {x : Int32} (hdsc : (T k).2.2.1 = "I" ∨ (T k).2.2.1 = "Z") (hn : narrow (ty0 k) (.int x) = .int x) (hfit : fits (ty0 k) (.int x) = true)
    (hdg : decode cc pc = .ok (.putfield index, 3)) (kk : ∀ (H1 : Heap) (locs1 : List Loc), gP base D s (gPI g a k x) H1 → va_S (gA base) H0 H1 locs1 → W p l e R s m args below meth c H1 locs1 cells slots Q (F0 m (pc + 3) ls rest)) : W p l e R s m args below meth c H locs cells slots Q (F0 m pc ls (.int x :: .ref a :: rest)) :=
  g_put hexec hb hts hin ty0 hty hnm hown hK hP hS0 ci hc hci hk0 k hk hlink hsame hfin hn hfit (g1 := gPI g a k x) (by rw [gFv_i hdsc]; exact congrArg Value.int gU_s) rfl rfl (fun j hj => ⟨gU_k hj, rfl⟩) (fun b hb => ⟨gU_o hb, rfl, rfl⟩) hdg kk
theorem g_putr (hexec : p.tables.exec = Jvm.exec) (hb : c.code = cc) {own ref C : String} {T : u_T} {N index : Nat} {Ts : List Cond} (hts : ∀ w ∈ Ts, w.before args s = true) (hin : ∀ w ∈ u_ws C T N, w ∈ Ts) (ty0 : Nat → FieldType) (hty : ∀ k, k < N → parseFieldDescriptor (T k).2.2.1 = some (ty0 k)) (hnm : ∀ a, a < N → ∀ b, b < N → a ≠ b → (T a).2.1 ≠ (T b).2.1) (hown : s.vm.findClass own = some m.cls) (hK : va_K D vwCl [] s) (hP : gP base D s g H) (hS0 : va_S (gA base) H0 H locs)
    (ci : Nat) (hc : vwCl[ci]? = some (C, T, N)) (hci : ci < 10) (hk0 : (gS g a).1 = ci + 1) (k : Nat) (hk : k < N) (hlink : (Cond.fieldLink own index ref (T k).2.1 (T k).2.2.1).before args s = true) (hsame : ∀ x, s.fieldFound? (T k).1 (T k).2.1 (T k).2.2.1 = some x → s.fieldFound? ref (T k).2.1 (T k).2.2.1 = some x)
    (hfin : (T k).2.2.2 = false ∨ ((T k).2.2.2 = true ∧ meth.name = "<init>" ∧ (T k).1 = own)) {q : Nat} (hdsc : ¬ ((T k).2.2.1 = "I" ∨ (T k).2.2.1 = "Z")) (hn : narrow (ty0 k) (.ref q) = .ref q) (hfit : fits (ty0 k) (.ref q) = true)
    (hdg : decode cc pc = .ok (.putfield index, 3)) (kk : ∀ (H1 : Heap) (locs1 : List Loc), gP base D s (gPR g a k (some q)) H1 → va_S (gA base) H0 H1 locs1 → W p l e R s m args below meth c H1 locs1 cells slots Q (F0 m (pc + 3) ls rest)) : W p l e R s m args below meth c H locs cells slots Q (F0 m pc ls (.ref q :: .ref a :: rest)) :=
  g_put hexec hb hts hin ty0 hty hnm hown hK hP hS0 ci hc hci hk0 k hk hlink hsame hfin hn hfit (g1 := gPR g a k (some q)) (by rw [gFv_r hdsc]; exact congrArg va_rf gU_s) rfl rfl (fun j hj => ⟨rfl, gU_k hj⟩) (fun b hb => ⟨rfl, gU_o hb, rfl⟩) hdg kk
/-- an array's cell -/
theorem gP.ar {k n : Nat} (hP : gP base D s g H) (hk0 : (gS g a) = (k, n)) (hk : 11 ≤ k) : ∃ cA : ClassId, ArrOfT s cA (gTy k) ∧ va_RA s cA (gTy k) ∧ H[a]? = some (arrV cA n (fun j => gAv k (gI g a j) (gR g a j) (gJ g a j))) := by
  have h := (hP.2 a).1.2 (by rw [hk0]; exact hk)
  rw [hk0] at h
  exact h
theorem g_iald (hexec : p.tables.exec = Jvm.exec) (hb : c.code = cc) (hP : gP base D s g H) {n : Nat} (hk0 : gS g a = (11, n)) {i : Int32} (hin : ¬ (i < 0 ∨ n ≤ i.toNatClampNeg)) (hdg : decode cc pc = .ok (.iaload, 1))
    (kk : W p l e R s m args below meth c H locs cells slots Q (F0 m (pc + 1) ls (.int (gI g a i.toNatClampNeg) :: rest))) : W p l e R s m args below meth c H locs cells slots Q (F0 m pc ls (.int i :: .ref a :: rest)) := by
  obtain ⟨cA, x1, x2, x3⟩ := hP.ar hk0 (by omega)
  have hlt : i.toNatClampNeg < n := Nat.not_le.mp fun q => hin (Or.inr q)
  exact W.iald (v := .int (gI g a i.toNatClampNeg)) hexec hb x3 (x1 n _) (fun q => by cases q) (by rw [arrV_size]; exact hin) (by rw [arrV_read _ _ hlt]; rfl) rfl rfl hdg kk
theorem g_zald (hexec : p.tables.exec = Jvm.exec) (hb : c.code = cc) (hP : gP base D s g H) {n : Nat} (hk0 : gS g a = (12, n)) {i : Int32} (hin : ¬ (i < 0 ∨ n ≤ i.toNatClampNeg)) (hdg : decode cc pc = .ok (.baload, 1))
    (kk : W p l e R s m args below meth c H locs cells slots Q (F0 m (pc + 1) ls (.int (gI g a i.toNatClampNeg) :: rest))) : W p l e R s m args below meth c H locs cells slots Q (F0 m pc ls (.int i :: .ref a :: rest)) := by
  obtain ⟨cA, x1, x2, x3⟩ := hP.ar hk0 (by omega)
  have hlt : i.toNatClampNeg < n := Nat.not_le.mp fun q => hin (Or.inr q)
  exact W.zald (v := .int (gI g a i.toNatClampNeg)) hexec hb x3 (x1 n _) (fun q => by cases q) (by rw [arrV_size]; exact hin) (by rw [arrV_read _ _ hlt]; rfl) rfl rfl hdg kk
theorem g_lald (hexec : p.tables.exec = Jvm.exec) (hb : c.code = cc) (hP : gP base D s g H) {n : Nat} (hk0 : gS g a = (13, n)) {i : Int32} (hin : ¬ (i < 0 ∨ n ≤ i.toNatClampNeg)) (hdg : decode cc pc = .ok (.laload, 1))
    (kk : W p l e R s m args below meth c H locs cells slots Q (F0 m (pc + 1) ls (.long (gJ g a i.toNatClampNeg) :: rest))) : W p l e R s m args below meth c H locs cells slots Q (F0 m pc ls (.int i :: .ref a :: rest)) := by
  obtain ⟨cA, x1, x2, x3⟩ := hP.ar hk0 (by omega)
  have hlt : i.toNatClampNeg < n := Nat.not_le.mp fun q => hin (Or.inr q)
  exact W.lald (v := .long (gJ g a i.toNatClampNeg)) hexec hb x3 (x1 n _) (fun q => by cases q) (by rw [arrV_size]; exact hin) (by rw [arrV_read _ _ hlt]; rfl) rfl rfl hdg kk
theorem g_aald (hexec : p.tables.exec = Jvm.exec) (hb : c.code = cc) (hP : gP base D s g H) {k n : Nat} (hk0 : gS g a = (k, n)) (hk : 14 ≤ k) {i : Int32} (hin : ¬ (i < 0 ∨ n ≤ i.toNatClampNeg)) {q : Nat} (hq : gR g a i.toNatClampNeg = some q) (hdg : decode cc pc = .ok (.aaload, 1))
    (kk : W p l e R s m args below meth c H locs cells slots Q (F0 m (pc + 1) ls (.ref q :: rest))) : W p l e R s m args below meth c H locs cells slots Q (F0 m pc ls (.int i :: .ref a :: rest)) := by
  obtain ⟨cA, x1, x2, x3⟩ := hP.ar hk0 (by omega)
  have hlt : i.toNatClampNeg < n := Nat.not_le.mp fun q => hin (Or.inr q)
  have hty : (gTy k).isReference = true := by
    unfold gTy
    rw [if_neg (by omega), if_neg (by omega), if_neg (by omega)]
    split
    · rfl
    · split
      · rfl
      · split <;> rfl
  have hav : gAv k (gI g a i.toNatClampNeg) (gR g a i.toNatClampNeg) (gJ g a i.toNatClampNeg) = .ref q := by
    unfold gAv
    rw [if_neg (by omega), if_neg (by omega), hq]
    rfl
  exact W.aald (v := .ref q) hexec hb x3 (x1 n _) hty (fun q => by cases q) (by rw [arrV_size]; exact hin) (by rw [arrV_read _ _ hlt, hav]) rfl rfl hdg kk
theorem g_alen (hexec : p.tables.exec = Jvm.exec) (hb : c.code = cc) (hP : gP base D s g H) {k n : Nat} (hk0 : gS g a = (k, n)) (hk : 11 ≤ k) (hdg : decode cc pc = .ok (.arraylength, 1))
    (kk : W p l e R s m args below meth c H locs cells slots Q (F0 m (pc + 1) ls (.int (nI n) :: rest))) : W p l e R s m args below meth c H locs cells slots Q (F0 m pc ls (.ref a :: rest)) := by
  obtain ⟨cA, x1, x2, x3⟩ := hP.ar hk0 hk
  exact W.alen (n := nI n) hexec hb x3 (x1 n _) (by rw [arrV_size] <;> rfl) rfl rfl hdg kk
/-- an array's cell anew -/
theorem gP.setA {k n i : Nat} {v : Value} {cA : ClassId} {g1 : g_H} {H1 : Heap} (hP : gP base D s g H) (hk0 : gS g a = (k, n)) (hk : 11 ≤ k) (x1 : ArrOfT s cA (gTy k)) (x2 : va_RA s cA (gTy k)) (hgs : gS g1 = gS g) (hgz : gZ g1 = gZ g)
    (hgv : gAv k (gI g1 a i) (gR g1 a i) (gJ g1 a i) = v) (hgk : ∀ j, j ≠ i → gI g1 a j = gI g a j ∧ gR g1 a j = gR g a j ∧ gJ g1 a j = gJ g a j) (hgo : ∀ b, b ≠ a → gI g1 b = gI g b ∧ gR g1 b = gR g b ∧ gJ g1 b = gJ g b)
    (e1 : H1[a]? = some ((arrV cA n (fun j => gAv k (gI g a j) (gR g a j) (gJ g a j))).setSlot i v)) (e2 : H1.size = H.size) (e3 : ∀ q, q ≠ a → H1[q]? = H[q]?) : gP base D s g1 H1 := by
  refine hP.set hgz hgs e2 ⟨fun h0 h1 => ?_, fun h1 => ?_⟩ hgo e3
  · rw [hgs, hk0] at h1
    exact absurd h1 (by show ¬ k < 11; omega)
  · rw [hgs, hk0]
    refine ⟨cA, x1, x2, ?_⟩
    rw [e1, arrV_store]
    show some (arrV cA n _) = some (arrV cA n _)
    congr 2
    funext j
    by_cases hj : j = i
    · subst hj
      simp only [updV, if_pos rfl]
      exact hgv.symm
    · obtain ⟨z1, z2, z3⟩ := hgk j hj
      simp only [updV, if_neg hj]
      rw [z1, z2, z3]
theorem g_iast (hexec : p.tables.exec = Jvm.exec) (hb : c.code = cc) (hP : gP base D s g H) (hS0 : va_S (gA base) H0 H locs) {n : Nat} (hk0 : gS g a = (11, n)) {i x : Int32} (hin : ¬ (i < 0 ∨ n ≤ i.toNatClampNeg)) (hdg : decode cc pc = .ok (.iastore, 1))
    (kk : ∀ (H1 : Heap) (locs1 : List Loc), gP base D s (gPI g a i.toNatClampNeg x) H1 → va_S (gA base) H0 H1 locs1 → W p l e R s m args below meth c H1 locs1 cells slots Q (F0 m (pc + 1) ls rest)) : W p l e R s m args below meth c H locs cells slots Q (F0 m pc ls (.int x :: .int i :: .ref a :: rest)) := by
  obtain ⟨cA, x1, x2, x3⟩ := hP.ar hk0 (by omega)
  have hbase : base ≤ a := (hP.2 a).2 (by rw [hk0]; simp)
  refine W.iast hexec hb x3 (x1 n _) (fun q => by cases q) (by rw [arrV_size]; exact hin) rfl rfl hdg fun H1 e z oq => ?_
  exact kk H1 _ (hP.setA (i := i.toNatClampNeg) (g1 := gPI g a i.toNatClampNeg x) hk0 (by omega) x1 x2 rfl rfl (congrArg Value.int gU_s) (fun j hj => ⟨gU_k hj, rfl, rfl⟩) (fun b hb => ⟨gU_o hb, rfl, rfl⟩) e z oq) (hS0.put z oq hbase)
theorem g_zast (hexec : p.tables.exec = Jvm.exec) (hb : c.code = cc) (hP : gP base D s g H) (hS0 : va_S (gA base) H0 H locs) {n : Nat} (hk0 : gS g a = (12, n)) {i x : Int32} (hin : ¬ (i < 0 ∨ n ≤ i.toNatClampNeg)) (hx : x = 0 ∨ x = 1) (hdg : decode cc pc = .ok (.bastore, 1))
    (kk : ∀ (H1 : Heap) (locs1 : List Loc), gP base D s (gPI g a i.toNatClampNeg x) H1 → va_S (gA base) H0 H1 locs1 → W p l e R s m args below meth c H1 locs1 cells slots Q (F0 m (pc + 1) ls rest)) : W p l e R s m args below meth c H locs cells slots Q (F0 m pc ls (.int x :: .int i :: .ref a :: rest)) := by
  obtain ⟨cA, x1, x2, x3⟩ := hP.ar hk0 (by omega)
  have hbase : base ≤ a := (hP.2 a).2 (by rw [hk0]; simp)
  refine W.zast hexec hb x3 (x1 n _) (fun q => by cases q) (by rw [arrV_size]; exact hin) rfl rfl hdg fun H1 e z oq => ?_
  have hnx : narrow .boolean (.int x) = .int x := by rcases hx with h | h <;> subst h <;> rfl
  rw [hnx] at e
  exact kk H1 _ (hP.setA (i := i.toNatClampNeg) (g1 := gPI g a i.toNatClampNeg x) hk0 (by omega) x1 x2 rfl rfl (congrArg Value.int gU_s) (fun j hj => ⟨gU_k hj, rfl, rfl⟩) (fun b hb => ⟨gU_o hb, rfl, rfl⟩) e z oq) (hS0.put z oq hbase)
theorem g_last (hexec : p.tables.exec = Jvm.exec) (hb : c.code = cc) (hP : gP base D s g H) (hS0 : va_S (gA base) H0 H locs) {n : Nat} (hk0 : gS g a = (13, n)) {i : Int32} {x : Int64} (hin : ¬ (i < 0 ∨ n ≤ i.toNatClampNeg)) (hdg : decode cc pc = .ok (.lastore, 1))
    (kk : ∀ (H1 : Heap) (locs1 : List Loc), gP base D s (gPJ g a i.toNatClampNeg x) H1 → va_S (gA base) H0 H1 locs1 → W p l e R s m args below meth c H1 locs1 cells slots Q (F0 m (pc + 1) ls rest)) : W p l e R s m args below meth c H locs cells slots Q (F0 m pc ls (.long x :: .int i :: .ref a :: rest)) := by
  obtain ⟨cA, x1, x2, x3⟩ := hP.ar hk0 (by omega)
  have hbase : base ≤ a := (hP.2 a).2 (by rw [hk0]; simp)
  refine W.last hexec hb x3 (x1 n _) (fun q => by cases q) (by rw [arrV_size]; exact hin) rfl rfl hdg fun H1 e z oq => ?_
  exact kk H1 _ (hP.setA (i := i.toNatClampNeg) (g1 := gPJ g a i.toNatClampNeg x) hk0 (by omega) x1 x2 rfl rfl (congrArg Value.long gU_s) (fun j hj => ⟨rfl, rfl, gU_k hj⟩) (fun b hb => ⟨rfl, rfl, gU_o hb⟩) e z oq) (hS0.put z oq hbase)
/-- a row of references to objects of C -/
theorem g_aast (hexec : p.tables.exec = Jvm.exec) (hb : c.code = cc) (hK : va_K D vwCl [] s) (hP : gP base D s g H) (hS0 : va_S (gA base) H0 H locs) {k n : Nat} (hk0 : gS g a = (k, n)) (hk : 15 ≤ k) {C : String} {T : u_T} {N : Nat} (ci : Nat) (hty : gTy k = .object C) (hc : vwCl[ci]? = some (C, T, N)) (hci : ci < 10) {v : Nat} (hv0 : (gS g v).1 = ci + 1) {i : Int32} (hin : ¬ (i < 0 ∨ n ≤ i.toNatClampNeg)) (hdg : decode cc pc = .ok (.aastore, 1))
    (kk : ∀ (H1 : Heap) (locs1 : List Loc), gP base D s (gPR g a i.toNatClampNeg (some v)) H1 → va_S (gA base) H0 H1 locs1 → W p l e R s m args below meth c H1 locs1 cells slots Q (F0 m (pc + 1) ls rest)) : W p l e R s m args below meth c H locs cells slots Q (F0 m pc ls (.ref v :: .int i :: .ref a :: rest)) := by
  obtain ⟨cA, x1, x2, x3⟩ := hP.ar hk0 (by omega)
  have hbase : base ≤ a := (hP.2 a).2 (by rw [hk0]; show k ≠ 0; omega)
  have hlt : i.toNatClampNeg < n := Nat.not_le.mp fun q => hin (Or.inr q)
  have h0 : ¬ i < 0 := fun q => hin (Or.inl q)
  obtain ⟨cellV, g1, g2, g3, -⟩ := hP.ob hc hci hv0
  have hcls := (hK.1 ci _ hc).2
  have x2' := x2
  rw [hty] at x2'
  obtain ⟨kA, comp, k1, k2, k3, -⟩ := x2'
  have hcomp : comp = D.1 ci := Option.some.inj (k3.symm.trans hcls.1)
  subst hcomp
  obtain ⟨kC, hkC, -⟩ := hcls.2
  refine W.aast hexec hb x3 (fun q h => by cases h) (fun h => by cases h) k1 k2 rfl hkC ⟨h0, by rw [arrV_size]; exact hlt⟩ g1 (fun q h => by rw [g3] at h; cases h) (by rw [g2]; exact hkC) (by rw [g2]; exact va_assign hcls) rfl rfl hdg fun H1 e z oq => ?_
  exact kk H1 _ (hP.setA (i := i.toNatClampNeg) (g1 := gPR g a i.toNatClampNeg (some v)) hk0 (by omega) x1 x2 rfl rfl (by unfold gAv; rw [if_neg (by omega), if_neg (by omega)]; exact congrArg va_rf gU_s) (fun j hj => ⟨rfl, gU_k hj, rfl⟩) (fun b hb => ⟨rfl, gU_o hb, rfl⟩) e z oq) (hS0.put z oq hbase)
/-- a row of references to rows of ints -/
theorem g_aastA (hexec : p.tables.exec = Jvm.exec) (hb : c.code = cc) (hP : gP base D s g H) (hS0 : va_S (gA base) H0 H locs) {n nv : Nat} (hk0 : gS g a = (14, n)) {v : Nat} (hv0 : gS g v = (11, nv)) (hov : gAOA .int s) {i : Int32} (hin : ¬ (i < 0 ∨ n ≤ i.toNatClampNeg)) (hdg : decode cc pc = .ok (.aastore, 1))
    (kk : ∀ (H1 : Heap) (locs1 : List Loc), gP base D s (gPR g a i.toNatClampNeg (some v)) H1 → va_S (gA base) H0 H1 locs1 → W p l e R s m args below meth c H1 locs1 cells slots Q (F0 m (pc + 1) ls rest)) : W p l e R s m args below meth c H locs cells slots Q (F0 m pc ls (.ref v :: .int i :: .ref a :: rest)) := by
  obtain ⟨cA, x1, x2, x3⟩ := hP.ar hk0 (by omega)
  obtain ⟨cV, y1, y2, y3⟩ := hP.ar hv0 (by omega)
  have hbase : base ≤ a := (hP.2 a).2 (by rw [hk0]; simp)
  have hlt : i.toNatClampNeg < n := Nat.not_le.mp fun q => hin (Or.inr q)
  have h0 : ¬ i < 0 := fun q => hin (Or.inl q)
  obtain ⟨comp, cA2, kA, k3, -, k1, k2, k4⟩ := arrayOverA_spec (gAOA.use (A := args) hov)
  have hcA : cA = cA2 := Option.some.inj ((show s.vm.findClass ("[" ++ (FieldType.array FieldType.int).toString) = some cA from x2).symm.trans k4)
  subst hcA
  have hcV : cV = comp := Option.some.inj ((show s.vm.findClass ("[" ++ FieldType.int.toString) = some cV from y2).symm.trans k3)
  subst hcV
  obtain ⟨-, kV, hkV, cm, hkk⟩ := y1 0 (fun _ => .null)
  refine W.aast hexec hb x3 (fun q h => by cases h) (fun h => by cases h) k1 k2 rfl hkV ⟨h0, by rw [arrV_size]; exact hlt⟩ y3 (fun q h => by cases h) hkV (va_asg s.vm cV) rfl rfl hdg fun H1 e z oq => ?_
  exact kk H1 _ (hP.setA (i := i.toNatClampNeg) (g1 := gPR g a i.toNatClampNeg (some v)) hk0 (by omega) x1 x2 rfl rfl (congrArg va_rf gU_s) (fun j hj => ⟨rfl, gU_k hj, rfl⟩) (fun b hb => ⟨rfl, gU_o hb, rfl⟩) e z oq) (hS0.put z oq hbase)
/-- a new cell at the end of the heap -/
theorem gP.push {kd n : Nat} {r : Nat → Int32} {H1 : Heap} (hP : gP base D s g H) (hbz : base ≤ H.size) (hz : H1.size = H.size + 1) (ho : ∀ q : Nat, q < H.size → H1[q]? = H[q]?) (ha : gAt D s (gN g kd n r) H1 H.size) : gP base D s (gN g kd n r) H1 := by
  have hgz := hP.1
  refine ⟨by show gZ g + 1 = _; rw [hz, hgz], fun b => ?_⟩
  by_cases hb : b = H.size
  · subst hb
    exact ⟨ha, fun _ => hbz⟩
  · have hb2 : b ≠ gZ g := by rw [hgz]; exact hb
    have e0 : gS (gN g kd n r) b = gS g b := if_neg hb2
    rw [e0]
    refine ⟨?_, (hP.2 b).2⟩
    by_cases hk : (gS g b).1 = 0
    · exact ⟨fun h => absurd (by rw [e0]; exact hk) h, fun h => by rw [e0] at h; omega⟩
    · exact (hP.2 b).1.kept e0 (gW_o hb2) (gW_o hb2) (gW_o hb2) (ho b ((hP.2 b).1.lt hk))
theorem gS_gN {kd n : Nat} {r : Nat → Int32} (hz : gZ g = a) : gS (gN g kd n r) a = (kd, n) := if_pos hz.symm
theorem gI_gN {kd n : Nat} {r : Nat → Int32} (hz : gZ g = a) : gI (gN g kd n r) a = r := by subst hz; exact gW_s
theorem gR_gN {kd n : Nat} {r : Nat → Int32} (hz : gZ g = a) : gR (gN g kd n r) a = fun _ => none := by subst hz; exact gW_s
theorem gJ_gN {kd n : Nat} {r : Nat → Int32} (hz : gZ g = a) : gJ (gN g kd n r) a = fun _ => 0 := by subst hz; exact gW_s
theorem gS_push {H1 : Heap} (hS : va_S (gA base) H0 H locs) (hz : H.size ≤ H1.size) (ho : ∀ q : Nat, q < H.size → H1[q]? = H[q]?) : va_S (gA base) H0 H1 locs :=
  ⟨Nat.le_trans hS.1 hz, fun x h1 h2 => (ho x (Nat.lt_of_lt_of_le h1 hS.1)).trans (hS.2.1 x h1 h2), hS.2.2⟩
theorem g_new (hexec : p.tables.exec = Jvm.exec) (hb : c.code = cc) {own C : String} {T : u_T} {N index : Nat} {Ts : List Cond} (hts : ∀ w ∈ Ts, w.before args s = true) (hin : ∀ w ∈ u_ws C T N, w ∈ Ts) (ty : Nat → FieldType) (hty : ∀ k, k < N → parseFieldDescriptor (T k).2.2.1 = some (ty k)) (hown : s.vm.findClass own = some m.cls) (hcl : (Cond.classLink own index C).before args s = true) (hinst : (Cond.instantiable C N).before args s = true) (hini : (Cond.initialized C).before args s = true)
    (hK : va_K D vwCl [] s) (hP : gP base D s g H) (hS : va_S (gA base) H0 H locs) (hbz : base ≤ H0.size) (ci : Nat) (hc : vwCl[ci]? = some (C, T, N)) (hci : ci < 10) (hdf : ∀ j, j < N → defaultValue (ty j) = gFv T j 0 none) (hcells : cells + 1 ≤ R.cells) (hslots : slots + N ≤ R.slots) (hdg : decode cc pc = .ok (.new index, 3))
    (kk : ∀ (H1 : Heap), gP base D s (gN g (ci + 1) 0 (fun _ => 0)) H1 → va_S (gA base) H0 H1 locs → W p l e R s m args below meth c H1 locs (cells + 1) (slots + N) Q (F0 m (pc + 3) ls (.ref (gZ g) :: rest))) : W p l e R s m args below meth c H locs cells slots Q (F0 m pc ls rest) := by
  have hKn := hK.1 ci _ hc
  have hgz := hP.1
  refine W.newcK hexec hb hown hcl hinst hini rfl hdg hcells hslots hKn.2.1 hgz.symm fun H1 kC hkC e1 z1 o1 => ?_
  rw [hgz] at e1 z1 o1
  refine kk H1 (hP.push (Nat.le_trans hbz hS.1) z1 o1 ⟨fun h0 h1 => ?_, fun h1 => ?_⟩) (gS_push hS (by omega) o1)
  · rw [gS_gN hgz, gI_gN hgz, gR_gN hgz]
    exact ⟨_, hc, (u_born ty hts hin hKn hkC e1 hty).to hdf⟩
  · rw [gS_gN hgz] at h1
    exact absurd h1 (by show ¬ 11 ≤ ci + 1; omega)
theorem g_newa (hexec : p.tables.exec = Jvm.exec) (hb : c.code = cc) {atype : ArrayType} (harr : (Cond.arrayClass (newarray.typeOf atype)).before args s = true) (kd : Nat) (hkd : gTy kd = newarray.typeOf atype) (hk11 : 11 ≤ kd) (hdv : defaultValue (newarray.typeOf atype) = gAv kd 0 none 0)
    (hP : gP base D s g H) (hS : va_S (gA base) H0 H locs) (hbz : base ≤ H0.size) {n : Int32} {N' : Nat} (hn : ¬ n < 0) (hN : n.toNatClampNeg = N') (hbytes : N' * componentBytes (newarray.typeOf atype) ≤ 536870912) (hcells : cells + 1 ≤ R.cells) (hslots : slots + N' ≤ R.slots) (hdg : decode cc pc = .ok (.newarray atype, 2))
    (kk : ∀ (H1 : Heap), gP base D s (gN g kd N' (fun _ => 0)) H1 → va_S (gA base) H0 H1 locs → W p l e R s m args below meth c H1 locs (cells + 1) (slots + N') Q (F0 m (pc + 2) ls (.ref (gZ g) :: rest))) : W p l e R s m args below meth c H locs cells slots Q (F0 m pc ls (.int n :: rest)) := by
  have hgz := hP.1
  refine va_newaK hexec hb harr rfl hdg rfl hn hN hbytes hcells hslots hgz.symm fun H1 cA e1 z1 o1 hAr hNm => ?_
  rw [hgz] at e1 z1 o1
  refine kk H1 (hP.push (Nat.le_trans hbz hS.1) z1 o1 ⟨fun h0 h1 => ?_, fun h1 => ?_⟩) (gS_push hS (by omega) o1)
  · rw [gS_gN hgz] at h1
    exact absurd h1 (by show ¬ kd < 11; omega)
  · rw [gS_gN hgz, gI_gN hgz, gR_gN hgz, gJ_gN hgz]
    refine ⟨cA, by rw [hkd]; exact hAr, by rw [hkd]; cases atype <;> exact hNm, ?_⟩
    rw [e1, hdv]
theorem g_newq (hexec : p.tables.exec = Jvm.exec) (hb : c.code = cc) {own C : String} {index : Nat} (hown : s.vm.findClass own = some m.cls) (hclink : (Cond.classLink own index C).before args s = true) (hover : va_AO C s) (kd : Nat) (hkd : gTy kd = .object C) (hk15 : 15 ≤ kd)
    (hP : gP base D s g H) (hS : va_S (gA base) H0 H locs) (hbz : base ≤ H0.size) {n : Int32} {N' : Nat} (hn : ¬ n < 0) (hN : n.toNatClampNeg = N') (hbytes : N' * 4 ≤ 536870912) (hcells : cells + 1 ≤ R.cells) (hslots : slots + N' ≤ R.slots) (hdg : decode cc pc = .ok (.anewarray index, 3))
    (kk : ∀ (H1 : Heap), gP base D s (gN g kd N' (fun _ => 0)) H1 → va_S (gA base) H0 H1 locs → W p l e R s m args below meth c H1 locs (cells + 1) (slots + N') Q (F0 m (pc + 3) ls (.ref (gZ g) :: rest))) : W p l e R s m args below meth c H locs cells slots Q (F0 m pc ls (.int n :: rest)) := by
  subst hN
  have hgz := hP.1
  refine W.anew hexec hb hown hclink (va_AO.use hover) rfl hdg rfl hn hbytes hcells hslots fun cA kA comp f1 f2 f3 f4 => ?_
  generalize hH1 : H.push ({ cls := cA, slots := Array.replicate n.toNatClampNeg .null, vm := .none } : Cell) = H1
  have z1 : H1.size = H.size + 1 := by rw [← hH1, Array.size_push]
  have e1 : H1[H.size]? = some (arrV cA n.toNatClampNeg (fun _ => .null)) := by rw [← hH1, Array.getElem?_push_size, ← arrV_new]
  have o1 : ∀ q : Nat, q < H.size → H1[q]? = H[q]? := fun q hq => by rw [← hH1, Array.getElem?_push, if_neg (Nat.ne_of_lt hq)]
  have hAr : ArrOfT s cA (.object C) := fun N z => ⟨(fun k h => by cases h), kA, f2, comp, f3⟩
  rw [← hgz]
  refine kk H1 (hP.push (Nat.le_trans hbz hS.1) z1 o1 ⟨fun h0 h1 => ?_, fun h1 => ?_⟩) (gS_push hS (by omega) o1)
  · rw [gS_gN hgz] at h1
    exact absurd h1 (by show ¬ kd < 11; omega)
  · rw [gS_gN hgz, gI_gN hgz, gR_gN hgz, gJ_gN hgz]
    refine ⟨cA, by rw [hkd]; exact hAr, by rw [hkd]; exact ⟨kA, comp, f2, f3, f4, f1⟩, ?_⟩
    rw [e1]
    have hav : (fun j : Nat => gAv kd ((fun _ => (0 : Int32)) j) ((fun _ => (none : Option Nat)) j) ((fun _ => (0 : Int64)) j)) = fun _ => Value.null := by
      funext j
      unfold gAv
      rw [if_neg (by omega), if_neg (by omega)]
      rfl
    rw [hav]
theorem g_newqA (hexec : p.tables.exec = Jvm.exec) (hb : c.code = cc) {own : String} {index : Nat} (hown : s.vm.findClass own = some m.cls) (hclink : (Cond.classLink own index (FieldType.array .int).toString).before args s = true) (hover : gAOA .int s)
    (hP : gP base D s g H) (hS : va_S (gA base) H0 H locs) (hbz : base ≤ H0.size) {n : Int32} {N' : Nat} (hn : ¬ n < 0) (hN : n.toNatClampNeg = N') (hbytes : N' * 4 ≤ 536870912) (hcells : cells + 1 ≤ R.cells) (hslots : slots + N' ≤ R.slots) (hdg : decode cc pc = .ok (.anewarray index, 3))
    (kk : ∀ (H1 : Heap), gP base D s (gN g 14 N' (fun _ => 0)) H1 → va_S (gA base) H0 H1 locs → W p l e R s m args below meth c H1 locs (cells + 1) (slots + N') Q (F0 m (pc + 3) ls (.ref (gZ g) :: rest))) : W p l e R s m args below meth c H locs cells slots Q (F0 m pc ls (.int n :: rest)) := by
  subst hN
  have hgz := hP.1
  refine W.anewA hexec hb hown hclink (gAOA.use hover) rfl hdg rfl hn hbytes hcells hslots fun cA kA comp f1 f2 f3 f4 => ?_
  generalize hH1 : H.push ({ cls := cA, slots := Array.replicate n.toNatClampNeg .null, vm := .none } : Cell) = H1
  have z1 : H1.size = H.size + 1 := by rw [← hH1, Array.size_push]
  have e1 : H1[H.size]? = some (arrV cA n.toNatClampNeg (fun _ => .null)) := by rw [← hH1, Array.getElem?_push_size, ← arrV_new]
  have o1 : ∀ q : Nat, q < H.size → H1[q]? = H[q]? := fun q hq => by rw [← hH1, Array.getElem?_push, if_neg (Nat.ne_of_lt hq)]
  have hAr : ArrOfT s cA (.array .int) := fun N z => ⟨(fun k h => by cases h), kA, f2, comp, f3⟩
  rw [← hgz]
  refine kk H1 (hP.push (Nat.le_trans hbz hS.1) z1 o1 ⟨fun h0 h1 => ?_, fun h1 => ?_⟩) (gS_push hS (by omega) o1)
  · rw [gS_gN hgz] at h1
    exact absurd h1 (by simp)
  · rw [gS_gN hgz, gI_gN hgz, gR_gN hgz, gJ_gN hgz]
    exact ⟨cA, hAr, f1, e1⟩
end GROWS
