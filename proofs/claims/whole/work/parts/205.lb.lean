section
/-! THE LAW: what its loop keeps; a call of both inside it -/
def LI (a0 : Nat) (g : g_H) (Q : Nat) : Prop := ∃ s n1 n2 n3 n4 q, ClI a0 g s n1 n2 n3 n4 q ∧ MX (a0 + 153) g s n1 n2 n3 n4 ∧ q ≤ Q ∧ gS g (a0 + 162) = (13, 1) ∧ a0 + 163 ≤ gZ g
theorem OpR.law {a0 n1 n2 n3 n4 q Q : Nat} {g : g_H} {s : Sg} {cls : Option ((Nat × Int32) × g_H)} {mdl : g_H → Option (Int32 × g_H)} {cm : Nat → Nat} (m : MX (a0 + 153) g s n1 n2 n3 n4) (hq : q ≤ Q) (hS : gS g (a0 + 162) = (13, 1)) (hz : a0 + 163 ≤ gZ g) (op : OpR a0 g s n1 n2 n3 n4 q cls mdl cm) (h0 : cm 0 = 0) :
    ∃ o g1, cls = some (o, g1) ∧ o.1 ≤ 3 ∧ gS g1 (a0 + 162) = (13, 1) ∧ ∀ w r g', hp cm g g1 (a0 + 162) o.1 w r g' → r = nI (cm o.1) ∧ (gS g' (a0 + 153)).1 = 8 ∧ ∃ v' g2, mdl g' = some (v', g2) ∧ (gS g2 (a0 + 153)).1 = 8 ∧ gI g2 (a0 + 153) 0 = nI (cm o.1) ∧ gS g2 (a0 + 162) = (13, 1) ∧ (o.1 = 0 → v' = o.2 ∧ gJ g2 (a0 + 162) 0 = w) ∧ LI a0 g2 (Q + 240) := by
  obtain ⟨code, v, g1, s1, m1, m2, m3, m4, q', h1, h3, fc, I1, hq', hm⟩ := op
  have hS1 : gS g1 (a0 + 162) = (13, 1) := by rw [fc.2.1]; exact hS
  refine ⟨(code, v), g1, h1, h3, hS1, fun w r g' h => ?_⟩
  have hg : gS g' = gS g1 ∧ gI g' = gI g1 ∧ gR g' = gR g1 ∧ gZ g ≤ gZ g' ∧ r = nI (cm code) ∧ (code = 0 → gJ g' (a0 + 162) 0 = w) := by
    rcases h with ⟨e, er, eg⟩ | ⟨e, er, z, ez, eg⟩
    · rw [eg]
      have e : code = 0 := e
      exact ⟨rfl, rfl, rfl, Nat.le_of_eq fc.1.symm, by rw [er, e, h0]; rfl, fun _ => gU_s⟩
    · rw [eg]
      exact ⟨rfl, rfl, rfl, ez, er, fun q => absurd q e⟩
  obtain ⟨e1, e2, e3, e4, e5, e6⟩ := hg
  have mg : MX (a0 + 153) g' s n1 n2 n3 n4 := m.ag fun a x1 x2 => ⟨by rw [e1, fc.2.1], by rw [e3, (fc.2.2.2 a (by omega)).2], by rw [e2, (fc.2.2.2 a (by omega)).1]⟩
  have I1' : ClI a0 g' s1 m1 m2 m3 m4 q' := I1.ag fun a _ _ => ⟨by rw [e1], by rw [e3], by rw [e2]⟩
  obtain ⟨v', g2, y1, y2, y3, y4, y5⟩ := hm g' mg (by omega)
  have hS2 : gS g2 (a0 + 162) = (13, 1) := by rw [(y2.2 (a0 + 162) (by omega)).1, e1]; exact hS1
  refine ⟨e5, mg.1.1, v', g2, y1, y3.1.1, y4, hS2, fun e => ⟨y5 e, by rw [(y2.2 (a0 + 162) (by omega)).2.1]; exact e6 e⟩, s1, m1, m2, m3, m4, q', I1'.ag (fun a x1 x2 => ?_), y3, by omega, hS2, Nat.le_trans (by omega) y2.1⟩
  obtain ⟨u1, u2, u3, u4⟩ := y2.2 a (by omega)
  exact ⟨u1, u3, u4 (by omega)⟩
theorem LI.mean {a0 Q : Nat} {g : g_H} (h : LI a0 g Q) (hG : gdD) (hE : gdE) : (gS g a0).1 = 7 ∧ (gS g (a0 + 153)).1 = 8 ∧ ∃ v g2, f6_mean g a0 = some (v, g) ∧ f7_mean g (a0 + 153) = some (v, g2) ∧ LI a0 g2 Q := by
  obtain ⟨s, n1, n2, n3, n4, q, I, m, hq, hS, hz⟩ := h
  obtain ⟨x1, x2⟩ := o_mean I hG hE
  exact ⟨I.sh.1, m.1.1, _, _, x1, x2 g m, s, n1, n2, n3, n4, q, I.ag (fun a h1 h2 => ⟨rfl, rfl, gU_o (by omega)⟩), m.thr, hq, hS, hz⟩
theorem LI.digest {a0 Q : Nat} {g : g_H} (h : LI a0 g Q) : (gS g a0).1 = 7 ∧ (gS g (a0 + 153)).1 = 8 ∧ ∃ v g2, f6_digest g a0 = some (v, g) ∧ f7_digest g (a0 + 153) = some (v, g2) ∧ LI a0 g2 Q := by
  obtain ⟨s, n1, n2, n3, n4, q, I, m, hq, hS, hz⟩ := h
  obtain ⟨g2, y1, y2, y3⟩ := m_digest I.1.1 m (by omega)
  refine ⟨I.sh.1, m.1.1, _, g2, p_digest I, y1, s, n1, n2, n3, n4, q, I.ag (fun a h1 h2 => ?_), y3, hq, by rw [(y2.2 (a0 + 162) (by omega)).1]; exact hS, Nat.le_trans hz y2.1⟩
  obtain ⟨u1, u2, u3, u4⟩ := y2.2 a (by omega)
  exact ⟨u1, u3, u4 (by omega)⟩
/-! which codes a call can have -/
def Okc (P : Nat → Prop) (x : Option ((Nat × Int32) × g_H)) : Prop := ∀ o g, x = some (o, g) → P o.1
theorem Okc.none {P : Nat → Prop} : Okc P none := fun _ _ h => nomatch h
theorem Okc.some {P : Nat → Prop} {o : Nat × Int32} {g : g_H} (h : P o.1) : Okc P (some (o, g)) := fun _ _ e => by cases e; exact h
theorem Okc.ite {P : Nat → Prop} {c : Prop} {i : Decidable c} {x y : Option ((Nat × Int32) × g_H)} (hx : Okc P x) (hy : Okc P y) : Okc P (@ite _ c i x y) := by
  by_cases h : c
  · rw [if_pos h]; exact hx
  · rw [if_neg h]; exact hy
theorem Okc.bind {P : Nat → Prop} {α : Type} {x : Option α} {f : α → Option ((Nat × Int32) × g_H)} (h : ∀ q, Okc P (f q)) : Okc P (x.bind f) := by
  cases x with
  | none => exact Okc.none
  | some q => exact h q
theorem Okc.b2 {P : Nat → Prop} {α : Type} {x : Option (α × g_H)} {k : α → g_H → Option ((Nat × Int32) × g_H)} (h : ∀ v g, x = Option.some (v, g) → Okc P (k v g)) : Okc P (gB2 x k) := by
  cases x with
  | none => exact Okc.none
  | some q => exact h q.1 q.2 rfl
theorem Okc.lt {P : Nat → Prop} {α : Type} {x : α} {k : α → Option ((Nat × Int32) × g_H)} (h : Okc P (k x)) : Okc P (gLt x k) := h
theorem Okc.of {P : Nat → Prop} {x : Option ((Nat × Int32) × g_H)} {o : Nat × Int32} {g : g_H} (h : Okc P x) (e : x = Option.some (o, g)) : P o.1 := h o g e
abbrev P1 (k : Nat) : Prop := k = 0 ∨ k = 1
abbrev P2 (k : Nat) : Prop := k = 0 ∨ k = 2
abbrev P3 (k : Nat) : Prop := k = 0 ∨ k = 3
abbrev P13 (k : Nat) : Prop := k = 0 ∨ k = 1 ∨ k = 3
abbrev P12 (k : Nat) : Prop := k = 0 ∨ k = 1 ∨ k = 2
abbrev P23 (k : Nat) : Prop := k = 0 ∨ k = 2 ∨ k = 3
abbrev P123 (k : Nat) : Prop := k = 0 ∨ k = 1 ∨ k = 2 ∨ k = 3
theorem kc_house {g : g_H} {a : Nat} {x : Int32} : Okc P1 (f6_checkHouse g a x) := by
  unfold f6_checkHouse
  repeat' first | exact Okc.none | exact Okc.some (Or.inl rfl) | exact Okc.some (Or.inr rfl) | refine Okc.ite ?_ ?_ | refine Okc.b2 fun _ _ _ => ?_ | refine Okc.bind fun _ => ?_ | refine Okc.lt ?_
theorem kc_bee {g : g_H} {a : Nat} {x : Int32} : Okc P1 (f6_checkBee g a x) := by
  unfold f6_checkBee
  try unfold f6_checkBee_15
  repeat' first | exact Okc.none | exact Okc.some (Or.inl rfl) | exact Okc.some (Or.inr rfl) | refine Okc.ite ?_ ?_ | refine Okc.b2 fun _ _ _ => ?_ | refine Okc.bind fun _ => ?_ | refine Okc.lt ?_
end
section
/-! which codes a call can have (printed by genkc.py) -/
theorem Okc.some2 {P : Nat → Prop} {k : Nat} {v : Int32} {g : g_H} (h : P k) : Okc P (Option.some ((k, v), g)) := fun _ _ e => by cases e; exact h
theorem P1.toP123 {k : Nat} (h : P1 k) : P123 k := h.elim Or.inl fun h => Or.inr (Or.inl h)
theorem P1.toP12 {k : Nat} (h : P1 k) : P12 k := h.elim Or.inl fun h => Or.inr (Or.inl h)
theorem P1.toP13 {k : Nat} (h : P1 k) : P13 k := h.elim Or.inl fun h => Or.inr (Or.inl h)
theorem P2.toP123 {k : Nat} (h : P2 k) : P123 k := h.elim Or.inl fun h => Or.inr (Or.inr (Or.inl h))
theorem P2.toP23 {k : Nat} (h : P2 k) : P23 k := h.elim Or.inl fun h => Or.inr (Or.inl h)
theorem kc_letter {g : g_H} {a : Nat} {x0 : Int32} : Okc P1 (f6_checkLetter g a x0) := by
  unfold f6_checkLetter f6_checkLetter_15
  repeat' first | with_reducible refine Okc.ite ?_ ?_ | with_reducible refine Okc.b2 fun _ _ _ => ?_ | with_reducible refine Okc.bind fun _ => ?_ | with_reducible refine Okc.lt ?_ | with_reducible exact Okc.none | exact Okc.some (Or.inl rfl) | exact Okc.some (Or.inr rfl) | exact Okc.some (Or.inr (Or.inl rfl)) | exact Okc.some (Or.inr (Or.inr rfl)) | exact Okc.some (Or.inr (Or.inr (Or.inl rfl))) | exact Okc.some (Or.inr (Or.inr (Or.inr rfl)))
theorem kc_what {g : g_H} {x0 x1 : Int32} : Okc P1 (f6_checkWhat g x0 x1) := by
  unfold f6_checkWhat f6_checkWhat_9
  repeat' first | with_reducible refine Okc.ite ?_ ?_ | with_reducible refine Okc.b2 fun _ _ _ => ?_ | with_reducible refine Okc.bind fun _ => ?_ | with_reducible refine Okc.lt ?_ | with_reducible exact Okc.none | exact Okc.some (Or.inl rfl) | exact Okc.some (Or.inr rfl) | exact Okc.some (Or.inr (Or.inl rfl)) | exact Okc.some (Or.inr (Or.inr rfl)) | exact Okc.some (Or.inr (Or.inr (Or.inl rfl))) | exact Okc.some (Or.inr (Or.inr (Or.inr rfl)))
theorem kc_route {g : g_H} {a : Nat} {x0 : Int32} : Okc P2 (f6_checkRoute g a x0) := by
  unfold f6_checkRoute
  repeat' first | with_reducible refine Okc.ite ?_ ?_ | with_reducible refine Okc.b2 fun _ _ _ => ?_ | with_reducible refine Okc.bind fun _ => ?_ | with_reducible refine Okc.lt ?_ | with_reducible exact Okc.none | exact Okc.some (Or.inl rfl) | exact Okc.some (Or.inr rfl) | exact Okc.some (Or.inr (Or.inl rfl)) | exact Okc.some (Or.inr (Or.inr rfl)) | exact Okc.some (Or.inr (Or.inr (Or.inl rfl))) | exact Okc.some (Or.inr (Or.inr (Or.inr rfl)))
theorem kc_addHouse {g : g_H} {a : Nat} : Okc P3 (f6_addHouse g a) := by
  unfold f6_addHouse
  repeat' first | with_reducible refine Okc.ite ?_ ?_ | with_reducible refine Okc.b2 fun _ _ _ => ?_ | with_reducible refine Okc.bind fun _ => ?_ | with_reducible refine Okc.lt ?_ | with_reducible exact Okc.none | exact Okc.some (Or.inl rfl) | exact Okc.some (Or.inr rfl) | exact Okc.some (Or.inr (Or.inl rfl)) | exact Okc.some (Or.inr (Or.inr rfl)) | exact Okc.some (Or.inr (Or.inr (Or.inl rfl))) | exact Okc.some (Or.inr (Or.inr (Or.inr rfl)))
theorem kc_setHive {g : g_H} {a : Nat} {x0 : Int32} {x1 : Int32} : Okc P1 (f6_setHive g a x0 x1) := by
  unfold f6_setHive
  repeat' first | with_reducible refine Okc.ite ?_ ?_ | with_reducible refine Okc.b2 fun _ _ _ => ?_ | with_reducible refine Okc.bind fun _ => ?_ | with_reducible refine Okc.lt ?_ | with_reducible exact Okc.none | exact Okc.some2 (Okc.of kc_house (by assumption)) | exact Okc.some (Or.inl rfl) | exact Okc.some (Or.inr rfl) | exact Okc.some (Or.inr (Or.inl rfl)) | exact Okc.some (Or.inr (Or.inr rfl)) | exact Okc.some (Or.inr (Or.inr (Or.inl rfl))) | exact Okc.some (Or.inr (Or.inr (Or.inr rfl)))
theorem kc_addLane {g : g_H} {a : Nat} {x0 : Int32} {x1 : Int32} {x2 : Int32} : Okc P123 (f6_addLane g a x0 x1 x2) := by
  unfold f6_addLane f6_addLane_26 f6_addLane_58
  repeat' first | with_reducible refine Okc.ite ?_ ?_ | with_reducible refine Okc.b2 fun _ _ _ => ?_ | with_reducible refine Okc.bind fun _ => ?_ | with_reducible refine Okc.lt ?_ | with_reducible exact Okc.none | exact Okc.some2 (P1.toP123 (Okc.of kc_house (by assumption))) | exact Okc.some (Or.inl rfl) | exact Okc.some (Or.inr rfl) | exact Okc.some (Or.inr (Or.inl rfl)) | exact Okc.some (Or.inr (Or.inr rfl)) | exact Okc.some (Or.inr (Or.inr (Or.inl rfl))) | exact Okc.some (Or.inr (Or.inr (Or.inr rfl)))
theorem kc_setGate {g : g_H} {a : Nat} {x0 : Int32} {x1 : Int32} {x2 : Int32} : Okc P12 (f6_setGate g a x0 x1 x2) := by
  unfold f6_setGate f6_setGate_42
  repeat' first | with_reducible refine Okc.ite ?_ ?_ | with_reducible refine Okc.b2 fun _ _ _ => ?_ | with_reducible refine Okc.bind fun _ => ?_ | with_reducible refine Okc.lt ?_ | with_reducible exact Okc.none | exact Okc.some (Or.inl rfl) | exact Okc.some (Or.inr rfl) | exact Okc.some (Or.inr (Or.inl rfl)) | exact Okc.some (Or.inr (Or.inr rfl)) | exact Okc.some (Or.inr (Or.inr (Or.inl rfl))) | exact Okc.some (Or.inr (Or.inr (Or.inr rfl)))
theorem kc_way {g : g_H} {a : Nat} {x0 : Int32} {x1 : Int32} : Okc P1 (f6_way g a x0 x1) := by
  unfold f6_way
  repeat' first | with_reducible refine Okc.ite ?_ ?_ | with_reducible refine Okc.b2 fun _ _ _ => ?_ | with_reducible refine Okc.bind fun _ => ?_ | with_reducible refine Okc.lt ?_ | with_reducible exact Okc.none | exact Okc.some2 (Okc.of kc_house (by assumption)) | exact Okc.some (Or.inl rfl) | exact Okc.some (Or.inr rfl) | exact Okc.some (Or.inr (Or.inl rfl)) | exact Okc.some (Or.inr (Or.inr rfl)) | exact Okc.some (Or.inr (Or.inr (Or.inl rfl))) | exact Okc.some (Or.inr (Or.inr (Or.inr rfl)))
theorem kc_addBee {g : g_H} {a : Nat} {x0 : Int32} : Okc P23 (f6_addBee g a x0) := by
  unfold f6_addBee
  repeat' first | with_reducible refine Okc.ite ?_ ?_ | with_reducible refine Okc.b2 fun _ _ _ => ?_ | with_reducible refine Okc.bind fun _ => ?_ | with_reducible refine Okc.lt ?_ | with_reducible exact Okc.none | exact Okc.some2 (P2.toP23 (Okc.of kc_route (by assumption))) | exact Okc.some (Or.inl rfl) | exact Okc.some (Or.inr rfl) | exact Okc.some (Or.inr (Or.inl rfl)) | exact Okc.some (Or.inr (Or.inr rfl)) | exact Okc.some (Or.inr (Or.inr (Or.inl rfl))) | exact Okc.some (Or.inr (Or.inr (Or.inr rfl)))
theorem kc_swear {g : g_H} {a : Nat} {x0 : Int32} {x1 : Int32} : Okc P123 (f6_swear g a x0 x1) := by
  unfold f6_swear f6_swear_46
  repeat' first | with_reducible refine Okc.ite ?_ ?_ | with_reducible refine Okc.b2 fun _ _ _ => ?_ | with_reducible refine Okc.bind fun _ => ?_ | with_reducible refine Okc.lt ?_ | with_reducible exact Okc.none | exact Okc.some2 (P1.toP123 (Okc.of kc_bee (by assumption))) | exact Okc.some2 (P2.toP123 (Okc.of kc_route (by assumption))) | exact Okc.some (Or.inl rfl) | exact Okc.some (Or.inr rfl) | exact Okc.some (Or.inr (Or.inl rfl)) | exact Okc.some (Or.inr (Or.inr rfl)) | exact Okc.some (Or.inr (Or.inr (Or.inl rfl))) | exact Okc.some (Or.inr (Or.inr (Or.inr rfl)))
theorem kc_write {g : g_H} {a : Nat} {x0 : Int32} {x1 : Int32} : Okc P123 (f6_write g a x0 x1) := by
  unfold f6_write
  repeat' first | with_reducible refine Okc.ite ?_ ?_ | with_reducible refine Okc.b2 fun _ _ _ => ?_ | with_reducible refine Okc.bind fun _ => ?_ | with_reducible refine Okc.lt ?_ | with_reducible exact Okc.none | exact Okc.some2 (P1.toP123 (Okc.of kc_house (by assumption))) | exact Okc.some (Or.inl rfl) | exact Okc.some (Or.inr rfl) | exact Okc.some (Or.inr (Or.inl rfl)) | exact Okc.some (Or.inr (Or.inr rfl)) | exact Okc.some (Or.inr (Or.inr (Or.inl rfl))) | exact Okc.some (Or.inr (Or.inr (Or.inr rfl)))
theorem kc_bribe {g : g_H} {a : Nat} {x0 : Int32} {x1 : Int32} : Okc P13 (f6_bribe g a x0 x1) := by
  unfold f6_bribe f6_bribe_58 f6_bribe_81
  repeat' first | with_reducible refine Okc.ite ?_ ?_ | with_reducible refine Okc.b2 fun _ _ _ => ?_ | with_reducible refine Okc.bind fun _ => ?_ | with_reducible refine Okc.lt ?_ | with_reducible exact Okc.none | exact Okc.some2 (P1.toP13 (Okc.of kc_bee (by assumption))) | exact Okc.some2 (P1.toP13 (Okc.of kc_letter (by assumption))) | exact Okc.some (Or.inl rfl) | exact Okc.some (Or.inr rfl) | exact Okc.some (Or.inr (Or.inl rfl)) | exact Okc.some (Or.inr (Or.inr rfl)) | exact Okc.some (Or.inr (Or.inr (Or.inl rfl))) | exact Okc.some (Or.inr (Or.inr (Or.inr rfl)))
theorem kc_beeT {g : g_H} {a : Nat} {x0 : Int32} {x1 : Int32} : Okc P1 (f6_bee g a x0 x1) := by
  unfold f6_bee
  repeat' first | with_reducible refine Okc.ite ?_ ?_ | with_reducible refine Okc.b2 fun _ _ _ => ?_ | with_reducible refine Okc.bind fun _ => ?_ | with_reducible refine Okc.lt ?_ | with_reducible exact Okc.none | exact Okc.some2 (Okc.of kc_bee (by assumption)) | exact Okc.some2 (Okc.of kc_what (by assumption)) | exact Okc.some (Or.inl rfl) | exact Okc.some (Or.inr rfl) | exact Okc.some (Or.inr (Or.inl rfl)) | exact Okc.some (Or.inr (Or.inr rfl)) | exact Okc.some (Or.inr (Or.inr (Or.inl rfl))) | exact Okc.some (Or.inr (Or.inr (Or.inr rfl)))
theorem kc_letterT {g : g_H} {a : Nat} {x0 : Int32} {x1 : Int32} : Okc P1 (f6_letter g a x0 x1) := by
  unfold f6_letter
  repeat' first | with_reducible refine Okc.ite ?_ ?_ | with_reducible refine Okc.b2 fun _ _ _ => ?_ | with_reducible refine Okc.bind fun _ => ?_ | with_reducible refine Okc.lt ?_ | with_reducible exact Okc.none | exact Okc.some2 (Okc.of kc_letter (by assumption)) | exact Okc.some2 (Okc.of kc_what (by assumption)) | exact Okc.some (Or.inl rfl) | exact Okc.some (Or.inr rfl) | exact Okc.some (Or.inr (Or.inl rfl)) | exact Okc.some (Or.inr (Or.inr rfl)) | exact Okc.some (Or.inr (Or.inr (Or.inl rfl))) | exact Okc.some (Or.inr (Or.inr (Or.inr rfl)))
theorem kc_target {g : g_H} {a : Nat} {x0 : Int32} {x1 : Int32} : Okc P1 (f6_target g a x0 x1) := by
  unfold f6_target
  repeat' first | with_reducible refine Okc.ite ?_ ?_ | with_reducible refine Okc.b2 fun _ _ _ => ?_ | with_reducible refine Okc.bind fun _ => ?_ | with_reducible refine Okc.lt ?_ | with_reducible exact Okc.none | exact Okc.some2 (Okc.of kc_bee (by assumption)) | exact Okc.some2 (Okc.of kc_house (by assumption)) | exact Okc.some (Or.inl rfl) | exact Okc.some (Or.inr rfl) | exact Okc.some (Or.inr (Or.inl rfl)) | exact Okc.some (Or.inr (Or.inr rfl)) | exact Okc.some (Or.inr (Or.inr (Or.inl rfl))) | exact Okc.some (Or.inr (Or.inr (Or.inr rfl)))
theorem kc_pass {g : g_H} {a : Nat} {x0 : Int32} : Okc P2 (f6_pass g a x0) := by
  unfold f6_pass f6_pass_12
  repeat' first | with_reducible refine Okc.ite ?_ ?_ | with_reducible refine Okc.b2 fun _ _ _ => ?_ | with_reducible refine Okc.bind fun _ => ?_ | with_reducible refine Okc.lt ?_ | with_reducible exact Okc.none | exact Okc.some (Or.inl rfl) | exact Okc.some (Or.inr rfl) | exact Okc.some (Or.inr (Or.inl rfl)) | exact Okc.some (Or.inr (Or.inr rfl)) | exact Okc.some (Or.inr (Or.inr (Or.inl rfl))) | exact Okc.some (Or.inr (Or.inr (Or.inr rfl)))
theorem kc_count {g : g_H} {a : Nat} {x0 : Int32} : Okc P1 (f6_count g a x0) := by
  unfold f6_count
  repeat' first | with_reducible refine Okc.ite ?_ ?_ | with_reducible refine Okc.b2 fun _ _ _ => ?_ | with_reducible refine Okc.bind fun _ => ?_ | with_reducible refine Okc.lt ?_ | with_reducible exact Okc.none | exact Okc.some2 (Okc.of kc_what (by assumption)) | exact Okc.some (Or.inl rfl) | exact Okc.some (Or.inr rfl) | exact Okc.some (Or.inr (Or.inl rfl)) | exact Okc.some (Or.inr (Or.inr rfl)) | exact Okc.some (Or.inr (Or.inr (Or.inl rfl))) | exact Okc.some (Or.inr (Or.inr (Or.inr rfl)))
theorem kc_comes28 : ∀ (n : Nat) (g : g_H) (a b : Nat) (x : Int32), Okc P1 (f6_comes_28 n g a b x) := by
  intro n
  induction n with
  | zero => intro g a b x; exact Okc.none
  | succ n ih =>
    intro g a b x
    show Okc P1 (f6_comes_28b (f6_comes_28 n) g a b x)
    unfold f6_comes_28b
    repeat' first | with_reducible exact ih _ _ _ _ | with_reducible refine Okc.ite ?_ ?_ | with_reducible refine Okc.b2 fun _ _ _ => ?_ | with_reducible refine Okc.bind fun _ => ?_ | with_reducible refine Okc.lt ?_ | with_reducible exact Okc.none | exact Okc.some (Or.inl rfl) | exact Okc.some (Or.inr rfl) | exact Okc.some (Or.inr (Or.inl rfl)) | exact Okc.some (Or.inr (Or.inr rfl)) | exact Okc.some (Or.inr (Or.inr (Or.inl rfl))) | exact Okc.some (Or.inr (Or.inr (Or.inr rfl)))
theorem kc_comes {g : g_H} {a : Nat} {x0 : Int32} : Okc P1 (f6_comes g a x0) := by
  unfold f6_comes
  repeat' first | with_reducible exact kc_comes28 _ _ _ _ _ | with_reducible refine Okc.ite ?_ ?_ | with_reducible refine Okc.b2 fun _ _ _ => ?_ | with_reducible refine Okc.bind fun _ => ?_ | with_reducible refine Okc.lt ?_ | with_reducible exact Okc.none | exact Okc.some2 (Okc.of kc_letter (by assumption)) | exact Okc.some (Or.inl rfl) | exact Okc.some (Or.inr rfl) | exact Okc.some (Or.inr (Or.inl rfl)) | exact Okc.some (Or.inr (Or.inr rfl)) | exact Okc.some (Or.inr (Or.inr (Or.inl rfl))) | exact Okc.some (Or.inr (Or.inr (Or.inr rfl)))
theorem kc_advise33 : ∀ (n : Nat) (g : g_H) (a : Nat) (x y z w : Int32), Okc P2 (f6_advise_33 n g a x y z w) := by
  intro n
  induction n with
  | zero => intro g a x y z w; exact Okc.none
  | succ n ih =>
    intro g a x y z w
    show Okc P2 (f6_advise_33b (f6_advise_33 n) g a x y z w)
    unfold f6_advise_33b f6_advise_82
    repeat' first | with_reducible exact ih _ _ _ _ _ _ | with_reducible refine Okc.ite ?_ ?_ | with_reducible refine Okc.b2 fun _ _ _ => ?_ | with_reducible refine Okc.bind fun _ => ?_ | with_reducible refine Okc.lt ?_ | with_reducible exact Okc.none | exact Okc.some (Or.inl rfl) | exact Okc.some (Or.inr rfl) | exact Okc.some (Or.inr (Or.inl rfl)) | exact Okc.some (Or.inr (Or.inr rfl)) | exact Okc.some (Or.inr (Or.inr (Or.inl rfl))) | exact Okc.some (Or.inr (Or.inr (Or.inr rfl)))
theorem kc_advise {g : g_H} {a : Nat} {x0 : Int32} : Okc P2 (f6_advise g a x0) := by
  unfold f6_advise f6_advise_11
  repeat' first | with_reducible exact kc_advise33 _ _ _ _ _ _ _ | with_reducible refine Okc.ite ?_ ?_ | with_reducible refine Okc.b2 fun _ _ _ => ?_ | with_reducible refine Okc.bind fun _ => ?_ | with_reducible refine Okc.lt ?_ | with_reducible exact Okc.none | exact Okc.some (Or.inl rfl) | exact Okc.some (Or.inr rfl) | exact Okc.some (Or.inr (Or.inl rfl)) | exact Okc.some (Or.inr (Or.inr rfl)) | exact Okc.some (Or.inr (Or.inr (Or.inl rfl))) | exact Okc.some (Or.inr (Or.inr (Or.inr rfl)))
theorem kc_trusted17 : ∀ (n : Nat) (g : g_H) (a : Nat) (x y z w v : Int32), Okc P1 (f6_trusted_17 n g a x y z w v) := by
  intro n
  induction n with
  | zero => intro g a x y z w v; exact Okc.none
  | succ n ih =>
    intro g a x y z w v
    show Okc P1 (f6_trusted_17b (f6_trusted_17 n) g a x y z w v)
    unfold f6_trusted_17b f6_trusted_87 f6_trusted_100
    repeat' first | with_reducible exact ih _ _ _ _ _ _ _ | with_reducible refine Okc.ite ?_ ?_ | with_reducible refine Okc.b2 fun _ _ _ => ?_ | with_reducible refine Okc.bind fun _ => ?_ | with_reducible refine Okc.lt ?_ | with_reducible exact Okc.none | exact Okc.some (Or.inl rfl) | exact Okc.some (Or.inr rfl) | exact Okc.some (Or.inr (Or.inl rfl)) | exact Okc.some (Or.inr (Or.inr rfl)) | exact Okc.some (Or.inr (Or.inr (Or.inl rfl))) | exact Okc.some (Or.inr (Or.inr (Or.inr rfl)))
theorem kc_trusted {g : g_H} {a : Nat} {x0 : Int32} : Okc P1 (f6_trusted g a x0) := by
  unfold f6_trusted
  repeat' first | with_reducible exact kc_trusted17 _ _ _ _ _ _ _ _ | with_reducible refine Okc.ite ?_ ?_ | with_reducible refine Okc.b2 fun _ _ _ => ?_ | with_reducible refine Okc.bind fun _ => ?_ | with_reducible refine Okc.lt ?_ | with_reducible exact Okc.none | exact Okc.some2 (Okc.of kc_house (by assumption)) | exact Okc.some (Or.inl rfl) | exact Okc.some (Or.inr rfl) | exact Okc.some (Or.inr (Or.inl rfl)) | exact Okc.some (Or.inr (Or.inr rfl)) | exact Okc.some (Or.inr (Or.inr (Or.inl rfl))) | exact Okc.some (Or.inr (Or.inr (Or.inr rfl)))
end
section
/-! THE LAW: rows of several instructions -/
theorem lg_cmp_self (x : Int64) : lg_cmp x x = 0 := by
  unfold lg_cmp
  rw [if_neg (by exact Int64.lt_irrefl), if_pos rfl]
/-- what holds all along the law -/
def LE (p : Program) (l : Launch) (s : State) (m : MethodId) (c : Code) (b L : Nat) (xs : Nat → Int32) (D : va_G) (base : Nat) : Prop :=
  p.tables.exec = Jvm.exec ∧ c.code = cL_law ∧ c.maxLocals = 9 ∧ s.vm.findClass RL = some m.cls ∧ (∀ w ∈ wsL_law, w.before #[Value.ref b] s = true) ∧ gE base D s s.heap ∧ va_X b L xs s s.heap ∧ b < s.heap.size ∧ b < base ∧ l.stackTraces = false ∧ L ≤ 2048
section GLR
variable {p : Program} {l : Launch} {e : Env} {s : State} {m : MethodId} {below : List Frame} {meth : Method} {c : Code} {H : Heap} {locs : List Loc} {cells slots : Nat} {Q : State → Prop}
variable {pc : Nat} {ls : Array Slot} {rest : List Value} {D : va_G} {base b L : Nat} {xs : Nat → Int32} {g g2 : g_H}
/-- the script's int at 4 i + j -/
theorem g_arg (E : LE p l s m c b L xs D base) (hS : va_S (gA base) s.heap H locs) {i j : Nat} {n : Int} (hi : 4 * i + j < L) (h0 : ls[0]? = some (.val (.ref b))) (h4 : ls[4]? = some (.val (.int (nI (4 * i)))))
    (d0 : decode cL_law pc = .ok (.aload_n 0, 1)) (d1 : decode cL_law (pc + 1) = .ok (.iload 4, 2)) (d3 : decode cL_law (pc + 3) = .ok (.iconst n, 1)) (hn : Int32.ofInt n = nI j) (d4 : decode cL_law (pc + 4) = .ok (.iadd, 1)) (d5 : decode cL_law (pc + 5) = .ok (.iaload, 1))
    (kk : W p l e room_1 s m #[Value.ref b] below meth c H locs cells slots Q (F0 m (pc + 6) ls (.int (xs (4 * i + j)) :: rest))) : W p l e room_1 s m #[Value.ref b] below meth c H locs cells slots Q (F0 m pc ls rest) := by
  obtain ⟨hx, hb, hml, hown, hts, hE, hX, hbl, hbb, hst, hL⟩ := E
  have e1 : nI (4 * i) + nI j = nI (4 * i + j) := nI_add _ _
  have c1 : Int32.toNatClampNeg (nI (4 * i + j)) = 4 * i + j := cl_nI (by omega)
  refine lv_aload_n hx hb d0 rfl h0 ?_
  refine lv_iload hx hb d1 h4 ?_
  refine lv_iconst (v := nI j) hx hb d3 hn ?_
  refine lv_iadd hx hb d4 ?_
  rw [e1]
  refine va_sld hx hb hX hbl (show ¬ gA base b from fun q => by have q : base ≤ b := q; omega) hS (show vp_in (nI (4 * i + j)) L from ixOk hi (by omega)) d5 ?_
  rw [c1]
  exact kk
/-- behind both calls: what each threw, then what each answered -/
theorem g_tail (E : LE p l s m c b L xs D base) (hP : gP base D s g2 H) (hS : va_S (gA base) s.heap H locs) {a0 : Nat} {r v : Int32} {off : Int} {q t15 : Nat} (hk : (gS g2 (a0 + 153)).1 = 8) (hr : gI g2 (a0 + 153) 0 = r)
    (hl : lv_has ls 9 ((5, .int r) :: [(0, .ref b), (1, .ref a0), (2, .ref (a0 + 153)), (3, .ref (a0 + 162)), (4, .int (nI q))]))
    (d0 : decode cL_law pc = .ok (.istore 6, 2)) (d2 : decode cL_law (pc + 2) = .ok (.aload_n 2, 1)) (d3 : decode cL_law (pc + 3) = .ok (.invokevirtual 82, 3)) (d6 : decode cL_law (pc + 6) = .ok (.iload 5, 2)) (d8 : decode cL_law (pc + 8) = .ok (.if_icmp .eq 5, 3)) (d13 : decode cL_law (pc + 13) = .ok (.iload 5, 2)) (d15 : decode cL_law (pc + 15) = .ok (.ifCond .ne off, 3)) (ht : ((pc + 15 : Nat) : Int) + off = (t15 : Int)) (hc : cells + 0 ≤ 601024) (hs : slots + 0 ≤ 7293034)
    (kt : ∀ ls : Array Slot, lv_has ls 9 ((6, .int v) :: (5, .int r) :: [(0, .ref b), (1, .ref a0), (2, .ref (a0 + 153)), (3, .ref (a0 + 162)), (4, .int (nI q))]) → ¬ r = 0 → ∀ (H : Heap) (locs : List Loc), gP base D s g2 H → va_S (gA base) s.heap H locs → W p l e room_1 s m #[Value.ref b] below meth c H locs (cells + 0) (slots + 0) Q (F0 m t15 ls []))
    (kf : ∀ ls : Array Slot, lv_has ls 9 ((6, .int v) :: (5, .int r) :: [(0, .ref b), (1, .ref a0), (2, .ref (a0 + 153)), (3, .ref (a0 + 162)), (4, .int (nI q))]) → r = 0 → ∀ (H : Heap) (locs : List Loc), gP base D s g2 H → va_S (gA base) s.heap H locs → W p l e room_1 s m #[Value.ref b] below meth c H locs (cells + 0) (slots + 0) Q (F0 m (pc + 18) ls [])) :
    W p l e room_1 s m #[Value.ref b] below meth c H locs cells slots Q (F0 m pc ls [.int v]) := by
  obtain ⟨hx, hb, hml, hown, hts, hE, hX, hbl, hbb, hst, hL⟩ := E
  have hth : f7_thrown g2 (a0 + 153) = some (r, g2) := by
    unfold f7_thrown
    rw [if_pos hk, hr]
  refine lv_istore (lv' := [(6, .int v), (5, .int r), (0, .ref b), (1, .ref a0), (2, .ref (a0 + 153)), (3, .ref (a0 + 162)), (4, .int (nI q))]) hx hb d0 hl (by decide) rfl (fun ls hl => ?_)
  refine lv_aload_n hx hb d2 rfl (lv_at hl 4 rfl) ?_
  refine g_calli (va_runV (As := []) (rest := []) ⟨hx, hb, hml, hown, hts⟩ (k7_thrown l D base g2 (a0 + 153) r g2 hth) (cwV 0 hts gL_law_X7_thrown rfl rfl rfl (by decide +kernel) ⟨Nat.le_of_ble_eq_true rfl, Nat.le_of_ble_eq_true rfl⟩) (gC.preV hE hP hS 7 rfl (by decide) hk []) rfl rfl hl.1 rfl (lv_room (Nat.le_of_ble_eq_true rfl)) d3 ⟨hc, hs⟩) hS (fun H locs hP hS => ?_)
  refine lv_iload hx hb d6 (lv_at hl 1 rfl) ?_
  refine lv_icmp_eq (tgt := pc + 13) hx hb d8 (by omega) (fun _ => ?_) (fun q => absurd rfl q)
  refine lv_iload hx hb d13 (lv_at hl 1 rfl) ?_
  exact lv_if_ne (tgt := t15) hx hb d15 ht (fun h => kt ls hl h H locs hP hS) (fun h => kf ls hl h H locs hP hS)
/-- ints compared: to the branch's end t -/
theorem g_cmpI (E : LE p l s m c b L xs D base) (hP : gP base D s g2 H) {a0 : Nat} {r v : Int32} {q : Nat} (hS2 : gS g2 (a0 + 162) = (13, 1)) (hv : gJ g2 (a0 + 162) 0 = Int32.toInt64 v)
    (hl : lv_has ls 9 ((6, .int v) :: (5, .int r) :: [(0, .ref b), (1, .ref a0), (2, .ref (a0 + 153)), (3, .ref (a0 + 162)), (4, .int (nI q))]))
    (d0 : decode cL_law pc = .ok (.aload_n 3, 1)) (d1 : decode cL_law (pc + 1) = .ok (.iconst 0, 1)) (d2 : decode cL_law (pc + 2) = .ok (.laload, 1)) (d3 : decode cL_law (pc + 3) = .ok (.iload 6, 2)) (d5 : decode cL_law (pc + 5) = .ok (.i2l, 1)) (d6 : decode cL_law (pc + 6) = .ok (.lcmp, 1)) (d7 : decode cL_law (pc + 7) = .ok (.ifCond .eq 5, 3))
    (kk : W p l e room_1 s m #[Value.ref b] below meth c H locs cells slots Q (F0 m (pc + 12) ls [])) : W p l e room_1 s m #[Value.ref b] below meth c H locs cells slots Q (F0 m pc ls []) := by
  obtain ⟨hx, hb, hml, hown, hts, hE, hX, hbl, hbb, hst, hL⟩ := E
  refine lv_aload_n hx hb d0 rfl (lv_at hl 5 rfl) ?_
  refine lv_iconst (v := 0) hx hb d1 (by decide) ?_
  refine g_lald hx hb hP hS2 (by decide) d2 ?_
  rw [show Int32.toNatClampNeg (0 : Int32) = 0 from rfl, hv]
  refine lv_iload hx hb d3 (lv_at hl 0 rfl) ?_
  refine lv_i2l (v := Int32.toInt64 v) hx hb d5 rfl ?_
  refine W.lcmp hx hb d6 ?_
  rw [lg_cmp_self]
  exact lv_if_eq (tgt := pc + 12) hx hb d7 (by omega) (fun _ => kk) (fun q => absurd rfl q)
theorem g_cmpZ (E : LE p l s m c b L xs D base) (hP : gP base D s g2 H) {a0 : Nat} {r v : Int32} {q : Nat} (hS2 : gS g2 (a0 + 162) = (13, 1)) (hv : gJ g2 (a0 + 162) 0 = if v = 0 then 0 else 1)
    (hl : lv_has ls 9 ((6, .int v) :: (5, .int r) :: [(0, .ref b), (1, .ref a0), (2, .ref (a0 + 153)), (3, .ref (a0 + 162)), (4, .int (nI q))]))
    (d0 : decode cL_law pc = .ok (.aload_n 3, 1)) (d1 : decode cL_law (pc + 1) = .ok (.iconst 0, 1)) (d2 : decode cL_law (pc + 2) = .ok (.laload, 1)) (d3 : decode cL_law (pc + 3) = .ok (.iload 6, 2)) (d5 : decode cL_law (pc + 5) = .ok (.ifCond .eq 7, 3)) (d8 : decode cL_law (pc + 8) = .ok (.lconst 1, 1)) (d9 : decode cL_law (pc + 9) = .ok (.goto 4, 3)) (d12 : decode cL_law (pc + 12) = .ok (.lconst 0, 1)) (d13 : decode cL_law (pc + 13) = .ok (.lcmp, 1)) (d14 : decode cL_law (pc + 14) = .ok (.ifCond .eq 5, 3))
    (kk : W p l e room_1 s m #[Value.ref b] below meth c H locs cells slots Q (F0 m (pc + 19) ls [])) : W p l e room_1 s m #[Value.ref b] below meth c H locs cells slots Q (F0 m pc ls []) := by
  obtain ⟨hx, hb, hml, hown, hts, hE, hX, hbl, hbb, hst, hL⟩ := E
  refine lv_aload_n hx hb d0 rfl (lv_at hl 5 rfl) ?_
  refine lv_iconst (v := 0) hx hb d1 (by decide) ?_
  refine g_lald hx hb hP hS2 (by decide) d2 ?_
  rw [show Int32.toNatClampNeg (0 : Int32) = 0 from rfl, hv]
  refine lv_iload hx hb d3 (lv_at hl 0 rfl) ?_
  refine lv_if_eq (tgt := pc + 12) hx hb d5 (by omega) (fun h => ?_) (fun h => ?_)
  · rw [if_pos h]
    refine lv_lconst (v := 0) hx hb d12 (by decide) ?_
    refine W.lcmp hx hb d13 ?_
    rw [lg_cmp_self]
    exact lv_if_eq (tgt := pc + 19) hx hb d14 (by omega) (fun _ => kk) (fun q => absurd rfl q)
  · rw [if_neg h]
    refine lv_lconst (v := 1) hx hb d8 (by decide) ?_
    refine lv_goto (tgt := pc + 13) hx hb d9 (by omega) ?_
    refine W.lcmp hx hb d13 ?_
    rw [lg_cmp_self]
    exact lv_if_eq (tgt := pc + 19) hx hb d14 (by omega) (fun _ => kk) (fun q => absurd rfl q)
end GLR
theorem LI.up {a0 Q Q' : Nat} {g : g_H} (h : LI a0 g Q) (hQ : Q ≤ Q') : LI a0 g Q' := by
  obtain ⟨s, n1, n2, n3, n4, q, I, m, hq, hS, hz⟩ := h
  exact ⟨s, n1, n2, n3, n4, q, I, m, Nat.le_trans hq hQ, hS, hz⟩
end
section
/-! THE LAW: its cases (printed by genlc.py) -/
set_option maxHeartbeats 4000000 in
set_option maxRecDepth 100000 in
theorem lc_addHouse {p : Program} {l : Launch} {e : Env} {s : State} {m : MethodId} {below : List Frame} {meth : Method} {c : Code} {H : Heap} {locs : List Loc} {cells slots : Nat} {Q : State → Prop} {ls : Array Slot} {D : va_G} {base b L : Nat} {xs : Nat → Int32} {g : g_H} {i Qn : Nat} (E : LE p l s m c b L xs D base) (hi : 4 * i + 3 < L) (hQ : Qn + 241 < 2 ^ 26) (hI : LI base g Qn) (hP : gP base D s g H) (hS : va_S (gA base) s.heap H locs) (hl : lv_has ls 9 [(0, .ref b), (1, .ref base), (2, .ref (base + 153)), (3, .ref (base + 162)), (4, .int (nI (4 * i)))]) (hc : cells + 90 ≤ 601024) (hs : slots + 800 ≤ 7293034)
    (kk : ∀ (g : g_H) (H : Heap) (locs : List Loc) (ls : Array Slot), LI base g (Qn + 240) → gP base D s g H → va_S (gA base) s.heap H locs → lv_has ls 9 [(0, .ref b), (1, .ref base), (2, .ref (base + 153)), (3, .ref (base + 162)), (4, .int (nI (4 * i)))] → W p l e room_1 s m #[Value.ref b] below meth c H locs (cells + 90) (slots + 800) Q (F0 m 1297 ls [])) : W p l e room_1 s m #[Value.ref b] below meth c H locs cells slots Q (F0 m 128 ls []) := by
  have E0 := E
  obtain ⟨hx, hb, hml, hown, hts, hE, hX, hbl, hbb, hst, hL⟩ := E0
  obtain ⟨t, n1, n2, n3, n4, q, I, mx, hq, hSo, hz⟩ := hI
  refine lv_aload_n hx hb dL_law_128 rfl (lv_at hl 1 rfl) ?_
  obtain ⟨o, g1, hF, h3, hS1, hall⟩ := (o_addHouse I ).law mx hq hSo hz rfl
  have hcode := Okc.of kc_addHouse hF
  refine lv_aload_n hx hb dL_law_129 rfl (lv_at hl 3 rfl) ?_
  refine g_callp (vx_runSW (As := [.ref base, .ref (base + 162)]) (rest := []) ⟨hx, hb, hml, hown, hts⟩ (hL_addHouse l hst D base g base (base + 162) 1 o g1 hF I.sh.1 hS1 (by omega) hcode) (vx_cwSW 2 hts gL_law_L_addHouse rfl rfl rfl (by decide +kernel) ⟨Nat.le_of_ble_eq_true rfl, Nat.le_of_ble_eq_true rfl⟩) (gC.preS hE hP hS [.ref base, .ref (base + 162)]) rfl rfl hl.1 rfl (lv_room (Nat.le_of_ble_eq_true rfl)) dL_law_130 ⟨Nat.le_trans (by omega) hc, Nat.le_trans (by omega) hs⟩) hS (fun r gg H locs hpost hP hS => ?_)
  obtain ⟨hr, k8, v, g2, hM, k82, hth, hS2, hval, hI2⟩ := hall _ r gg hpost
  refine lv_istore (lv' := [(5, .int r), (0, .ref b), (1, .ref base), (2, .ref (base + 153)), (3, .ref (base + 162)), (4, .int (nI (4 * i)))]) hx hb dL_law_133 hl (by decide) rfl (fun ls hl => ?_)
  refine lv_aload_n hx hb dL_law_135 rfl (lv_at hl 3 rfl) ?_
  refine g_calli (va_runV (As := []) (rest := []) ⟨hx, hb, hml, hown, hts⟩ (k7_addHouse l D base gg (base + 153) v g2 hM) (cwV 0 hts gL_law_X7_addHouse rfl rfl rfl (by decide +kernel) ⟨Nat.le_of_ble_eq_true rfl, Nat.le_of_ble_eq_true rfl⟩) (gC.preV hE hP hS 7 rfl (by decide) k8 []) rfl rfl hl.1 rfl (lv_room (Nat.le_of_ble_eq_true rfl)) dL_law_136 ⟨Nat.le_trans (by omega) hc, Nat.le_trans (by omega) hs⟩) hS (fun H locs hP hS => ?_)
  refine g_tail E hP hS k82 (hth.trans hr.symm) hl dL_law_139 dL_law_141 dL_law_142 dL_law_145 dL_law_147 dL_law_152 dL_law_154 (t15 := 169) (by decide) (Nat.le_trans (by omega) hc) (Nat.le_trans (by omega) hs) (fun ls hl hn H locs hP hS => ?_) (fun ls hl h0 H locs hP hS => ?_)
  · refine lv_goto (tgt := 1297) hx hb dL_law_169 (by decide) ?_
    exact W.widen (by omega) (by omega) (kk g2 H locs ls hI2 hP hS (lv_sub hl [2, 3, 4, 5, 6] rfl))
  · have ho0 : o.1 = 0 := by
      rcases hcode with w | w
      · exact w
      · rw [hr, w] at h0; exact absurd h0 (by decide)
    obtain ⟨hv, hJ⟩ := hval ho0
    refine g_cmpI E hP hS2 (hJ.trans (by rw [hv])) hl dL_law_157 dL_law_158 dL_law_159 dL_law_160 dL_law_162 dL_law_163 dL_law_164 ?_
    refine lv_goto (tgt := 1297) hx hb dL_law_169 (by decide) ?_
    exact W.widen (by omega) (by omega) (kk g2 H locs ls hI2 hP hS (lv_sub hl [2, 3, 4, 5, 6] rfl))
set_option maxHeartbeats 4000000 in
set_option maxRecDepth 100000 in
theorem lc_setHive {p : Program} {l : Launch} {e : Env} {s : State} {m : MethodId} {below : List Frame} {meth : Method} {c : Code} {H : Heap} {locs : List Loc} {cells slots : Nat} {Q : State → Prop} {ls : Array Slot} {D : va_G} {base b L : Nat} {xs : Nat → Int32} {g : g_H} {i Qn : Nat} (E : LE p l s m c b L xs D base) (hi : 4 * i + 3 < L) (hQ : Qn + 241 < 2 ^ 26) (hI : LI base g Qn) (hP : gP base D s g H) (hS : va_S (gA base) s.heap H locs) (hl : lv_has ls 9 [(0, .ref b), (1, .ref base), (2, .ref (base + 153)), (3, .ref (base + 162)), (4, .int (nI (4 * i)))]) (hc : cells + 90 ≤ 601024) (hs : slots + 800 ≤ 7293034)
    (kk : ∀ (g : g_H) (H : Heap) (locs : List Loc) (ls : Array Slot), LI base g (Qn + 240) → gP base D s g H → va_S (gA base) s.heap H locs → lv_has ls 9 [(0, .ref b), (1, .ref base), (2, .ref (base + 153)), (3, .ref (base + 162)), (4, .int (nI (4 * i)))] → W p l e room_1 s m #[Value.ref b] below meth c H locs (cells + 90) (slots + 800) Q (F0 m 1297 ls [])) : W p l e room_1 s m #[Value.ref b] below meth c H locs cells slots Q (F0 m 172 ls []) := by
  have E0 := E
  obtain ⟨hx, hb, hml, hown, hts, hE, hX, hbl, hbb, hst, hL⟩ := E0
  obtain ⟨t, n1, n2, n3, n4, q, I, mx, hq, hSo, hz⟩ := hI
  refine lv_aload_n hx hb dL_law_172 rfl (lv_at hl 1 rfl) ?_
  refine g_arg E hS (j := 1) (by omega) (lv_at hl 0 rfl) (lv_at hl 4 rfl) dL_law_173 dL_law_174 dL_law_176 (by decide) dL_law_177 dL_law_178 ?_
  refine g_arg E hS (j := 2) (by omega) (lv_at hl 0 rfl) (lv_at hl 4 rfl) dL_law_179 dL_law_180 dL_law_182 (by decide) dL_law_183 dL_law_184 ?_
  refine lv_if_eq (tgt := 192) hx hb dL_law_185 (by decide) (fun cy => ?_) (fun cy => ?_)
  · refine lv_iconst (v := 0) hx hb dL_law_192 (by decide) ?_
    obtain ⟨o, g1, hF, h3, hS1, hall⟩ := (o_setHive I (xs (4 * i + 1)) 0 (Or.inl rfl)).law mx hq hSo hz rfl
    have hcode := Okc.of kc_setHive hF
    refine lv_aload_n hx hb dL_law_193 rfl (lv_at hl 3 rfl) ?_
    refine g_callp (vx_runSW (As := [.ref base, .int (xs (4 * i + 1)), .int 0, .ref (base + 162)]) (rest := []) ⟨hx, hb, hml, hown, hts⟩ (hL_setHive l hst D base g base (base + 162) 1 (xs (4 * i + 1)) 0 o g1 hF I.sh.1 hS1 (by omega) hcode) (vx_cwSW 4 hts gL_law_L_setHive rfl rfl rfl (by decide +kernel) ⟨Nat.le_of_ble_eq_true rfl, Nat.le_of_ble_eq_true rfl⟩) (gC.preS hE hP hS [.ref base, .int (xs (4 * i + 1)), .int 0, .ref (base + 162)]) rfl rfl hl.1 rfl (lv_room (Nat.le_of_ble_eq_true rfl)) dL_law_194 ⟨Nat.le_trans (by omega) hc, Nat.le_trans (by omega) hs⟩) hS (fun r gg H locs hpost hP hS => ?_)
    obtain ⟨hr, k8, v, g2, hM, k82, hth, hS2, hval, hI2⟩ := hall _ r gg hpost
    refine lv_istore (lv' := [(5, .int r), (0, .ref b), (1, .ref base), (2, .ref (base + 153)), (3, .ref (base + 162)), (4, .int (nI (4 * i)))]) hx hb dL_law_197 hl (by decide) rfl (fun ls hl => ?_)
    refine lv_aload_n hx hb dL_law_199 rfl (lv_at hl 3 rfl) ?_
    refine g_arg E hS (j := 1) (by omega) (lv_at hl 1 rfl) (lv_at hl 5 rfl) dL_law_200 dL_law_201 dL_law_203 (by decide) dL_law_204 dL_law_205 ?_
    refine g_arg E hS (j := 2) (by omega) (lv_at hl 1 rfl) (lv_at hl 5 rfl) dL_law_206 dL_law_207 dL_law_209 (by decide) dL_law_210 dL_law_211 ?_
    refine lv_if_eq (tgt := 219) hx hb dL_law_212 (by decide) (fun w => ?_) (fun w => ?_)
    rotate_left
    · exact absurd cy w
    refine lv_iconst (v := 0) hx hb dL_law_219 (by decide) ?_
    refine g_calli (va_runV (As := [.int (xs (4 * i + 1)), .int 0]) (rest := []) ⟨hx, hb, hml, hown, hts⟩ (k7_setHive l D base gg (base + 153) (xs (4 * i + 1)) 0 v g2 hM) (cwV 2 hts gL_law_X7_setHive rfl rfl rfl (by decide +kernel) ⟨Nat.le_of_ble_eq_true rfl, Nat.le_of_ble_eq_true rfl⟩) (gC.preV hE hP hS 7 rfl (by decide) k8 [.int (xs (4 * i + 1)), .int 0]) rfl rfl hl.1 rfl (lv_room (Nat.le_of_ble_eq_true rfl)) dL_law_220 ⟨Nat.le_trans (by omega) hc, Nat.le_trans (by omega) hs⟩) hS (fun H locs hP hS => ?_)
    refine g_tail E hP hS k82 (hth.trans hr.symm) hl dL_law_223 dL_law_225 dL_law_226 dL_law_229 dL_law_231 dL_law_236 dL_law_238 (t15 := 260) (by decide) (Nat.le_trans (by omega) hc) (Nat.le_trans (by omega) hs) (fun ls hl hn H locs hP hS => ?_) (fun ls hl h0 H locs hP hS => ?_)
    · refine lv_goto (tgt := 1297) hx hb dL_law_260 (by decide) ?_
      exact W.widen (by omega) (by omega) (kk g2 H locs ls hI2 hP hS (lv_sub hl [2, 3, 4, 5, 6] rfl))
    · have ho0 : o.1 = 0 := by
        rcases hcode with w | w
        · exact w
        · rw [hr, w] at h0; exact absurd h0 (by decide)
      obtain ⟨hv, hJ⟩ := hval ho0
      refine g_cmpZ E hP hS2 (hJ.trans (by rw [hv])) hl dL_law_241 dL_law_242 dL_law_243 dL_law_244 dL_law_246 dL_law_249 dL_law_250 dL_law_253 dL_law_254 dL_law_255 ?_
      refine lv_goto (tgt := 1297) hx hb dL_law_260 (by decide) ?_
      exact W.widen (by omega) (by omega) (kk g2 H locs ls hI2 hP hS (lv_sub hl [2, 3, 4, 5, 6] rfl))
  · refine lv_iconst (v := 1) hx hb dL_law_188 (by decide) ?_
    refine lv_goto (tgt := 193) hx hb dL_law_189 (by decide) ?_
    obtain ⟨o, g1, hF, h3, hS1, hall⟩ := (o_setHive I (xs (4 * i + 1)) 1 (Or.inr rfl)).law mx hq hSo hz rfl
    have hcode := Okc.of kc_setHive hF
    refine lv_aload_n hx hb dL_law_193 rfl (lv_at hl 3 rfl) ?_
    refine g_callp (vx_runSW (As := [.ref base, .int (xs (4 * i + 1)), .int 1, .ref (base + 162)]) (rest := []) ⟨hx, hb, hml, hown, hts⟩ (hL_setHive l hst D base g base (base + 162) 1 (xs (4 * i + 1)) 1 o g1 hF I.sh.1 hS1 (by omega) hcode) (vx_cwSW 4 hts gL_law_L_setHive rfl rfl rfl (by decide +kernel) ⟨Nat.le_of_ble_eq_true rfl, Nat.le_of_ble_eq_true rfl⟩) (gC.preS hE hP hS [.ref base, .int (xs (4 * i + 1)), .int 1, .ref (base + 162)]) rfl rfl hl.1 rfl (lv_room (Nat.le_of_ble_eq_true rfl)) dL_law_194 ⟨Nat.le_trans (by omega) hc, Nat.le_trans (by omega) hs⟩) hS (fun r gg H locs hpost hP hS => ?_)
    obtain ⟨hr, k8, v, g2, hM, k82, hth, hS2, hval, hI2⟩ := hall _ r gg hpost
    refine lv_istore (lv' := [(5, .int r), (0, .ref b), (1, .ref base), (2, .ref (base + 153)), (3, .ref (base + 162)), (4, .int (nI (4 * i)))]) hx hb dL_law_197 hl (by decide) rfl (fun ls hl => ?_)
    refine lv_aload_n hx hb dL_law_199 rfl (lv_at hl 3 rfl) ?_
    refine g_arg E hS (j := 1) (by omega) (lv_at hl 1 rfl) (lv_at hl 5 rfl) dL_law_200 dL_law_201 dL_law_203 (by decide) dL_law_204 dL_law_205 ?_
    refine g_arg E hS (j := 2) (by omega) (lv_at hl 1 rfl) (lv_at hl 5 rfl) dL_law_206 dL_law_207 dL_law_209 (by decide) dL_law_210 dL_law_211 ?_
    refine lv_if_eq (tgt := 219) hx hb dL_law_212 (by decide) (fun w => ?_) (fun w => ?_)
    · exact absurd w cy
    refine lv_iconst (v := 1) hx hb dL_law_215 (by decide) ?_
    refine lv_goto (tgt := 220) hx hb dL_law_216 (by decide) ?_
    refine g_calli (va_runV (As := [.int (xs (4 * i + 1)), .int 1]) (rest := []) ⟨hx, hb, hml, hown, hts⟩ (k7_setHive l D base gg (base + 153) (xs (4 * i + 1)) 1 v g2 hM) (cwV 2 hts gL_law_X7_setHive rfl rfl rfl (by decide +kernel) ⟨Nat.le_of_ble_eq_true rfl, Nat.le_of_ble_eq_true rfl⟩) (gC.preV hE hP hS 7 rfl (by decide) k8 [.int (xs (4 * i + 1)), .int 1]) rfl rfl hl.1 rfl (lv_room (Nat.le_of_ble_eq_true rfl)) dL_law_220 ⟨Nat.le_trans (by omega) hc, Nat.le_trans (by omega) hs⟩) hS (fun H locs hP hS => ?_)
    refine g_tail E hP hS k82 (hth.trans hr.symm) hl dL_law_223 dL_law_225 dL_law_226 dL_law_229 dL_law_231 dL_law_236 dL_law_238 (t15 := 260) (by decide) (Nat.le_trans (by omega) hc) (Nat.le_trans (by omega) hs) (fun ls hl hn H locs hP hS => ?_) (fun ls hl h0 H locs hP hS => ?_)
    · refine lv_goto (tgt := 1297) hx hb dL_law_260 (by decide) ?_
      exact W.widen (by omega) (by omega) (kk g2 H locs ls hI2 hP hS (lv_sub hl [2, 3, 4, 5, 6] rfl))
    · have ho0 : o.1 = 0 := by
        rcases hcode with w | w
        · exact w
        · rw [hr, w] at h0; exact absurd h0 (by decide)
      obtain ⟨hv, hJ⟩ := hval ho0
      refine g_cmpZ E hP hS2 (hJ.trans (by rw [hv])) hl dL_law_241 dL_law_242 dL_law_243 dL_law_244 dL_law_246 dL_law_249 dL_law_250 dL_law_253 dL_law_254 dL_law_255 ?_
      refine lv_goto (tgt := 1297) hx hb dL_law_260 (by decide) ?_
      exact W.widen (by omega) (by omega) (kk g2 H locs ls hI2 hP hS (lv_sub hl [2, 3, 4, 5, 6] rfl))
set_option maxHeartbeats 4000000 in
set_option maxRecDepth 100000 in
theorem lc_addLane {p : Program} {l : Launch} {e : Env} {s : State} {m : MethodId} {below : List Frame} {meth : Method} {c : Code} {H : Heap} {locs : List Loc} {cells slots : Nat} {Q : State → Prop} {ls : Array Slot} {D : va_G} {base b L : Nat} {xs : Nat → Int32} {g : g_H} {i Qn : Nat} (E : LE p l s m c b L xs D base) (hi : 4 * i + 3 < L) (hQ : Qn + 241 < 2 ^ 26) (hI : LI base g Qn) (hP : gP base D s g H) (hS : va_S (gA base) s.heap H locs) (hl : lv_has ls 9 [(0, .ref b), (1, .ref base), (2, .ref (base + 153)), (3, .ref (base + 162)), (4, .int (nI (4 * i)))]) (hc : cells + 90 ≤ 601024) (hs : slots + 800 ≤ 7293034)
    (kk : ∀ (g : g_H) (H : Heap) (locs : List Loc) (ls : Array Slot), LI base g (Qn + 240) → gP base D s g H → va_S (gA base) s.heap H locs → lv_has ls 9 [(0, .ref b), (1, .ref base), (2, .ref (base + 153)), (3, .ref (base + 162)), (4, .int (nI (4 * i)))] → W p l e room_1 s m #[Value.ref b] below meth c H locs (cells + 90) (slots + 800) Q (F0 m 1297 ls [])) : W p l e room_1 s m #[Value.ref b] below meth c H locs cells slots Q (F0 m 263 ls []) := by
  have E0 := E
  obtain ⟨hx, hb, hml, hown, hts, hE, hX, hbl, hbb, hst, hL⟩ := E0
  obtain ⟨t, n1, n2, n3, n4, q, I, mx, hq, hSo, hz⟩ := hI
  refine lv_aload_n hx hb dL_law_263 rfl (lv_at hl 1 rfl) ?_
  refine g_arg E hS (j := 1) (by omega) (lv_at hl 0 rfl) (lv_at hl 4 rfl) dL_law_264 dL_law_265 dL_law_267 (by decide) dL_law_268 dL_law_269 ?_
  refine g_arg E hS (j := 2) (by omega) (lv_at hl 0 rfl) (lv_at hl 4 rfl) dL_law_270 dL_law_271 dL_law_273 (by decide) dL_law_274 dL_law_275 ?_
  refine g_arg E hS (j := 3) (by omega) (lv_at hl 0 rfl) (lv_at hl 4 rfl) dL_law_276 dL_law_277 dL_law_279 (by decide) dL_law_280 dL_law_281 ?_
  obtain ⟨o, g1, hF, h3, hS1, hall⟩ := (o_addLane I (xs (4 * i + 1)) (xs (4 * i + 2)) (xs (4 * i + 3))).law mx hq hSo hz rfl
  have hcode := Okc.of kc_addLane hF
  refine lv_aload_n hx hb dL_law_282 rfl (lv_at hl 3 rfl) ?_
  refine g_callp (vx_runSW (As := [.ref base, .int (xs (4 * i + 1)), .int (xs (4 * i + 2)), .int (xs (4 * i + 3)), .ref (base + 162)]) (rest := []) ⟨hx, hb, hml, hown, hts⟩ (hL_addLane l hst D base g base (base + 162) 1 (xs (4 * i + 1)) (xs (4 * i + 2)) (xs (4 * i + 3)) o g1 hF I.sh.1 hS1 (by omega) hcode) (vx_cwSW 5 hts gL_law_L_addLane rfl rfl rfl (by decide +kernel) ⟨Nat.le_of_ble_eq_true rfl, Nat.le_of_ble_eq_true rfl⟩) (gC.preS hE hP hS [.ref base, .int (xs (4 * i + 1)), .int (xs (4 * i + 2)), .int (xs (4 * i + 3)), .ref (base + 162)]) rfl rfl hl.1 rfl (lv_room (Nat.le_of_ble_eq_true rfl)) dL_law_283 ⟨Nat.le_trans (by omega) hc, Nat.le_trans (by omega) hs⟩) hS (fun r gg H locs hpost hP hS => ?_)
  obtain ⟨hr, k8, v, g2, hM, k82, hth, hS2, hval, hI2⟩ := hall _ r gg hpost
  refine lv_istore (lv' := [(5, .int r), (0, .ref b), (1, .ref base), (2, .ref (base + 153)), (3, .ref (base + 162)), (4, .int (nI (4 * i)))]) hx hb dL_law_286 hl (by decide) rfl (fun ls hl => ?_)
  refine lv_aload_n hx hb dL_law_288 rfl (lv_at hl 3 rfl) ?_
  refine g_arg E hS (j := 1) (by omega) (lv_at hl 1 rfl) (lv_at hl 5 rfl) dL_law_289 dL_law_290 dL_law_292 (by decide) dL_law_293 dL_law_294 ?_
  refine g_arg E hS (j := 2) (by omega) (lv_at hl 1 rfl) (lv_at hl 5 rfl) dL_law_295 dL_law_296 dL_law_298 (by decide) dL_law_299 dL_law_300 ?_
  refine g_arg E hS (j := 3) (by omega) (lv_at hl 1 rfl) (lv_at hl 5 rfl) dL_law_301 dL_law_302 dL_law_304 (by decide) dL_law_305 dL_law_306 ?_
  refine g_calli (va_runV (As := [.int (xs (4 * i + 1)), .int (xs (4 * i + 2)), .int (xs (4 * i + 3))]) (rest := []) ⟨hx, hb, hml, hown, hts⟩ (k7_addLane l D base gg (base + 153) (xs (4 * i + 1)) (xs (4 * i + 2)) (xs (4 * i + 3)) v g2 hM) (cwV 3 hts gL_law_X7_addLane rfl rfl rfl (by decide +kernel) ⟨Nat.le_of_ble_eq_true rfl, Nat.le_of_ble_eq_true rfl⟩) (gC.preV hE hP hS 7 rfl (by decide) k8 [.int (xs (4 * i + 1)), .int (xs (4 * i + 2)), .int (xs (4 * i + 3))]) rfl rfl hl.1 rfl (lv_room (Nat.le_of_ble_eq_true rfl)) dL_law_307 ⟨Nat.le_trans (by omega) hc, Nat.le_trans (by omega) hs⟩) hS (fun H locs hP hS => ?_)
  refine g_tail E hP hS k82 (hth.trans hr.symm) hl dL_law_310 dL_law_312 dL_law_313 dL_law_316 dL_law_318 dL_law_323 dL_law_325 (t15 := 340) (by decide) (Nat.le_trans (by omega) hc) (Nat.le_trans (by omega) hs) (fun ls hl hn H locs hP hS => ?_) (fun ls hl h0 H locs hP hS => ?_)
  · refine lv_goto (tgt := 1297) hx hb dL_law_340 (by decide) ?_
    exact W.widen (by omega) (by omega) (kk g2 H locs ls hI2 hP hS (lv_sub hl [2, 3, 4, 5, 6] rfl))
  · have ho0 : o.1 = 0 := by
      rcases hcode with w | w | w | w
      · exact w
      · rw [hr, w] at h0; exact absurd h0 (by decide)
      · rw [hr, w] at h0; exact absurd h0 (by decide)
      · rw [hr, w] at h0; exact absurd h0 (by decide)
    obtain ⟨hv, hJ⟩ := hval ho0
    refine g_cmpI E hP hS2 (hJ.trans (by rw [hv])) hl dL_law_328 dL_law_329 dL_law_330 dL_law_331 dL_law_333 dL_law_334 dL_law_335 ?_
    refine lv_goto (tgt := 1297) hx hb dL_law_340 (by decide) ?_
    exact W.widen (by omega) (by omega) (kk g2 H locs ls hI2 hP hS (lv_sub hl [2, 3, 4, 5, 6] rfl))
set_option maxHeartbeats 4000000 in
set_option maxRecDepth 100000 in
theorem lc_setGate {p : Program} {l : Launch} {e : Env} {s : State} {m : MethodId} {below : List Frame} {meth : Method} {c : Code} {H : Heap} {locs : List Loc} {cells slots : Nat} {Q : State → Prop} {ls : Array Slot} {D : va_G} {base b L : Nat} {xs : Nat → Int32} {g : g_H} {i Qn : Nat} (E : LE p l s m c b L xs D base) (hi : 4 * i + 3 < L) (hQ : Qn + 241 < 2 ^ 26) (hI : LI base g Qn) (hP : gP base D s g H) (hS : va_S (gA base) s.heap H locs) (hl : lv_has ls 9 [(0, .ref b), (1, .ref base), (2, .ref (base + 153)), (3, .ref (base + 162)), (4, .int (nI (4 * i)))]) (hc : cells + 90 ≤ 601024) (hs : slots + 800 ≤ 7293034)
    (kk : ∀ (g : g_H) (H : Heap) (locs : List Loc) (ls : Array Slot), LI base g (Qn + 240) → gP base D s g H → va_S (gA base) s.heap H locs → lv_has ls 9 [(0, .ref b), (1, .ref base), (2, .ref (base + 153)), (3, .ref (base + 162)), (4, .int (nI (4 * i)))] → W p l e room_1 s m #[Value.ref b] below meth c H locs (cells + 90) (slots + 800) Q (F0 m 1297 ls [])) : W p l e room_1 s m #[Value.ref b] below meth c H locs cells slots Q (F0 m 343 ls []) := by
  have E0 := E
  obtain ⟨hx, hb, hml, hown, hts, hE, hX, hbl, hbb, hst, hL⟩ := E0
  obtain ⟨t, n1, n2, n3, n4, q, I, mx, hq, hSo, hz⟩ := hI
  refine lv_aload_n hx hb dL_law_343 rfl (lv_at hl 1 rfl) ?_
  refine g_arg E hS (j := 1) (by omega) (lv_at hl 0 rfl) (lv_at hl 4 rfl) dL_law_344 dL_law_345 dL_law_347 (by decide) dL_law_348 dL_law_349 ?_
  refine g_arg E hS (j := 2) (by omega) (lv_at hl 0 rfl) (lv_at hl 4 rfl) dL_law_350 dL_law_351 dL_law_353 (by decide) dL_law_354 dL_law_355 ?_
  refine g_arg E hS (j := 3) (by omega) (lv_at hl 0 rfl) (lv_at hl 4 rfl) dL_law_356 dL_law_357 dL_law_359 (by decide) dL_law_360 dL_law_361 ?_
  obtain ⟨o, g1, hF, h3, hS1, hall⟩ := (o_setGate I (xs (4 * i + 1)) (xs (4 * i + 2)) (xs (4 * i + 3))).law mx hq hSo hz rfl
  have hcode := Okc.of kc_setGate hF
  refine lv_aload_n hx hb dL_law_362 rfl (lv_at hl 3 rfl) ?_
  refine g_callp (vx_runSW (As := [.ref base, .int (xs (4 * i + 1)), .int (xs (4 * i + 2)), .int (xs (4 * i + 3)), .ref (base + 162)]) (rest := []) ⟨hx, hb, hml, hown, hts⟩ (hL_setGate l hst D base g base (base + 162) 1 (xs (4 * i + 1)) (xs (4 * i + 2)) (xs (4 * i + 3)) o g1 hF I.sh.1 hS1 (by omega) hcode) (vx_cwSW 5 hts gL_law_L_setGate rfl rfl rfl (by decide +kernel) ⟨Nat.le_of_ble_eq_true rfl, Nat.le_of_ble_eq_true rfl⟩) (gC.preS hE hP hS [.ref base, .int (xs (4 * i + 1)), .int (xs (4 * i + 2)), .int (xs (4 * i + 3)), .ref (base + 162)]) rfl rfl hl.1 rfl (lv_room (Nat.le_of_ble_eq_true rfl)) dL_law_363 ⟨Nat.le_trans (by omega) hc, Nat.le_trans (by omega) hs⟩) hS (fun r gg H locs hpost hP hS => ?_)
  obtain ⟨hr, k8, v, g2, hM, k82, hth, hS2, hval, hI2⟩ := hall _ r gg hpost
  refine lv_istore (lv' := [(5, .int r), (0, .ref b), (1, .ref base), (2, .ref (base + 153)), (3, .ref (base + 162)), (4, .int (nI (4 * i)))]) hx hb dL_law_366 hl (by decide) rfl (fun ls hl => ?_)
  refine lv_aload_n hx hb dL_law_368 rfl (lv_at hl 3 rfl) ?_
  refine g_arg E hS (j := 1) (by omega) (lv_at hl 1 rfl) (lv_at hl 5 rfl) dL_law_369 dL_law_370 dL_law_372 (by decide) dL_law_373 dL_law_374 ?_
  refine g_arg E hS (j := 2) (by omega) (lv_at hl 1 rfl) (lv_at hl 5 rfl) dL_law_375 dL_law_376 dL_law_378 (by decide) dL_law_379 dL_law_380 ?_
  refine g_arg E hS (j := 3) (by omega) (lv_at hl 1 rfl) (lv_at hl 5 rfl) dL_law_381 dL_law_382 dL_law_384 (by decide) dL_law_385 dL_law_386 ?_
  refine g_calli (va_runV (As := [.int (xs (4 * i + 1)), .int (xs (4 * i + 2)), .int (xs (4 * i + 3))]) (rest := []) ⟨hx, hb, hml, hown, hts⟩ (k7_setGate l D base gg (base + 153) (xs (4 * i + 1)) (xs (4 * i + 2)) (xs (4 * i + 3)) v g2 hM) (cwV 3 hts gL_law_X7_setGate rfl rfl rfl (by decide +kernel) ⟨Nat.le_of_ble_eq_true rfl, Nat.le_of_ble_eq_true rfl⟩) (gC.preV hE hP hS 7 rfl (by decide) k8 [.int (xs (4 * i + 1)), .int (xs (4 * i + 2)), .int (xs (4 * i + 3))]) rfl rfl hl.1 rfl (lv_room (Nat.le_of_ble_eq_true rfl)) dL_law_387 ⟨Nat.le_trans (by omega) hc, Nat.le_trans (by omega) hs⟩) hS (fun H locs hP hS => ?_)
  refine g_tail E hP hS k82 (hth.trans hr.symm) hl dL_law_390 dL_law_392 dL_law_393 dL_law_396 dL_law_398 dL_law_403 dL_law_405 (t15 := 420) (by decide) (Nat.le_trans (by omega) hc) (Nat.le_trans (by omega) hs) (fun ls hl hn H locs hP hS => ?_) (fun ls hl h0 H locs hP hS => ?_)
  · refine lv_goto (tgt := 1297) hx hb dL_law_420 (by decide) ?_
    exact W.widen (by omega) (by omega) (kk g2 H locs ls hI2 hP hS (lv_sub hl [2, 3, 4, 5, 6] rfl))
  · have ho0 : o.1 = 0 := by
      rcases hcode with w | w | w
      · exact w
      · rw [hr, w] at h0; exact absurd h0 (by decide)
      · rw [hr, w] at h0; exact absurd h0 (by decide)
    obtain ⟨hv, hJ⟩ := hval ho0
    refine g_cmpI E hP hS2 (hJ.trans (by rw [hv])) hl dL_law_408 dL_law_409 dL_law_410 dL_law_411 dL_law_413 dL_law_414 dL_law_415 ?_
    refine lv_goto (tgt := 1297) hx hb dL_law_420 (by decide) ?_
    exact W.widen (by omega) (by omega) (kk g2 H locs ls hI2 hP hS (lv_sub hl [2, 3, 4, 5, 6] rfl))
set_option maxHeartbeats 4000000 in
set_option maxRecDepth 100000 in
theorem lc_way {p : Program} {l : Launch} {e : Env} {s : State} {m : MethodId} {below : List Frame} {meth : Method} {c : Code} {H : Heap} {locs : List Loc} {cells slots : Nat} {Q : State → Prop} {ls : Array Slot} {D : va_G} {base b L : Nat} {xs : Nat → Int32} {g : g_H} {i Qn : Nat} (E : LE p l s m c b L xs D base) (hi : 4 * i + 3 < L) (hQ : Qn + 241 < 2 ^ 26) (hI : LI base g Qn) (hP : gP base D s g H) (hS : va_S (gA base) s.heap H locs) (hl : lv_has ls 9 [(0, .ref b), (1, .ref base), (2, .ref (base + 153)), (3, .ref (base + 162)), (4, .int (nI (4 * i)))]) (hc : cells + 90 ≤ 601024) (hs : slots + 800 ≤ 7293034)
    (kk : ∀ (g : g_H) (H : Heap) (locs : List Loc) (ls : Array Slot), LI base g (Qn + 240) → gP base D s g H → va_S (gA base) s.heap H locs → lv_has ls 9 [(0, .ref b), (1, .ref base), (2, .ref (base + 153)), (3, .ref (base + 162)), (4, .int (nI (4 * i)))] → W p l e room_1 s m #[Value.ref b] below meth c H locs (cells + 90) (slots + 800) Q (F0 m 1297 ls [])) : W p l e room_1 s m #[Value.ref b] below meth c H locs cells slots Q (F0 m 423 ls []) := by
  have E0 := E
  obtain ⟨hx, hb, hml, hown, hts, hE, hX, hbl, hbb, hst, hL⟩ := E0
  obtain ⟨t, n1, n2, n3, n4, q, I, mx, hq, hSo, hz⟩ := hI
  refine lv_aload_n hx hb dL_law_423 rfl (lv_at hl 1 rfl) ?_
  refine g_arg E hS (j := 1) (by omega) (lv_at hl 0 rfl) (lv_at hl 4 rfl) dL_law_424 dL_law_425 dL_law_427 (by decide) dL_law_428 dL_law_429 ?_
  refine g_arg E hS (j := 2) (by omega) (lv_at hl 0 rfl) (lv_at hl 4 rfl) dL_law_430 dL_law_431 dL_law_433 (by decide) dL_law_434 dL_law_435 ?_
  obtain ⟨o, g1, hF, h3, hS1, hall⟩ := (o_way I (xs (4 * i + 1)) (xs (4 * i + 2))).law mx hq hSo hz rfl
  have hcode := Okc.of kc_way hF
  refine lv_aload_n hx hb dL_law_436 rfl (lv_at hl 3 rfl) ?_
  refine g_callp (vx_runSW (As := [.ref base, .int (xs (4 * i + 1)), .int (xs (4 * i + 2)), .ref (base + 162)]) (rest := []) ⟨hx, hb, hml, hown, hts⟩ (hL_way l hst D base g base (base + 162) 1 (xs (4 * i + 1)) (xs (4 * i + 2)) o g1 hF I.sh.1 hS1 (by omega) hcode) (vx_cwSW 4 hts gL_law_L_way rfl rfl rfl (by decide +kernel) ⟨Nat.le_of_ble_eq_true rfl, Nat.le_of_ble_eq_true rfl⟩) (gC.preS hE hP hS [.ref base, .int (xs (4 * i + 1)), .int (xs (4 * i + 2)), .ref (base + 162)]) rfl rfl hl.1 rfl (lv_room (Nat.le_of_ble_eq_true rfl)) dL_law_437 ⟨Nat.le_trans (by omega) hc, Nat.le_trans (by omega) hs⟩) hS (fun r gg H locs hpost hP hS => ?_)
  obtain ⟨hr, k8, v, g2, hM, k82, hth, hS2, hval, hI2⟩ := hall _ r gg hpost
  refine lv_istore (lv' := [(5, .int r), (0, .ref b), (1, .ref base), (2, .ref (base + 153)), (3, .ref (base + 162)), (4, .int (nI (4 * i)))]) hx hb dL_law_440 hl (by decide) rfl (fun ls hl => ?_)
  refine lv_aload_n hx hb dL_law_442 rfl (lv_at hl 3 rfl) ?_
  refine g_arg E hS (j := 1) (by omega) (lv_at hl 1 rfl) (lv_at hl 5 rfl) dL_law_443 dL_law_444 dL_law_446 (by decide) dL_law_447 dL_law_448 ?_
  refine g_arg E hS (j := 2) (by omega) (lv_at hl 1 rfl) (lv_at hl 5 rfl) dL_law_449 dL_law_450 dL_law_452 (by decide) dL_law_453 dL_law_454 ?_
  refine g_calli (va_runV (As := [.int (xs (4 * i + 1)), .int (xs (4 * i + 2))]) (rest := []) ⟨hx, hb, hml, hown, hts⟩ (k7_way l D base gg (base + 153) (xs (4 * i + 1)) (xs (4 * i + 2)) v g2 hM) (cwV 2 hts gL_law_X7_way rfl rfl rfl (by decide +kernel) ⟨Nat.le_of_ble_eq_true rfl, Nat.le_of_ble_eq_true rfl⟩) (gC.preV hE hP hS 7 rfl (by decide) k8 [.int (xs (4 * i + 1)), .int (xs (4 * i + 2))]) rfl rfl hl.1 rfl (lv_room (Nat.le_of_ble_eq_true rfl)) dL_law_455 ⟨Nat.le_trans (by omega) hc, Nat.le_trans (by omega) hs⟩) hS (fun H locs hP hS => ?_)
  refine g_tail E hP hS k82 (hth.trans hr.symm) hl dL_law_458 dL_law_460 dL_law_461 dL_law_464 dL_law_466 dL_law_471 dL_law_473 (t15 := 488) (by decide) (Nat.le_trans (by omega) hc) (Nat.le_trans (by omega) hs) (fun ls hl hn H locs hP hS => ?_) (fun ls hl h0 H locs hP hS => ?_)
  · refine lv_goto (tgt := 1297) hx hb dL_law_488 (by decide) ?_
    exact W.widen (by omega) (by omega) (kk g2 H locs ls hI2 hP hS (lv_sub hl [2, 3, 4, 5, 6] rfl))
  · have ho0 : o.1 = 0 := by
      rcases hcode with w | w
      · exact w
      · rw [hr, w] at h0; exact absurd h0 (by decide)
    obtain ⟨hv, hJ⟩ := hval ho0
    refine g_cmpI E hP hS2 (hJ.trans (by rw [hv])) hl dL_law_476 dL_law_477 dL_law_478 dL_law_479 dL_law_481 dL_law_482 dL_law_483 ?_
    refine lv_goto (tgt := 1297) hx hb dL_law_488 (by decide) ?_
    exact W.widen (by omega) (by omega) (kk g2 H locs ls hI2 hP hS (lv_sub hl [2, 3, 4, 5, 6] rfl))
set_option maxHeartbeats 4000000 in
set_option maxRecDepth 100000 in
theorem lc_addBee {p : Program} {l : Launch} {e : Env} {s : State} {m : MethodId} {below : List Frame} {meth : Method} {c : Code} {H : Heap} {locs : List Loc} {cells slots : Nat} {Q : State → Prop} {ls : Array Slot} {D : va_G} {base b L : Nat} {xs : Nat → Int32} {g : g_H} {i Qn : Nat} (E : LE p l s m c b L xs D base) (hi : 4 * i + 3 < L) (hQ : Qn + 241 < 2 ^ 26) (hI : LI base g Qn) (hP : gP base D s g H) (hS : va_S (gA base) s.heap H locs) (hl : lv_has ls 9 [(0, .ref b), (1, .ref base), (2, .ref (base + 153)), (3, .ref (base + 162)), (4, .int (nI (4 * i)))]) (hc : cells + 90 ≤ 601024) (hs : slots + 800 ≤ 7293034)
    (kk : ∀ (g : g_H) (H : Heap) (locs : List Loc) (ls : Array Slot), LI base g (Qn + 240) → gP base D s g H → va_S (gA base) s.heap H locs → lv_has ls 9 [(0, .ref b), (1, .ref base), (2, .ref (base + 153)), (3, .ref (base + 162)), (4, .int (nI (4 * i)))] → W p l e room_1 s m #[Value.ref b] below meth c H locs (cells + 90) (slots + 800) Q (F0 m 1297 ls [])) : W p l e room_1 s m #[Value.ref b] below meth c H locs cells slots Q (F0 m 491 ls []) := by
  have E0 := E
  obtain ⟨hx, hb, hml, hown, hts, hE, hX, hbl, hbb, hst, hL⟩ := E0
  obtain ⟨t, n1, n2, n3, n4, q, I, mx, hq, hSo, hz⟩ := hI
  refine lv_aload_n hx hb dL_law_491 rfl (lv_at hl 1 rfl) ?_
  refine g_arg E hS (j := 1) (by omega) (lv_at hl 0 rfl) (lv_at hl 4 rfl) dL_law_492 dL_law_493 dL_law_495 (by decide) dL_law_496 dL_law_497 ?_
  obtain ⟨o, g1, hF, h3, hS1, hall⟩ := (o_addBee I (xs (4 * i + 1))).law mx hq hSo hz rfl
  have hcode := Okc.of kc_addBee hF
  refine lv_aload_n hx hb dL_law_498 rfl (lv_at hl 3 rfl) ?_
  refine g_callp (vx_runSW (As := [.ref base, .int (xs (4 * i + 1)), .ref (base + 162)]) (rest := []) ⟨hx, hb, hml, hown, hts⟩ (hL_addBee l hst D base g base (base + 162) 1 (xs (4 * i + 1)) o g1 hF I.sh.1 hS1 (by omega) hcode) (vx_cwSW 3 hts gL_law_L_addBee rfl rfl rfl (by decide +kernel) ⟨Nat.le_of_ble_eq_true rfl, Nat.le_of_ble_eq_true rfl⟩) (gC.preS hE hP hS [.ref base, .int (xs (4 * i + 1)), .ref (base + 162)]) rfl rfl hl.1 rfl (lv_room (Nat.le_of_ble_eq_true rfl)) dL_law_499 ⟨Nat.le_trans (by omega) hc, Nat.le_trans (by omega) hs⟩) hS (fun r gg H locs hpost hP hS => ?_)
  obtain ⟨hr, k8, v, g2, hM, k82, hth, hS2, hval, hI2⟩ := hall _ r gg hpost
  refine lv_istore (lv' := [(5, .int r), (0, .ref b), (1, .ref base), (2, .ref (base + 153)), (3, .ref (base + 162)), (4, .int (nI (4 * i)))]) hx hb dL_law_502 hl (by decide) rfl (fun ls hl => ?_)
  refine lv_aload_n hx hb dL_law_504 rfl (lv_at hl 3 rfl) ?_
  refine g_arg E hS (j := 1) (by omega) (lv_at hl 1 rfl) (lv_at hl 5 rfl) dL_law_505 dL_law_506 dL_law_508 (by decide) dL_law_509 dL_law_510 ?_
  refine g_calli (va_runV (As := [.int (xs (4 * i + 1))]) (rest := []) ⟨hx, hb, hml, hown, hts⟩ (k7_addBee l D base gg (base + 153) (xs (4 * i + 1)) v g2 hM) (cwV 1 hts gL_law_X7_addBee rfl rfl rfl (by decide +kernel) ⟨Nat.le_of_ble_eq_true rfl, Nat.le_of_ble_eq_true rfl⟩) (gC.preV hE hP hS 7 rfl (by decide) k8 [.int (xs (4 * i + 1))]) rfl rfl hl.1 rfl (lv_room (Nat.le_of_ble_eq_true rfl)) dL_law_511 ⟨Nat.le_trans (by omega) hc, Nat.le_trans (by omega) hs⟩) hS (fun H locs hP hS => ?_)
  refine g_tail E hP hS k82 (hth.trans hr.symm) hl dL_law_514 dL_law_516 dL_law_517 dL_law_520 dL_law_522 dL_law_527 dL_law_529 (t15 := 544) (by decide) (Nat.le_trans (by omega) hc) (Nat.le_trans (by omega) hs) (fun ls hl hn H locs hP hS => ?_) (fun ls hl h0 H locs hP hS => ?_)
  · refine lv_goto (tgt := 1297) hx hb dL_law_544 (by decide) ?_
    exact W.widen (by omega) (by omega) (kk g2 H locs ls hI2 hP hS (lv_sub hl [2, 3, 4, 5, 6] rfl))
  · have ho0 : o.1 = 0 := by
      rcases hcode with w | w | w
      · exact w
      · rw [hr, w] at h0; exact absurd h0 (by decide)
      · rw [hr, w] at h0; exact absurd h0 (by decide)
    obtain ⟨hv, hJ⟩ := hval ho0
    refine g_cmpI E hP hS2 (hJ.trans (by rw [hv])) hl dL_law_532 dL_law_533 dL_law_534 dL_law_535 dL_law_537 dL_law_538 dL_law_539 ?_
    refine lv_goto (tgt := 1297) hx hb dL_law_544 (by decide) ?_
    exact W.widen (by omega) (by omega) (kk g2 H locs ls hI2 hP hS (lv_sub hl [2, 3, 4, 5, 6] rfl))
set_option maxHeartbeats 4000000 in
set_option maxRecDepth 100000 in
theorem lc_swear {p : Program} {l : Launch} {e : Env} {s : State} {m : MethodId} {below : List Frame} {meth : Method} {c : Code} {H : Heap} {locs : List Loc} {cells slots : Nat} {Q : State → Prop} {ls : Array Slot} {D : va_G} {base b L : Nat} {xs : Nat → Int32} {g : g_H} {i Qn : Nat} (E : LE p l s m c b L xs D base) (hi : 4 * i + 3 < L) (hQ : Qn + 241 < 2 ^ 26) (hI : LI base g Qn) (hP : gP base D s g H) (hS : va_S (gA base) s.heap H locs) (hl : lv_has ls 9 [(0, .ref b), (1, .ref base), (2, .ref (base + 153)), (3, .ref (base + 162)), (4, .int (nI (4 * i)))]) (hc : cells + 90 ≤ 601024) (hs : slots + 800 ≤ 7293034)
    (kk : ∀ (g : g_H) (H : Heap) (locs : List Loc) (ls : Array Slot), LI base g (Qn + 240) → gP base D s g H → va_S (gA base) s.heap H locs → lv_has ls 9 [(0, .ref b), (1, .ref base), (2, .ref (base + 153)), (3, .ref (base + 162)), (4, .int (nI (4 * i)))] → W p l e room_1 s m #[Value.ref b] below meth c H locs (cells + 90) (slots + 800) Q (F0 m 1297 ls [])) : W p l e room_1 s m #[Value.ref b] below meth c H locs cells slots Q (F0 m 547 ls []) := by
  have E0 := E
  obtain ⟨hx, hb, hml, hown, hts, hE, hX, hbl, hbb, hst, hL⟩ := E0
  obtain ⟨t, n1, n2, n3, n4, q, I, mx, hq, hSo, hz⟩ := hI
  refine lv_aload_n hx hb dL_law_547 rfl (lv_at hl 1 rfl) ?_
  refine g_arg E hS (j := 1) (by omega) (lv_at hl 0 rfl) (lv_at hl 4 rfl) dL_law_548 dL_law_549 dL_law_551 (by decide) dL_law_552 dL_law_553 ?_
  refine g_arg E hS (j := 2) (by omega) (lv_at hl 0 rfl) (lv_at hl 4 rfl) dL_law_554 dL_law_555 dL_law_557 (by decide) dL_law_558 dL_law_559 ?_
  obtain ⟨o, g1, hF, h3, hS1, hall⟩ := (o_swear I (xs (4 * i + 1)) (xs (4 * i + 2))).law mx hq hSo hz rfl
  have hcode := Okc.of kc_swear hF
  refine lv_aload_n hx hb dL_law_560 rfl (lv_at hl 3 rfl) ?_
  refine g_callp (vx_runSW (As := [.ref base, .int (xs (4 * i + 1)), .int (xs (4 * i + 2)), .ref (base + 162)]) (rest := []) ⟨hx, hb, hml, hown, hts⟩ (hL_swear l hst D base g base (base + 162) 1 (xs (4 * i + 1)) (xs (4 * i + 2)) o g1 hF I.sh.1 hS1 (by omega) hcode) (vx_cwSW 4 hts gL_law_L_swear rfl rfl rfl (by decide +kernel) ⟨Nat.le_of_ble_eq_true rfl, Nat.le_of_ble_eq_true rfl⟩) (gC.preS hE hP hS [.ref base, .int (xs (4 * i + 1)), .int (xs (4 * i + 2)), .ref (base + 162)]) rfl rfl hl.1 rfl (lv_room (Nat.le_of_ble_eq_true rfl)) dL_law_561 ⟨Nat.le_trans (by omega) hc, Nat.le_trans (by omega) hs⟩) hS (fun r gg H locs hpost hP hS => ?_)
  obtain ⟨hr, k8, v, g2, hM, k82, hth, hS2, hval, hI2⟩ := hall _ r gg hpost
  refine lv_istore (lv' := [(5, .int r), (0, .ref b), (1, .ref base), (2, .ref (base + 153)), (3, .ref (base + 162)), (4, .int (nI (4 * i)))]) hx hb dL_law_564 hl (by decide) rfl (fun ls hl => ?_)
  refine lv_aload_n hx hb dL_law_566 rfl (lv_at hl 3 rfl) ?_
  refine g_arg E hS (j := 1) (by omega) (lv_at hl 1 rfl) (lv_at hl 5 rfl) dL_law_567 dL_law_568 dL_law_570 (by decide) dL_law_571 dL_law_572 ?_
  refine g_arg E hS (j := 2) (by omega) (lv_at hl 1 rfl) (lv_at hl 5 rfl) dL_law_573 dL_law_574 dL_law_576 (by decide) dL_law_577 dL_law_578 ?_
  refine g_calli (va_runV (As := [.int (xs (4 * i + 1)), .int (xs (4 * i + 2))]) (rest := []) ⟨hx, hb, hml, hown, hts⟩ (k7_swear l D base gg (base + 153) (xs (4 * i + 1)) (xs (4 * i + 2)) v g2 hM) (cwV 2 hts gL_law_X7_swear rfl rfl rfl (by decide +kernel) ⟨Nat.le_of_ble_eq_true rfl, Nat.le_of_ble_eq_true rfl⟩) (gC.preV hE hP hS 7 rfl (by decide) k8 [.int (xs (4 * i + 1)), .int (xs (4 * i + 2))]) rfl rfl hl.1 rfl (lv_room (Nat.le_of_ble_eq_true rfl)) dL_law_579 ⟨Nat.le_trans (by omega) hc, Nat.le_trans (by omega) hs⟩) hS (fun H locs hP hS => ?_)
  refine g_tail E hP hS k82 (hth.trans hr.symm) hl dL_law_582 dL_law_584 dL_law_585 dL_law_588 dL_law_590 dL_law_595 dL_law_597 (t15 := 612) (by decide) (Nat.le_trans (by omega) hc) (Nat.le_trans (by omega) hs) (fun ls hl hn H locs hP hS => ?_) (fun ls hl h0 H locs hP hS => ?_)
  · refine lv_goto (tgt := 1297) hx hb dL_law_612 (by decide) ?_
    exact W.widen (by omega) (by omega) (kk g2 H locs ls hI2 hP hS (lv_sub hl [2, 3, 4, 5, 6] rfl))
  · have ho0 : o.1 = 0 := by
      rcases hcode with w | w | w | w
      · exact w
      · rw [hr, w] at h0; exact absurd h0 (by decide)
      · rw [hr, w] at h0; exact absurd h0 (by decide)
      · rw [hr, w] at h0; exact absurd h0 (by decide)
    obtain ⟨hv, hJ⟩ := hval ho0
    refine g_cmpI E hP hS2 (hJ.trans (by rw [hv])) hl dL_law_600 dL_law_601 dL_law_602 dL_law_603 dL_law_605 dL_law_606 dL_law_607 ?_
    refine lv_goto (tgt := 1297) hx hb dL_law_612 (by decide) ?_
    exact W.widen (by omega) (by omega) (kk g2 H locs ls hI2 hP hS (lv_sub hl [2, 3, 4, 5, 6] rfl))
set_option maxHeartbeats 4000000 in
set_option maxRecDepth 100000 in
theorem lc_write {p : Program} {l : Launch} {e : Env} {s : State} {m : MethodId} {below : List Frame} {meth : Method} {c : Code} {H : Heap} {locs : List Loc} {cells slots : Nat} {Q : State → Prop} {ls : Array Slot} {D : va_G} {base b L : Nat} {xs : Nat → Int32} {g : g_H} {i Qn : Nat} (E : LE p l s m c b L xs D base) (hi : 4 * i + 3 < L) (hQ : Qn + 241 < 2 ^ 26) (hI : LI base g Qn) (hP : gP base D s g H) (hS : va_S (gA base) s.heap H locs) (hl : lv_has ls 9 [(0, .ref b), (1, .ref base), (2, .ref (base + 153)), (3, .ref (base + 162)), (4, .int (nI (4 * i)))]) (hc : cells + 90 ≤ 601024) (hs : slots + 800 ≤ 7293034)
    (kk : ∀ (g : g_H) (H : Heap) (locs : List Loc) (ls : Array Slot), LI base g (Qn + 240) → gP base D s g H → va_S (gA base) s.heap H locs → lv_has ls 9 [(0, .ref b), (1, .ref base), (2, .ref (base + 153)), (3, .ref (base + 162)), (4, .int (nI (4 * i)))] → W p l e room_1 s m #[Value.ref b] below meth c H locs (cells + 90) (slots + 800) Q (F0 m 1297 ls [])) : W p l e room_1 s m #[Value.ref b] below meth c H locs cells slots Q (F0 m 615 ls []) := by
  have E0 := E
  obtain ⟨hx, hb, hml, hown, hts, hE, hX, hbl, hbb, hst, hL⟩ := E0
  obtain ⟨t, n1, n2, n3, n4, q, I, mx, hq, hSo, hz⟩ := hI
  refine lv_aload_n hx hb dL_law_615 rfl (lv_at hl 1 rfl) ?_
  refine g_arg E hS (j := 1) (by omega) (lv_at hl 0 rfl) (lv_at hl 4 rfl) dL_law_616 dL_law_617 dL_law_619 (by decide) dL_law_620 dL_law_621 ?_
  refine g_arg E hS (j := 2) (by omega) (lv_at hl 0 rfl) (lv_at hl 4 rfl) dL_law_622 dL_law_623 dL_law_625 (by decide) dL_law_626 dL_law_627 ?_
  obtain ⟨o, g1, hF, h3, hS1, hall⟩ := (o_write I (xs (4 * i + 1)) (xs (4 * i + 2))).law mx hq hSo hz rfl
  have hcode := Okc.of kc_write hF
  refine lv_aload_n hx hb dL_law_628 rfl (lv_at hl 3 rfl) ?_
  refine g_callp (vx_runSW (As := [.ref base, .int (xs (4 * i + 1)), .int (xs (4 * i + 2)), .ref (base + 162)]) (rest := []) ⟨hx, hb, hml, hown, hts⟩ (hL_write l hst D base g base (base + 162) 1 (xs (4 * i + 1)) (xs (4 * i + 2)) o g1 hF I.sh.1 hS1 (by omega) hcode) (vx_cwSW 4 hts gL_law_L_write rfl rfl rfl (by decide +kernel) ⟨Nat.le_of_ble_eq_true rfl, Nat.le_of_ble_eq_true rfl⟩) (gC.preS hE hP hS [.ref base, .int (xs (4 * i + 1)), .int (xs (4 * i + 2)), .ref (base + 162)]) rfl rfl hl.1 rfl (lv_room (Nat.le_of_ble_eq_true rfl)) dL_law_629 ⟨Nat.le_trans (by omega) hc, Nat.le_trans (by omega) hs⟩) hS (fun r gg H locs hpost hP hS => ?_)
  obtain ⟨hr, k8, v, g2, hM, k82, hth, hS2, hval, hI2⟩ := hall _ r gg hpost
  refine lv_istore (lv' := [(5, .int r), (0, .ref b), (1, .ref base), (2, .ref (base + 153)), (3, .ref (base + 162)), (4, .int (nI (4 * i)))]) hx hb dL_law_632 hl (by decide) rfl (fun ls hl => ?_)
  refine lv_aload_n hx hb dL_law_634 rfl (lv_at hl 3 rfl) ?_
  refine g_arg E hS (j := 1) (by omega) (lv_at hl 1 rfl) (lv_at hl 5 rfl) dL_law_635 dL_law_636 dL_law_638 (by decide) dL_law_639 dL_law_640 ?_
  refine g_arg E hS (j := 2) (by omega) (lv_at hl 1 rfl) (lv_at hl 5 rfl) dL_law_641 dL_law_642 dL_law_644 (by decide) dL_law_645 dL_law_646 ?_
  refine g_calli (va_runV (As := [.int (xs (4 * i + 1)), .int (xs (4 * i + 2))]) (rest := []) ⟨hx, hb, hml, hown, hts⟩ (k7_write l D base gg (base + 153) (xs (4 * i + 1)) (xs (4 * i + 2)) v g2 hM) (cwV 2 hts gL_law_X7_write rfl rfl rfl (by decide +kernel) ⟨Nat.le_of_ble_eq_true rfl, Nat.le_of_ble_eq_true rfl⟩) (gC.preV hE hP hS 7 rfl (by decide) k8 [.int (xs (4 * i + 1)), .int (xs (4 * i + 2))]) rfl rfl hl.1 rfl (lv_room (Nat.le_of_ble_eq_true rfl)) dL_law_647 ⟨Nat.le_trans (by omega) hc, Nat.le_trans (by omega) hs⟩) hS (fun H locs hP hS => ?_)
  refine g_tail E hP hS k82 (hth.trans hr.symm) hl dL_law_650 dL_law_652 dL_law_653 dL_law_656 dL_law_658 dL_law_663 dL_law_665 (t15 := 680) (by decide) (Nat.le_trans (by omega) hc) (Nat.le_trans (by omega) hs) (fun ls hl hn H locs hP hS => ?_) (fun ls hl h0 H locs hP hS => ?_)
  · refine lv_goto (tgt := 1297) hx hb dL_law_680 (by decide) ?_
    exact W.widen (by omega) (by omega) (kk g2 H locs ls hI2 hP hS (lv_sub hl [2, 3, 4, 5, 6] rfl))
  · have ho0 : o.1 = 0 := by
      rcases hcode with w | w | w | w
      · exact w
      · rw [hr, w] at h0; exact absurd h0 (by decide)
      · rw [hr, w] at h0; exact absurd h0 (by decide)
      · rw [hr, w] at h0; exact absurd h0 (by decide)
    obtain ⟨hv, hJ⟩ := hval ho0
    refine g_cmpI E hP hS2 (hJ.trans (by rw [hv])) hl dL_law_668 dL_law_669 dL_law_670 dL_law_671 dL_law_673 dL_law_674 dL_law_675 ?_
    refine lv_goto (tgt := 1297) hx hb dL_law_680 (by decide) ?_
    exact W.widen (by omega) (by omega) (kk g2 H locs ls hI2 hP hS (lv_sub hl [2, 3, 4, 5, 6] rfl))
set_option maxHeartbeats 4000000 in
set_option maxRecDepth 100000 in
theorem lc_bribe {p : Program} {l : Launch} {e : Env} {s : State} {m : MethodId} {below : List Frame} {meth : Method} {c : Code} {H : Heap} {locs : List Loc} {cells slots : Nat} {Q : State → Prop} {ls : Array Slot} {D : va_G} {base b L : Nat} {xs : Nat → Int32} {g : g_H} {i Qn : Nat} (E : LE p l s m c b L xs D base) (hi : 4 * i + 3 < L) (hQ : Qn + 241 < 2 ^ 26) (hI : LI base g Qn) (hP : gP base D s g H) (hS : va_S (gA base) s.heap H locs) (hl : lv_has ls 9 [(0, .ref b), (1, .ref base), (2, .ref (base + 153)), (3, .ref (base + 162)), (4, .int (nI (4 * i)))]) (hc : cells + 90 ≤ 601024) (hs : slots + 800 ≤ 7293034)
    (kk : ∀ (g : g_H) (H : Heap) (locs : List Loc) (ls : Array Slot), LI base g (Qn + 240) → gP base D s g H → va_S (gA base) s.heap H locs → lv_has ls 9 [(0, .ref b), (1, .ref base), (2, .ref (base + 153)), (3, .ref (base + 162)), (4, .int (nI (4 * i)))] → W p l e room_1 s m #[Value.ref b] below meth c H locs (cells + 90) (slots + 800) Q (F0 m 1297 ls [])) : W p l e room_1 s m #[Value.ref b] below meth c H locs cells slots Q (F0 m 683 ls []) := by
  have E0 := E
  obtain ⟨hx, hb, hml, hown, hts, hE, hX, hbl, hbb, hst, hL⟩ := E0
  obtain ⟨t, n1, n2, n3, n4, q, I, mx, hq, hSo, hz⟩ := hI
  refine lv_aload_n hx hb dL_law_683 rfl (lv_at hl 1 rfl) ?_
  refine g_arg E hS (j := 1) (by omega) (lv_at hl 0 rfl) (lv_at hl 4 rfl) dL_law_684 dL_law_685 dL_law_687 (by decide) dL_law_688 dL_law_689 ?_
  refine g_arg E hS (j := 2) (by omega) (lv_at hl 0 rfl) (lv_at hl 4 rfl) dL_law_690 dL_law_691 dL_law_693 (by decide) dL_law_694 dL_law_695 ?_
  obtain ⟨o, g1, hF, h3, hS1, hall⟩ := (o_bribe I (xs (4 * i + 1)) (xs (4 * i + 2))).law mx hq hSo hz rfl
  have hcode := Okc.of kc_bribe hF
  refine lv_aload_n hx hb dL_law_696 rfl (lv_at hl 3 rfl) ?_
  refine g_callp (vx_runSW (As := [.ref base, .int (xs (4 * i + 1)), .int (xs (4 * i + 2)), .ref (base + 162)]) (rest := []) ⟨hx, hb, hml, hown, hts⟩ (hL_bribe l hst D base g base (base + 162) 1 (xs (4 * i + 1)) (xs (4 * i + 2)) o g1 hF I.sh.1 hS1 (by omega) hcode) (vx_cwSW 4 hts gL_law_L_bribe rfl rfl rfl (by decide +kernel) ⟨Nat.le_of_ble_eq_true rfl, Nat.le_of_ble_eq_true rfl⟩) (gC.preS hE hP hS [.ref base, .int (xs (4 * i + 1)), .int (xs (4 * i + 2)), .ref (base + 162)]) rfl rfl hl.1 rfl (lv_room (Nat.le_of_ble_eq_true rfl)) dL_law_697 ⟨Nat.le_trans (by omega) hc, Nat.le_trans (by omega) hs⟩) hS (fun r gg H locs hpost hP hS => ?_)
  obtain ⟨hr, k8, v, g2, hM, k82, hth, hS2, hval, hI2⟩ := hall _ r gg hpost
  refine lv_istore (lv' := [(5, .int r), (0, .ref b), (1, .ref base), (2, .ref (base + 153)), (3, .ref (base + 162)), (4, .int (nI (4 * i)))]) hx hb dL_law_700 hl (by decide) rfl (fun ls hl => ?_)
  refine lv_aload_n hx hb dL_law_702 rfl (lv_at hl 3 rfl) ?_
  refine g_arg E hS (j := 1) (by omega) (lv_at hl 1 rfl) (lv_at hl 5 rfl) dL_law_703 dL_law_704 dL_law_706 (by decide) dL_law_707 dL_law_708 ?_
  refine g_arg E hS (j := 2) (by omega) (lv_at hl 1 rfl) (lv_at hl 5 rfl) dL_law_709 dL_law_710 dL_law_712 (by decide) dL_law_713 dL_law_714 ?_
  refine g_calli (va_runV (As := [.int (xs (4 * i + 1)), .int (xs (4 * i + 2))]) (rest := []) ⟨hx, hb, hml, hown, hts⟩ (k7_bribe l D base gg (base + 153) (xs (4 * i + 1)) (xs (4 * i + 2)) v g2 hM) (cwV 2 hts gL_law_X7_bribe rfl rfl rfl (by decide +kernel) ⟨Nat.le_of_ble_eq_true rfl, Nat.le_of_ble_eq_true rfl⟩) (gC.preV hE hP hS 7 rfl (by decide) k8 [.int (xs (4 * i + 1)), .int (xs (4 * i + 2))]) rfl rfl hl.1 rfl (lv_room (Nat.le_of_ble_eq_true rfl)) dL_law_715 ⟨Nat.le_trans (by omega) hc, Nat.le_trans (by omega) hs⟩) hS (fun H locs hP hS => ?_)
  refine g_tail E hP hS k82 (hth.trans hr.symm) hl dL_law_718 dL_law_720 dL_law_721 dL_law_724 dL_law_726 dL_law_731 dL_law_733 (t15 := 755) (by decide) (Nat.le_trans (by omega) hc) (Nat.le_trans (by omega) hs) (fun ls hl hn H locs hP hS => ?_) (fun ls hl h0 H locs hP hS => ?_)
  · refine lv_goto (tgt := 1297) hx hb dL_law_755 (by decide) ?_
    exact W.widen (by omega) (by omega) (kk g2 H locs ls hI2 hP hS (lv_sub hl [2, 3, 4, 5, 6] rfl))
  · have ho0 : o.1 = 0 := by
      rcases hcode with w | w | w
      · exact w
      · rw [hr, w] at h0; exact absurd h0 (by decide)
      · rw [hr, w] at h0; exact absurd h0 (by decide)
    obtain ⟨hv, hJ⟩ := hval ho0
    refine g_cmpZ E hP hS2 (hJ.trans (by rw [hv])) hl dL_law_736 dL_law_737 dL_law_738 dL_law_739 dL_law_741 dL_law_744 dL_law_745 dL_law_748 dL_law_749 dL_law_750 ?_
    refine lv_goto (tgt := 1297) hx hb dL_law_755 (by decide) ?_
    exact W.widen (by omega) (by omega) (kk g2 H locs ls hI2 hP hS (lv_sub hl [2, 3, 4, 5, 6] rfl))
set_option maxHeartbeats 4000000 in
set_option maxRecDepth 100000 in
theorem lc_bee {p : Program} {l : Launch} {e : Env} {s : State} {m : MethodId} {below : List Frame} {meth : Method} {c : Code} {H : Heap} {locs : List Loc} {cells slots : Nat} {Q : State → Prop} {ls : Array Slot} {D : va_G} {base b L : Nat} {xs : Nat → Int32} {g : g_H} {i Qn : Nat} (E : LE p l s m c b L xs D base) (hi : 4 * i + 3 < L) (hQ : Qn + 241 < 2 ^ 26) (hI : LI base g Qn) (hP : gP base D s g H) (hS : va_S (gA base) s.heap H locs) (hl : lv_has ls 9 [(0, .ref b), (1, .ref base), (2, .ref (base + 153)), (3, .ref (base + 162)), (4, .int (nI (4 * i)))]) (hc : cells + 90 ≤ 601024) (hs : slots + 800 ≤ 7293034)
    (kk : ∀ (g : g_H) (H : Heap) (locs : List Loc) (ls : Array Slot), LI base g (Qn + 240) → gP base D s g H → va_S (gA base) s.heap H locs → lv_has ls 9 [(0, .ref b), (1, .ref base), (2, .ref (base + 153)), (3, .ref (base + 162)), (4, .int (nI (4 * i)))] → W p l e room_1 s m #[Value.ref b] below meth c H locs (cells + 90) (slots + 800) Q (F0 m 1297 ls [])) : W p l e room_1 s m #[Value.ref b] below meth c H locs cells slots Q (F0 m 758 ls []) := by
  have E0 := E
  obtain ⟨hx, hb, hml, hown, hts, hE, hX, hbl, hbb, hst, hL⟩ := E0
  obtain ⟨t, n1, n2, n3, n4, q, I, mx, hq, hSo, hz⟩ := hI
  refine lv_aload_n hx hb dL_law_758 rfl (lv_at hl 1 rfl) ?_
  refine g_arg E hS (j := 1) (by omega) (lv_at hl 0 rfl) (lv_at hl 4 rfl) dL_law_759 dL_law_760 dL_law_762 (by decide) dL_law_763 dL_law_764 ?_
  refine g_arg E hS (j := 2) (by omega) (lv_at hl 0 rfl) (lv_at hl 4 rfl) dL_law_765 dL_law_766 dL_law_768 (by decide) dL_law_769 dL_law_770 ?_
  obtain ⟨o, g1, hF, h3, hS1, hall⟩ := (o_bee I (xs (4 * i + 1)) (xs (4 * i + 2))).law mx hq hSo hz rfl
  have hcode := Okc.of kc_beeT hF
  refine lv_aload_n hx hb dL_law_771 rfl (lv_at hl 3 rfl) ?_
  refine g_callp (vx_runSW (As := [.ref base, .int (xs (4 * i + 1)), .int (xs (4 * i + 2)), .ref (base + 162)]) (rest := []) ⟨hx, hb, hml, hown, hts⟩ (hL_bee l hst D base g base (base + 162) 1 (xs (4 * i + 1)) (xs (4 * i + 2)) o g1 hF I.sh.1 hS1 (by omega) hcode) (vx_cwSW 4 hts gL_law_L_bee rfl rfl rfl (by decide +kernel) ⟨Nat.le_of_ble_eq_true rfl, Nat.le_of_ble_eq_true rfl⟩) (gC.preS hE hP hS [.ref base, .int (xs (4 * i + 1)), .int (xs (4 * i + 2)), .ref (base + 162)]) rfl rfl hl.1 rfl (lv_room (Nat.le_of_ble_eq_true rfl)) dL_law_772 ⟨Nat.le_trans (by omega) hc, Nat.le_trans (by omega) hs⟩) hS (fun r gg H locs hpost hP hS => ?_)
  obtain ⟨hr, k8, v, g2, hM, k82, hth, hS2, hval, hI2⟩ := hall _ r gg hpost
  refine lv_istore (lv' := [(5, .int r), (0, .ref b), (1, .ref base), (2, .ref (base + 153)), (3, .ref (base + 162)), (4, .int (nI (4 * i)))]) hx hb dL_law_775 hl (by decide) rfl (fun ls hl => ?_)
  refine lv_aload_n hx hb dL_law_777 rfl (lv_at hl 3 rfl) ?_
  refine g_arg E hS (j := 1) (by omega) (lv_at hl 1 rfl) (lv_at hl 5 rfl) dL_law_778 dL_law_779 dL_law_781 (by decide) dL_law_782 dL_law_783 ?_
  refine g_arg E hS (j := 2) (by omega) (lv_at hl 1 rfl) (lv_at hl 5 rfl) dL_law_784 dL_law_785 dL_law_787 (by decide) dL_law_788 dL_law_789 ?_
  refine g_calli (va_runV (As := [.int (xs (4 * i + 1)), .int (xs (4 * i + 2))]) (rest := []) ⟨hx, hb, hml, hown, hts⟩ (k7_bee l D base gg (base + 153) (xs (4 * i + 1)) (xs (4 * i + 2)) v g2 hM) (cwV 2 hts gL_law_X7_bee rfl rfl rfl (by decide +kernel) ⟨Nat.le_of_ble_eq_true rfl, Nat.le_of_ble_eq_true rfl⟩) (gC.preV hE hP hS 7 rfl (by decide) k8 [.int (xs (4 * i + 1)), .int (xs (4 * i + 2))]) rfl rfl hl.1 rfl (lv_room (Nat.le_of_ble_eq_true rfl)) dL_law_790 ⟨Nat.le_trans (by omega) hc, Nat.le_trans (by omega) hs⟩) hS (fun H locs hP hS => ?_)
  refine g_tail E hP hS k82 (hth.trans hr.symm) hl dL_law_793 dL_law_795 dL_law_796 dL_law_799 dL_law_801 dL_law_806 dL_law_808 (t15 := 823) (by decide) (Nat.le_trans (by omega) hc) (Nat.le_trans (by omega) hs) (fun ls hl hn H locs hP hS => ?_) (fun ls hl h0 H locs hP hS => ?_)
  · refine lv_goto (tgt := 1297) hx hb dL_law_823 (by decide) ?_
    exact W.widen (by omega) (by omega) (kk g2 H locs ls hI2 hP hS (lv_sub hl [2, 3, 4, 5, 6] rfl))
  · have ho0 : o.1 = 0 := by
      rcases hcode with w | w
      · exact w
      · rw [hr, w] at h0; exact absurd h0 (by decide)
    obtain ⟨hv, hJ⟩ := hval ho0
    refine g_cmpI E hP hS2 (hJ.trans (by rw [hv])) hl dL_law_811 dL_law_812 dL_law_813 dL_law_814 dL_law_816 dL_law_817 dL_law_818 ?_
    refine lv_goto (tgt := 1297) hx hb dL_law_823 (by decide) ?_
    exact W.widen (by omega) (by omega) (kk g2 H locs ls hI2 hP hS (lv_sub hl [2, 3, 4, 5, 6] rfl))
set_option maxHeartbeats 4000000 in
set_option maxRecDepth 100000 in
theorem lc_letter {p : Program} {l : Launch} {e : Env} {s : State} {m : MethodId} {below : List Frame} {meth : Method} {c : Code} {H : Heap} {locs : List Loc} {cells slots : Nat} {Q : State → Prop} {ls : Array Slot} {D : va_G} {base b L : Nat} {xs : Nat → Int32} {g : g_H} {i Qn : Nat} (E : LE p l s m c b L xs D base) (hi : 4 * i + 3 < L) (hQ : Qn + 241 < 2 ^ 26) (hI : LI base g Qn) (hP : gP base D s g H) (hS : va_S (gA base) s.heap H locs) (hl : lv_has ls 9 [(0, .ref b), (1, .ref base), (2, .ref (base + 153)), (3, .ref (base + 162)), (4, .int (nI (4 * i)))]) (hc : cells + 90 ≤ 601024) (hs : slots + 800 ≤ 7293034)
    (kk : ∀ (g : g_H) (H : Heap) (locs : List Loc) (ls : Array Slot), LI base g (Qn + 240) → gP base D s g H → va_S (gA base) s.heap H locs → lv_has ls 9 [(0, .ref b), (1, .ref base), (2, .ref (base + 153)), (3, .ref (base + 162)), (4, .int (nI (4 * i)))] → W p l e room_1 s m #[Value.ref b] below meth c H locs (cells + 90) (slots + 800) Q (F0 m 1297 ls [])) : W p l e room_1 s m #[Value.ref b] below meth c H locs cells slots Q (F0 m 826 ls []) := by
  have E0 := E
  obtain ⟨hx, hb, hml, hown, hts, hE, hX, hbl, hbb, hst, hL⟩ := E0
  obtain ⟨t, n1, n2, n3, n4, q, I, mx, hq, hSo, hz⟩ := hI
  refine lv_aload_n hx hb dL_law_826 rfl (lv_at hl 1 rfl) ?_
  refine g_arg E hS (j := 1) (by omega) (lv_at hl 0 rfl) (lv_at hl 4 rfl) dL_law_827 dL_law_828 dL_law_830 (by decide) dL_law_831 dL_law_832 ?_
  refine g_arg E hS (j := 2) (by omega) (lv_at hl 0 rfl) (lv_at hl 4 rfl) dL_law_833 dL_law_834 dL_law_836 (by decide) dL_law_837 dL_law_838 ?_
  obtain ⟨o, g1, hF, h3, hS1, hall⟩ := (o_letter I (xs (4 * i + 1)) (xs (4 * i + 2))).law mx hq hSo hz rfl
  have hcode := Okc.of kc_letterT hF
  refine lv_aload_n hx hb dL_law_839 rfl (lv_at hl 3 rfl) ?_
  refine g_callp (vx_runSW (As := [.ref base, .int (xs (4 * i + 1)), .int (xs (4 * i + 2)), .ref (base + 162)]) (rest := []) ⟨hx, hb, hml, hown, hts⟩ (hL_letter l hst D base g base (base + 162) 1 (xs (4 * i + 1)) (xs (4 * i + 2)) o g1 hF I.sh.1 hS1 (by omega) hcode) (vx_cwSW 4 hts gL_law_L_letter rfl rfl rfl (by decide +kernel) ⟨Nat.le_of_ble_eq_true rfl, Nat.le_of_ble_eq_true rfl⟩) (gC.preS hE hP hS [.ref base, .int (xs (4 * i + 1)), .int (xs (4 * i + 2)), .ref (base + 162)]) rfl rfl hl.1 rfl (lv_room (Nat.le_of_ble_eq_true rfl)) dL_law_840 ⟨Nat.le_trans (by omega) hc, Nat.le_trans (by omega) hs⟩) hS (fun r gg H locs hpost hP hS => ?_)
  obtain ⟨hr, k8, v, g2, hM, k82, hth, hS2, hval, hI2⟩ := hall _ r gg hpost
  refine lv_istore (lv' := [(5, .int r), (0, .ref b), (1, .ref base), (2, .ref (base + 153)), (3, .ref (base + 162)), (4, .int (nI (4 * i)))]) hx hb dL_law_843 hl (by decide) rfl (fun ls hl => ?_)
  refine lv_aload_n hx hb dL_law_845 rfl (lv_at hl 3 rfl) ?_
  refine g_arg E hS (j := 1) (by omega) (lv_at hl 1 rfl) (lv_at hl 5 rfl) dL_law_846 dL_law_847 dL_law_849 (by decide) dL_law_850 dL_law_851 ?_
  refine g_arg E hS (j := 2) (by omega) (lv_at hl 1 rfl) (lv_at hl 5 rfl) dL_law_852 dL_law_853 dL_law_855 (by decide) dL_law_856 dL_law_857 ?_
  refine g_calli (va_runV (As := [.int (xs (4 * i + 1)), .int (xs (4 * i + 2))]) (rest := []) ⟨hx, hb, hml, hown, hts⟩ (k7_letter l D base gg (base + 153) (xs (4 * i + 1)) (xs (4 * i + 2)) v g2 hM) (cwV 2 hts gL_law_X7_letter rfl rfl rfl (by decide +kernel) ⟨Nat.le_of_ble_eq_true rfl, Nat.le_of_ble_eq_true rfl⟩) (gC.preV hE hP hS 7 rfl (by decide) k8 [.int (xs (4 * i + 1)), .int (xs (4 * i + 2))]) rfl rfl hl.1 rfl (lv_room (Nat.le_of_ble_eq_true rfl)) dL_law_858 ⟨Nat.le_trans (by omega) hc, Nat.le_trans (by omega) hs⟩) hS (fun H locs hP hS => ?_)
  refine g_tail E hP hS k82 (hth.trans hr.symm) hl dL_law_861 dL_law_863 dL_law_864 dL_law_867 dL_law_869 dL_law_874 dL_law_876 (t15 := 891) (by decide) (Nat.le_trans (by omega) hc) (Nat.le_trans (by omega) hs) (fun ls hl hn H locs hP hS => ?_) (fun ls hl h0 H locs hP hS => ?_)
  · refine lv_goto (tgt := 1297) hx hb dL_law_891 (by decide) ?_
    exact W.widen (by omega) (by omega) (kk g2 H locs ls hI2 hP hS (lv_sub hl [2, 3, 4, 5, 6] rfl))
  · have ho0 : o.1 = 0 := by
      rcases hcode with w | w
      · exact w
      · rw [hr, w] at h0; exact absurd h0 (by decide)
    obtain ⟨hv, hJ⟩ := hval ho0
    refine g_cmpI E hP hS2 (hJ.trans (by rw [hv])) hl dL_law_879 dL_law_880 dL_law_881 dL_law_882 dL_law_884 dL_law_885 dL_law_886 ?_
    refine lv_goto (tgt := 1297) hx hb dL_law_891 (by decide) ?_
    exact W.widen (by omega) (by omega) (kk g2 H locs ls hI2 hP hS (lv_sub hl [2, 3, 4, 5, 6] rfl))
set_option maxHeartbeats 4000000 in
set_option maxRecDepth 100000 in
theorem lc_target {p : Program} {l : Launch} {e : Env} {s : State} {m : MethodId} {below : List Frame} {meth : Method} {c : Code} {H : Heap} {locs : List Loc} {cells slots : Nat} {Q : State → Prop} {ls : Array Slot} {D : va_G} {base b L : Nat} {xs : Nat → Int32} {g : g_H} {i Qn : Nat} (E : LE p l s m c b L xs D base) (hi : 4 * i + 3 < L) (hQ : Qn + 241 < 2 ^ 26) (hI : LI base g Qn) (hP : gP base D s g H) (hS : va_S (gA base) s.heap H locs) (hl : lv_has ls 9 [(0, .ref b), (1, .ref base), (2, .ref (base + 153)), (3, .ref (base + 162)), (4, .int (nI (4 * i)))]) (hc : cells + 90 ≤ 601024) (hs : slots + 800 ≤ 7293034)
    (kk : ∀ (g : g_H) (H : Heap) (locs : List Loc) (ls : Array Slot), LI base g (Qn + 240) → gP base D s g H → va_S (gA base) s.heap H locs → lv_has ls 9 [(0, .ref b), (1, .ref base), (2, .ref (base + 153)), (3, .ref (base + 162)), (4, .int (nI (4 * i)))] → W p l e room_1 s m #[Value.ref b] below meth c H locs (cells + 90) (slots + 800) Q (F0 m 1297 ls [])) : W p l e room_1 s m #[Value.ref b] below meth c H locs cells slots Q (F0 m 894 ls []) := by
  have E0 := E
  obtain ⟨hx, hb, hml, hown, hts, hE, hX, hbl, hbb, hst, hL⟩ := E0
  obtain ⟨t, n1, n2, n3, n4, q, I, mx, hq, hSo, hz⟩ := hI
  refine lv_aload_n hx hb dL_law_894 rfl (lv_at hl 1 rfl) ?_
  refine g_arg E hS (j := 1) (by omega) (lv_at hl 0 rfl) (lv_at hl 4 rfl) dL_law_895 dL_law_896 dL_law_898 (by decide) dL_law_899 dL_law_900 ?_
  refine g_arg E hS (j := 2) (by omega) (lv_at hl 0 rfl) (lv_at hl 4 rfl) dL_law_901 dL_law_902 dL_law_904 (by decide) dL_law_905 dL_law_906 ?_
  obtain ⟨o, g1, hF, h3, hS1, hall⟩ := (o_target I (xs (4 * i + 1)) (xs (4 * i + 2))).law mx hq hSo hz rfl
  have hcode := Okc.of kc_target hF
  refine lv_aload_n hx hb dL_law_907 rfl (lv_at hl 3 rfl) ?_
  refine g_callp (vx_runSW (As := [.ref base, .int (xs (4 * i + 1)), .int (xs (4 * i + 2)), .ref (base + 162)]) (rest := []) ⟨hx, hb, hml, hown, hts⟩ (hL_target l hst D base g base (base + 162) 1 (xs (4 * i + 1)) (xs (4 * i + 2)) o g1 hF I.sh.1 hS1 (by omega) hcode) (vx_cwSW 4 hts gL_law_L_target rfl rfl rfl (by decide +kernel) ⟨Nat.le_of_ble_eq_true rfl, Nat.le_of_ble_eq_true rfl⟩) (gC.preS hE hP hS [.ref base, .int (xs (4 * i + 1)), .int (xs (4 * i + 2)), .ref (base + 162)]) rfl rfl hl.1 rfl (lv_room (Nat.le_of_ble_eq_true rfl)) dL_law_908 ⟨Nat.le_trans (by omega) hc, Nat.le_trans (by omega) hs⟩) hS (fun r gg H locs hpost hP hS => ?_)
  obtain ⟨hr, k8, v, g2, hM, k82, hth, hS2, hval, hI2⟩ := hall _ r gg hpost
  refine lv_istore (lv' := [(5, .int r), (0, .ref b), (1, .ref base), (2, .ref (base + 153)), (3, .ref (base + 162)), (4, .int (nI (4 * i)))]) hx hb dL_law_911 hl (by decide) rfl (fun ls hl => ?_)
  refine lv_aload_n hx hb dL_law_913 rfl (lv_at hl 3 rfl) ?_
  refine g_arg E hS (j := 1) (by omega) (lv_at hl 1 rfl) (lv_at hl 5 rfl) dL_law_914 dL_law_915 dL_law_917 (by decide) dL_law_918 dL_law_919 ?_
  refine g_arg E hS (j := 2) (by omega) (lv_at hl 1 rfl) (lv_at hl 5 rfl) dL_law_920 dL_law_921 dL_law_923 (by decide) dL_law_924 dL_law_925 ?_
  refine g_calli (va_runV (As := [.int (xs (4 * i + 1)), .int (xs (4 * i + 2))]) (rest := []) ⟨hx, hb, hml, hown, hts⟩ (k7_target l D base gg (base + 153) (xs (4 * i + 1)) (xs (4 * i + 2)) v g2 hM) (cwV 2 hts gL_law_X7_target rfl rfl rfl (by decide +kernel) ⟨Nat.le_of_ble_eq_true rfl, Nat.le_of_ble_eq_true rfl⟩) (gC.preV hE hP hS 7 rfl (by decide) k8 [.int (xs (4 * i + 1)), .int (xs (4 * i + 2))]) rfl rfl hl.1 rfl (lv_room (Nat.le_of_ble_eq_true rfl)) dL_law_926 ⟨Nat.le_trans (by omega) hc, Nat.le_trans (by omega) hs⟩) hS (fun H locs hP hS => ?_)
  refine g_tail E hP hS k82 (hth.trans hr.symm) hl dL_law_929 dL_law_931 dL_law_932 dL_law_935 dL_law_937 dL_law_942 dL_law_944 (t15 := 959) (by decide) (Nat.le_trans (by omega) hc) (Nat.le_trans (by omega) hs) (fun ls hl hn H locs hP hS => ?_) (fun ls hl h0 H locs hP hS => ?_)
  · refine lv_goto (tgt := 1297) hx hb dL_law_959 (by decide) ?_
    exact W.widen (by omega) (by omega) (kk g2 H locs ls hI2 hP hS (lv_sub hl [2, 3, 4, 5, 6] rfl))
  · have ho0 : o.1 = 0 := by
      rcases hcode with w | w
      · exact w
      · rw [hr, w] at h0; exact absurd h0 (by decide)
    obtain ⟨hv, hJ⟩ := hval ho0
    refine g_cmpI E hP hS2 (hJ.trans (by rw [hv])) hl dL_law_947 dL_law_948 dL_law_949 dL_law_950 dL_law_952 dL_law_953 dL_law_954 ?_
    refine lv_goto (tgt := 1297) hx hb dL_law_959 (by decide) ?_
    exact W.widen (by omega) (by omega) (kk g2 H locs ls hI2 hP hS (lv_sub hl [2, 3, 4, 5, 6] rfl))
set_option maxHeartbeats 4000000 in
set_option maxRecDepth 100000 in
theorem lc_pass {p : Program} {l : Launch} {e : Env} {s : State} {m : MethodId} {below : List Frame} {meth : Method} {c : Code} {H : Heap} {locs : List Loc} {cells slots : Nat} {Q : State → Prop} {ls : Array Slot} {D : va_G} {base b L : Nat} {xs : Nat → Int32} {g : g_H} {i Qn : Nat} (E : LE p l s m c b L xs D base) (hi : 4 * i + 3 < L) (hQ : Qn + 241 < 2 ^ 26) (hI : LI base g Qn) (hP : gP base D s g H) (hS : va_S (gA base) s.heap H locs) (hl : lv_has ls 9 [(0, .ref b), (1, .ref base), (2, .ref (base + 153)), (3, .ref (base + 162)), (4, .int (nI (4 * i)))]) (hc : cells + 90 ≤ 601024) (hs : slots + 800 ≤ 7293034)
    (kk : ∀ (g : g_H) (H : Heap) (locs : List Loc) (ls : Array Slot), LI base g (Qn + 240) → gP base D s g H → va_S (gA base) s.heap H locs → lv_has ls 9 [(0, .ref b), (1, .ref base), (2, .ref (base + 153)), (3, .ref (base + 162)), (4, .int (nI (4 * i)))] → W p l e room_1 s m #[Value.ref b] below meth c H locs (cells + 90) (slots + 800) Q (F0 m 1297 ls [])) : W p l e room_1 s m #[Value.ref b] below meth c H locs cells slots Q (F0 m 962 ls []) := by
  have E0 := E
  obtain ⟨hx, hb, hml, hown, hts, hE, hX, hbl, hbb, hst, hL⟩ := E0
  obtain ⟨t, n1, n2, n3, n4, q, I, mx, hq, hSo, hz⟩ := hI
  refine lv_aload_n hx hb dL_law_962 rfl (lv_at hl 1 rfl) ?_
  refine g_arg E hS (j := 1) (by omega) (lv_at hl 0 rfl) (lv_at hl 4 rfl) dL_law_963 dL_law_964 dL_law_966 (by decide) dL_law_967 dL_law_968 ?_
  obtain ⟨o, g1, hF, h3, hS1, hall⟩ := (o_pass I (by omega) (xs (4 * i + 1))).law mx hq hSo hz rfl
  have hcode := Okc.of kc_pass hF
  refine lv_aload_n hx hb dL_law_969 rfl (lv_at hl 3 rfl) ?_
  refine g_callp (vx_runSW (As := [.ref base, .int (xs (4 * i + 1)), .ref (base + 162)]) (rest := []) ⟨hx, hb, hml, hown, hts⟩ (hL_pass l hst D base g base (base + 162) 1 (xs (4 * i + 1)) o g1 hF I.sh.1 hS1 (by omega) hcode) (vx_cwSW 3 hts gL_law_L_pass rfl rfl rfl (by decide +kernel) ⟨Nat.le_of_ble_eq_true rfl, Nat.le_of_ble_eq_true rfl⟩) (gC.preS hE hP hS [.ref base, .int (xs (4 * i + 1)), .ref (base + 162)]) rfl rfl hl.1 rfl (lv_room (Nat.le_of_ble_eq_true rfl)) dL_law_970 ⟨Nat.le_trans (by omega) hc, Nat.le_trans (by omega) hs⟩) hS (fun r gg H locs hpost hP hS => ?_)
  obtain ⟨hr, k8, v, g2, hM, k82, hth, hS2, hval, hI2⟩ := hall _ r gg hpost
  refine lv_istore (lv' := [(5, .int r), (0, .ref b), (1, .ref base), (2, .ref (base + 153)), (3, .ref (base + 162)), (4, .int (nI (4 * i)))]) hx hb dL_law_973 hl (by decide) rfl (fun ls hl => ?_)
  refine lv_aload_n hx hb dL_law_975 rfl (lv_at hl 3 rfl) ?_
  refine g_arg E hS (j := 1) (by omega) (lv_at hl 1 rfl) (lv_at hl 5 rfl) dL_law_976 dL_law_977 dL_law_979 (by decide) dL_law_980 dL_law_981 ?_
  refine g_calli (va_runV (As := [.int (xs (4 * i + 1))]) (rest := []) ⟨hx, hb, hml, hown, hts⟩ (k7_pass l D base gg (base + 153) (xs (4 * i + 1)) v g2 hM) (cwV 1 hts gL_law_X7_pass rfl rfl rfl (by decide +kernel) ⟨Nat.le_of_ble_eq_true rfl, Nat.le_of_ble_eq_true rfl⟩) (gC.preV hE hP hS 7 rfl (by decide) k8 [.int (xs (4 * i + 1))]) rfl rfl hl.1 rfl (lv_room (Nat.le_of_ble_eq_true rfl)) dL_law_982 ⟨Nat.le_trans (by omega) hc, Nat.le_trans (by omega) hs⟩) hS (fun H locs hP hS => ?_)
  refine g_tail E hP hS k82 (hth.trans hr.symm) hl dL_law_985 dL_law_987 dL_law_988 dL_law_991 dL_law_993 dL_law_998 dL_law_1000 (t15 := 1015) (by decide) (Nat.le_trans (by omega) hc) (Nat.le_trans (by omega) hs) (fun ls hl hn H locs hP hS => ?_) (fun ls hl h0 H locs hP hS => ?_)
  · refine lv_goto (tgt := 1297) hx hb dL_law_1015 (by decide) ?_
    exact W.widen (by omega) (by omega) (kk g2 H locs ls hI2 hP hS (lv_sub hl [2, 3, 4, 5, 6] rfl))
  · have ho0 : o.1 = 0 := by
      rcases hcode with w | w
      · exact w
      · rw [hr, w] at h0; exact absurd h0 (by decide)
    obtain ⟨hv, hJ⟩ := hval ho0
    refine g_cmpI E hP hS2 (hJ.trans (by rw [hv])) hl dL_law_1003 dL_law_1004 dL_law_1005 dL_law_1006 dL_law_1008 dL_law_1009 dL_law_1010 ?_
    refine lv_goto (tgt := 1297) hx hb dL_law_1015 (by decide) ?_
    exact W.widen (by omega) (by omega) (kk g2 H locs ls hI2 hP hS (lv_sub hl [2, 3, 4, 5, 6] rfl))
set_option maxHeartbeats 4000000 in
set_option maxRecDepth 100000 in
theorem lc_count {p : Program} {l : Launch} {e : Env} {s : State} {m : MethodId} {below : List Frame} {meth : Method} {c : Code} {H : Heap} {locs : List Loc} {cells slots : Nat} {Q : State → Prop} {ls : Array Slot} {D : va_G} {base b L : Nat} {xs : Nat → Int32} {g : g_H} {i Qn : Nat} (E : LE p l s m c b L xs D base) (hi : 4 * i + 3 < L) (hQ : Qn + 241 < 2 ^ 26) (hI : LI base g Qn) (hP : gP base D s g H) (hS : va_S (gA base) s.heap H locs) (hl : lv_has ls 9 [(0, .ref b), (1, .ref base), (2, .ref (base + 153)), (3, .ref (base + 162)), (4, .int (nI (4 * i)))]) (hc : cells + 90 ≤ 601024) (hs : slots + 800 ≤ 7293034)
    (kk : ∀ (g : g_H) (H : Heap) (locs : List Loc) (ls : Array Slot), LI base g (Qn + 240) → gP base D s g H → va_S (gA base) s.heap H locs → lv_has ls 9 [(0, .ref b), (1, .ref base), (2, .ref (base + 153)), (3, .ref (base + 162)), (4, .int (nI (4 * i)))] → W p l e room_1 s m #[Value.ref b] below meth c H locs (cells + 90) (slots + 800) Q (F0 m 1297 ls [])) : W p l e room_1 s m #[Value.ref b] below meth c H locs cells slots Q (F0 m 1018 ls []) := by
  have E0 := E
  obtain ⟨hx, hb, hml, hown, hts, hE, hX, hbl, hbb, hst, hL⟩ := E0
  obtain ⟨t, n1, n2, n3, n4, q, I, mx, hq, hSo, hz⟩ := hI
  refine lv_aload_n hx hb dL_law_1018 rfl (lv_at hl 1 rfl) ?_
  refine g_arg E hS (j := 1) (by omega) (lv_at hl 0 rfl) (lv_at hl 4 rfl) dL_law_1019 dL_law_1020 dL_law_1022 (by decide) dL_law_1023 dL_law_1024 ?_
  obtain ⟨o, g1, hF, h3, hS1, hall⟩ := (o_count I (xs (4 * i + 1))).law mx hq hSo hz rfl
  have hcode := Okc.of kc_count hF
  refine lv_aload_n hx hb dL_law_1025 rfl (lv_at hl 3 rfl) ?_
  refine g_callp (vx_runSW (As := [.ref base, .int (xs (4 * i + 1)), .ref (base + 162)]) (rest := []) ⟨hx, hb, hml, hown, hts⟩ (hL_count l hst D base g base (base + 162) 1 (xs (4 * i + 1)) o g1 hF I.sh.1 hS1 (by omega) hcode) (vx_cwSW 3 hts gL_law_L_count rfl rfl rfl (by decide +kernel) ⟨Nat.le_of_ble_eq_true rfl, Nat.le_of_ble_eq_true rfl⟩) (gC.preS hE hP hS [.ref base, .int (xs (4 * i + 1)), .ref (base + 162)]) rfl rfl hl.1 rfl (lv_room (Nat.le_of_ble_eq_true rfl)) dL_law_1026 ⟨Nat.le_trans (by omega) hc, Nat.le_trans (by omega) hs⟩) hS (fun r gg H locs hpost hP hS => ?_)
  obtain ⟨hr, k8, v, g2, hM, k82, hth, hS2, hval, hI2⟩ := hall _ r gg hpost
  refine lv_istore (lv' := [(5, .int r), (0, .ref b), (1, .ref base), (2, .ref (base + 153)), (3, .ref (base + 162)), (4, .int (nI (4 * i)))]) hx hb dL_law_1029 hl (by decide) rfl (fun ls hl => ?_)
  refine lv_aload_n hx hb dL_law_1031 rfl (lv_at hl 3 rfl) ?_
  refine g_arg E hS (j := 1) (by omega) (lv_at hl 1 rfl) (lv_at hl 5 rfl) dL_law_1032 dL_law_1033 dL_law_1035 (by decide) dL_law_1036 dL_law_1037 ?_
  refine g_calli (va_runV (As := [.int (xs (4 * i + 1))]) (rest := []) ⟨hx, hb, hml, hown, hts⟩ (k7_count l D base gg (base + 153) (xs (4 * i + 1)) v g2 hM) (cwV 1 hts gL_law_X7_count rfl rfl rfl (by decide +kernel) ⟨Nat.le_of_ble_eq_true rfl, Nat.le_of_ble_eq_true rfl⟩) (gC.preV hE hP hS 7 rfl (by decide) k8 [.int (xs (4 * i + 1))]) rfl rfl hl.1 rfl (lv_room (Nat.le_of_ble_eq_true rfl)) dL_law_1038 ⟨Nat.le_trans (by omega) hc, Nat.le_trans (by omega) hs⟩) hS (fun H locs hP hS => ?_)
  refine g_tail E hP hS k82 (hth.trans hr.symm) hl dL_law_1041 dL_law_1043 dL_law_1044 dL_law_1047 dL_law_1049 dL_law_1054 dL_law_1056 (t15 := 1071) (by decide) (Nat.le_trans (by omega) hc) (Nat.le_trans (by omega) hs) (fun ls hl hn H locs hP hS => ?_) (fun ls hl h0 H locs hP hS => ?_)
  · refine lv_goto (tgt := 1297) hx hb dL_law_1071 (by decide) ?_
    exact W.widen (by omega) (by omega) (kk g2 H locs ls hI2 hP hS (lv_sub hl [2, 3, 4, 5, 6] rfl))
  · have ho0 : o.1 = 0 := by
      rcases hcode with w | w
      · exact w
      · rw [hr, w] at h0; exact absurd h0 (by decide)
    obtain ⟨hv, hJ⟩ := hval ho0
    refine g_cmpI E hP hS2 (hJ.trans (by rw [hv])) hl dL_law_1059 dL_law_1060 dL_law_1061 dL_law_1062 dL_law_1064 dL_law_1065 dL_law_1066 ?_
    refine lv_goto (tgt := 1297) hx hb dL_law_1071 (by decide) ?_
    exact W.widen (by omega) (by omega) (kk g2 H locs ls hI2 hP hS (lv_sub hl [2, 3, 4, 5, 6] rfl))
set_option maxHeartbeats 4000000 in
set_option maxRecDepth 100000 in
theorem lc_comes {p : Program} {l : Launch} {e : Env} {s : State} {m : MethodId} {below : List Frame} {meth : Method} {c : Code} {H : Heap} {locs : List Loc} {cells slots : Nat} {Q : State → Prop} {ls : Array Slot} {D : va_G} {base b L : Nat} {xs : Nat → Int32} {g : g_H} {i Qn : Nat} (E : LE p l s m c b L xs D base) (hi : 4 * i + 3 < L) (hQ : Qn + 241 < 2 ^ 26) (hI : LI base g Qn) (hP : gP base D s g H) (hS : va_S (gA base) s.heap H locs) (hl : lv_has ls 9 [(0, .ref b), (1, .ref base), (2, .ref (base + 153)), (3, .ref (base + 162)), (4, .int (nI (4 * i)))]) (hc : cells + 90 ≤ 601024) (hs : slots + 800 ≤ 7293034)
    (kk : ∀ (g : g_H) (H : Heap) (locs : List Loc) (ls : Array Slot), LI base g (Qn + 240) → gP base D s g H → va_S (gA base) s.heap H locs → lv_has ls 9 [(0, .ref b), (1, .ref base), (2, .ref (base + 153)), (3, .ref (base + 162)), (4, .int (nI (4 * i)))] → W p l e room_1 s m #[Value.ref b] below meth c H locs (cells + 90) (slots + 800) Q (F0 m 1297 ls [])) : W p l e room_1 s m #[Value.ref b] below meth c H locs cells slots Q (F0 m 1074 ls []) := by
  have E0 := E
  obtain ⟨hx, hb, hml, hown, hts, hE, hX, hbl, hbb, hst, hL⟩ := E0
  obtain ⟨t, n1, n2, n3, n4, q, I, mx, hq, hSo, hz⟩ := hI
  refine lv_aload_n hx hb dL_law_1074 rfl (lv_at hl 1 rfl) ?_
  refine g_arg E hS (j := 1) (by omega) (lv_at hl 0 rfl) (lv_at hl 4 rfl) dL_law_1075 dL_law_1076 dL_law_1078 (by decide) dL_law_1079 dL_law_1080 ?_
  obtain ⟨o, g1, hF, h3, hS1, hall⟩ := (o_comes I (by omega) (xs (4 * i + 1))).law mx hq hSo hz rfl
  have hcode := Okc.of kc_comes hF
  refine lv_aload_n hx hb dL_law_1081 rfl (lv_at hl 3 rfl) ?_
  refine g_callp (vx_runSW (As := [.ref base, .int (xs (4 * i + 1)), .ref (base + 162)]) (rest := []) ⟨hx, hb, hml, hown, hts⟩ (hL_comes l hst D base g base (base + 162) 1 (xs (4 * i + 1)) o g1 hF I.sh.1 hS1 (by omega) hcode) (vx_cwSW 3 hts gL_law_L_comes rfl rfl rfl (by decide +kernel) ⟨Nat.le_of_ble_eq_true rfl, Nat.le_of_ble_eq_true rfl⟩) (gC.preS hE hP hS [.ref base, .int (xs (4 * i + 1)), .ref (base + 162)]) rfl rfl hl.1 rfl (lv_room (Nat.le_of_ble_eq_true rfl)) dL_law_1082 ⟨Nat.le_trans (by omega) hc, Nat.le_trans (by omega) hs⟩) hS (fun r gg H locs hpost hP hS => ?_)
  obtain ⟨hr, k8, v, g2, hM, k82, hth, hS2, hval, hI2⟩ := hall _ r gg hpost
  refine lv_istore (lv' := [(5, .int r), (0, .ref b), (1, .ref base), (2, .ref (base + 153)), (3, .ref (base + 162)), (4, .int (nI (4 * i)))]) hx hb dL_law_1085 hl (by decide) rfl (fun ls hl => ?_)
  refine lv_aload_n hx hb dL_law_1087 rfl (lv_at hl 3 rfl) ?_
  refine g_arg E hS (j := 1) (by omega) (lv_at hl 1 rfl) (lv_at hl 5 rfl) dL_law_1088 dL_law_1089 dL_law_1091 (by decide) dL_law_1092 dL_law_1093 ?_
  refine g_calli (va_runV (As := [.int (xs (4 * i + 1))]) (rest := []) ⟨hx, hb, hml, hown, hts⟩ (k7_comes l D base gg (base + 153) (xs (4 * i + 1)) v g2 hM) (cwV 1 hts gL_law_X7_comes rfl rfl rfl (by decide +kernel) ⟨Nat.le_of_ble_eq_true rfl, Nat.le_of_ble_eq_true rfl⟩) (gC.preV hE hP hS 7 rfl (by decide) k8 [.int (xs (4 * i + 1))]) rfl rfl hl.1 rfl (lv_room (Nat.le_of_ble_eq_true rfl)) dL_law_1094 ⟨Nat.le_trans (by omega) hc, Nat.le_trans (by omega) hs⟩) hS (fun H locs hP hS => ?_)
  refine g_tail E hP hS k82 (hth.trans hr.symm) hl dL_law_1097 dL_law_1099 dL_law_1100 dL_law_1103 dL_law_1105 dL_law_1110 dL_law_1112 (t15 := 1127) (by decide) (Nat.le_trans (by omega) hc) (Nat.le_trans (by omega) hs) (fun ls hl hn H locs hP hS => ?_) (fun ls hl h0 H locs hP hS => ?_)
  · refine lv_goto (tgt := 1297) hx hb dL_law_1127 (by decide) ?_
    exact W.widen (by omega) (by omega) (kk g2 H locs ls hI2 hP hS (lv_sub hl [2, 3, 4, 5, 6] rfl))
  · have ho0 : o.1 = 0 := by
      rcases hcode with w | w
      · exact w
      · rw [hr, w] at h0; exact absurd h0 (by decide)
    obtain ⟨hv, hJ⟩ := hval ho0
    refine g_cmpI E hP hS2 (hJ.trans (by rw [hv])) hl dL_law_1115 dL_law_1116 dL_law_1117 dL_law_1118 dL_law_1120 dL_law_1121 dL_law_1122 ?_
    refine lv_goto (tgt := 1297) hx hb dL_law_1127 (by decide) ?_
    exact W.widen (by omega) (by omega) (kk g2 H locs ls hI2 hP hS (lv_sub hl [2, 3, 4, 5, 6] rfl))
set_option maxHeartbeats 4000000 in
set_option maxRecDepth 100000 in
theorem lc_advise {p : Program} {l : Launch} {e : Env} {s : State} {m : MethodId} {below : List Frame} {meth : Method} {c : Code} {H : Heap} {locs : List Loc} {cells slots : Nat} {Q : State → Prop} {ls : Array Slot} {D : va_G} {base b L : Nat} {xs : Nat → Int32} {g : g_H} {i Qn : Nat} (E : LE p l s m c b L xs D base) (hi : 4 * i + 3 < L) (hQ : Qn + 241 < 2 ^ 26) (hI : LI base g Qn) (hP : gP base D s g H) (hS : va_S (gA base) s.heap H locs) (hl : lv_has ls 9 [(0, .ref b), (1, .ref base), (2, .ref (base + 153)), (3, .ref (base + 162)), (4, .int (nI (4 * i)))]) (hc : cells + 90 ≤ 601024) (hs : slots + 800 ≤ 7293034)
    (kk : ∀ (g : g_H) (H : Heap) (locs : List Loc) (ls : Array Slot), LI base g (Qn + 240) → gP base D s g H → va_S (gA base) s.heap H locs → lv_has ls 9 [(0, .ref b), (1, .ref base), (2, .ref (base + 153)), (3, .ref (base + 162)), (4, .int (nI (4 * i)))] → W p l e room_1 s m #[Value.ref b] below meth c H locs (cells + 90) (slots + 800) Q (F0 m 1297 ls [])) : W p l e room_1 s m #[Value.ref b] below meth c H locs cells slots Q (F0 m 1130 ls []) := by
  have E0 := E
  obtain ⟨hx, hb, hml, hown, hts, hE, hX, hbl, hbb, hst, hL⟩ := E0
  obtain ⟨t, n1, n2, n3, n4, q, I, mx, hq, hSo, hz⟩ := hI
  refine lv_aload_n hx hb dL_law_1130 rfl (lv_at hl 1 rfl) ?_
  refine g_arg E hS (j := 1) (by omega) (lv_at hl 0 rfl) (lv_at hl 4 rfl) dL_law_1131 dL_law_1132 dL_law_1134 (by decide) dL_law_1135 dL_law_1136 ?_
  obtain ⟨o, g1, hF, h3, hS1, hall⟩ := (o_advise I (by omega) (xs (4 * i + 1))).law mx hq hSo hz rfl
  have hcode := Okc.of kc_advise hF
  refine lv_aload_n hx hb dL_law_1137 rfl (lv_at hl 3 rfl) ?_
  refine g_callp (vx_runSW (As := [.ref base, .int (xs (4 * i + 1)), .ref (base + 162)]) (rest := []) ⟨hx, hb, hml, hown, hts⟩ (hL_advise l hst D base g base (base + 162) 1 (xs (4 * i + 1)) o g1 hF I.sh.1 hS1 (by omega) hcode) (vx_cwSW 3 hts gL_law_L_advise rfl rfl rfl (by decide +kernel) ⟨Nat.le_of_ble_eq_true rfl, Nat.le_of_ble_eq_true rfl⟩) (gC.preS hE hP hS [.ref base, .int (xs (4 * i + 1)), .ref (base + 162)]) rfl rfl hl.1 rfl (lv_room (Nat.le_of_ble_eq_true rfl)) dL_law_1138 ⟨Nat.le_trans (by omega) hc, Nat.le_trans (by omega) hs⟩) hS (fun r gg H locs hpost hP hS => ?_)
  obtain ⟨hr, k8, v, g2, hM, k82, hth, hS2, hval, hI2⟩ := hall _ r gg hpost
  refine lv_istore (lv' := [(5, .int r), (0, .ref b), (1, .ref base), (2, .ref (base + 153)), (3, .ref (base + 162)), (4, .int (nI (4 * i)))]) hx hb dL_law_1141 hl (by decide) rfl (fun ls hl => ?_)
  refine lv_aload_n hx hb dL_law_1143 rfl (lv_at hl 3 rfl) ?_
  refine g_arg E hS (j := 1) (by omega) (lv_at hl 1 rfl) (lv_at hl 5 rfl) dL_law_1144 dL_law_1145 dL_law_1147 (by decide) dL_law_1148 dL_law_1149 ?_
  refine g_calli (va_runV (As := [.int (xs (4 * i + 1))]) (rest := []) ⟨hx, hb, hml, hown, hts⟩ (k7_advise l D base gg (base + 153) (xs (4 * i + 1)) v g2 hM) (cwV 1 hts gL_law_X7_advise rfl rfl rfl (by decide +kernel) ⟨Nat.le_of_ble_eq_true rfl, Nat.le_of_ble_eq_true rfl⟩) (gC.preV hE hP hS 7 rfl (by decide) k8 [.int (xs (4 * i + 1))]) rfl rfl hl.1 rfl (lv_room (Nat.le_of_ble_eq_true rfl)) dL_law_1150 ⟨Nat.le_trans (by omega) hc, Nat.le_trans (by omega) hs⟩) hS (fun H locs hP hS => ?_)
  refine g_tail E hP hS k82 (hth.trans hr.symm) hl dL_law_1153 dL_law_1155 dL_law_1156 dL_law_1159 dL_law_1161 dL_law_1166 dL_law_1168 (t15 := 1183) (by decide) (Nat.le_trans (by omega) hc) (Nat.le_trans (by omega) hs) (fun ls hl hn H locs hP hS => ?_) (fun ls hl h0 H locs hP hS => ?_)
  · refine lv_goto (tgt := 1297) hx hb dL_law_1183 (by decide) ?_
    exact W.widen (by omega) (by omega) (kk g2 H locs ls hI2 hP hS (lv_sub hl [2, 3, 4, 5, 6] rfl))
  · have ho0 : o.1 = 0 := by
      rcases hcode with w | w
      · exact w
      · rw [hr, w] at h0; exact absurd h0 (by decide)
    obtain ⟨hv, hJ⟩ := hval ho0
    refine g_cmpI E hP hS2 (hJ.trans (by rw [hv])) hl dL_law_1171 dL_law_1172 dL_law_1173 dL_law_1174 dL_law_1176 dL_law_1177 dL_law_1178 ?_
    refine lv_goto (tgt := 1297) hx hb dL_law_1183 (by decide) ?_
    exact W.widen (by omega) (by omega) (kk g2 H locs ls hI2 hP hS (lv_sub hl [2, 3, 4, 5, 6] rfl))
set_option maxHeartbeats 4000000 in
set_option maxRecDepth 100000 in
theorem lc_trusted {p : Program} {l : Launch} {e : Env} {s : State} {m : MethodId} {below : List Frame} {meth : Method} {c : Code} {H : Heap} {locs : List Loc} {cells slots : Nat} {Q : State → Prop} {ls : Array Slot} {D : va_G} {base b L : Nat} {xs : Nat → Int32} {g : g_H} {i Qn : Nat} (E : LE p l s m c b L xs D base) (hi : 4 * i + 3 < L) (hQ : Qn + 241 < 2 ^ 26) (hI : LI base g Qn) (hP : gP base D s g H) (hS : va_S (gA base) s.heap H locs) (hl : lv_has ls 9 [(0, .ref b), (1, .ref base), (2, .ref (base + 153)), (3, .ref (base + 162)), (4, .int (nI (4 * i)))]) (hc : cells + 90 ≤ 601024) (hs : slots + 800 ≤ 7293034)
    (kk : ∀ (g : g_H) (H : Heap) (locs : List Loc) (ls : Array Slot), LI base g (Qn + 240) → gP base D s g H → va_S (gA base) s.heap H locs → lv_has ls 9 [(0, .ref b), (1, .ref base), (2, .ref (base + 153)), (3, .ref (base + 162)), (4, .int (nI (4 * i)))] → W p l e room_1 s m #[Value.ref b] below meth c H locs (cells + 90) (slots + 800) Q (F0 m 1297 ls [])) : W p l e room_1 s m #[Value.ref b] below meth c H locs cells slots Q (F0 m 1186 ls []) := by
  have E0 := E
  obtain ⟨hx, hb, hml, hown, hts, hE, hX, hbl, hbb, hst, hL⟩ := E0
  obtain ⟨t, n1, n2, n3, n4, q, I, mx, hq, hSo, hz⟩ := hI
  refine lv_aload_n hx hb dL_law_1186 rfl (lv_at hl 1 rfl) ?_
  refine g_arg E hS (j := 1) (by omega) (lv_at hl 0 rfl) (lv_at hl 4 rfl) dL_law_1187 dL_law_1188 dL_law_1190 (by decide) dL_law_1191 dL_law_1192 ?_
  obtain ⟨o, g1, hF, h3, hS1, hall⟩ := (o_trusted I (xs (4 * i + 1))).law mx hq hSo hz rfl
  have hcode := Okc.of kc_trusted hF
  refine lv_aload_n hx hb dL_law_1193 rfl (lv_at hl 3 rfl) ?_
  refine g_callp (vx_runSW (As := [.ref base, .int (xs (4 * i + 1)), .ref (base + 162)]) (rest := []) ⟨hx, hb, hml, hown, hts⟩ (hL_trusted l hst D base g base (base + 162) 1 (xs (4 * i + 1)) o g1 hF I.sh.1 hS1 (by omega) hcode) (vx_cwSW 3 hts gL_law_L_trusted rfl rfl rfl (by decide +kernel) ⟨Nat.le_of_ble_eq_true rfl, Nat.le_of_ble_eq_true rfl⟩) (gC.preS hE hP hS [.ref base, .int (xs (4 * i + 1)), .ref (base + 162)]) rfl rfl hl.1 rfl (lv_room (Nat.le_of_ble_eq_true rfl)) dL_law_1194 ⟨Nat.le_trans (by omega) hc, Nat.le_trans (by omega) hs⟩) hS (fun r gg H locs hpost hP hS => ?_)
  obtain ⟨hr, k8, v, g2, hM, k82, hth, hS2, hval, hI2⟩ := hall _ r gg hpost
  refine lv_istore (lv' := [(5, .int r), (0, .ref b), (1, .ref base), (2, .ref (base + 153)), (3, .ref (base + 162)), (4, .int (nI (4 * i)))]) hx hb dL_law_1197 hl (by decide) rfl (fun ls hl => ?_)
  refine lv_aload_n hx hb dL_law_1199 rfl (lv_at hl 3 rfl) ?_
  refine g_arg E hS (j := 1) (by omega) (lv_at hl 1 rfl) (lv_at hl 5 rfl) dL_law_1200 dL_law_1201 dL_law_1203 (by decide) dL_law_1204 dL_law_1205 ?_
  refine g_calli (va_runV (As := [.int (xs (4 * i + 1))]) (rest := []) ⟨hx, hb, hml, hown, hts⟩ (k7_trusted l D base gg (base + 153) (xs (4 * i + 1)) v g2 hM) (cwV 1 hts gL_law_X7_trusted rfl rfl rfl (by decide +kernel) ⟨Nat.le_of_ble_eq_true rfl, Nat.le_of_ble_eq_true rfl⟩) (gC.preV hE hP hS 7 rfl (by decide) k8 [.int (xs (4 * i + 1))]) rfl rfl hl.1 rfl (lv_room (Nat.le_of_ble_eq_true rfl)) dL_law_1206 ⟨Nat.le_trans (by omega) hc, Nat.le_trans (by omega) hs⟩) hS (fun H locs hP hS => ?_)
  refine g_tail E hP hS k82 (hth.trans hr.symm) hl dL_law_1209 dL_law_1211 dL_law_1212 dL_law_1215 dL_law_1217 dL_law_1222 dL_law_1224 (t15 := 1239) (by decide) (Nat.le_trans (by omega) hc) (Nat.le_trans (by omega) hs) (fun ls hl hn H locs hP hS => ?_) (fun ls hl h0 H locs hP hS => ?_)
  · refine lv_goto (tgt := 1297) hx hb dL_law_1239 (by decide) ?_
    exact W.widen (by omega) (by omega) (kk g2 H locs ls hI2 hP hS (lv_sub hl [2, 3, 4, 5, 6] rfl))
  · have ho0 : o.1 = 0 := by
      rcases hcode with w | w
      · exact w
      · rw [hr, w] at h0; exact absurd h0 (by decide)
    obtain ⟨hv, hJ⟩ := hval ho0
    refine g_cmpI E hP hS2 (hJ.trans (by rw [hv])) hl dL_law_1227 dL_law_1228 dL_law_1229 dL_law_1230 dL_law_1232 dL_law_1233 dL_law_1234 ?_
    refine lv_goto (tgt := 1297) hx hb dL_law_1239 (by decide) ?_
    exact W.widen (by omega) (by omega) (kk g2 H locs ls hI2 hP hS (lv_sub hl [2, 3, 4, 5, 6] rfl))
set_option maxHeartbeats 4000000 in
set_option maxRecDepth 100000 in
theorem lc_mean {p : Program} {l : Launch} {e : Env} {s : State} {m : MethodId} {below : List Frame} {meth : Method} {c : Code} {H : Heap} {locs : List Loc} {cells slots : Nat} {Q : State → Prop} {ls : Array Slot} {D : va_G} {base b L : Nat} {xs : Nat → Int32} {g : g_H} {i Qn : Nat} {hG : gdD} {hEE : gdE} (E : LE p l s m c b L xs D base) (hi : 4 * i + 3 < L) (hQ : Qn + 241 < 2 ^ 26) (hI : LI base g Qn) (hP : gP base D s g H) (hS : va_S (gA base) s.heap H locs) (hl : lv_has ls 9 [(0, .ref b), (1, .ref base), (2, .ref (base + 153)), (3, .ref (base + 162)), (4, .int (nI (4 * i)))]) (hc : cells + 90 ≤ 601024) (hs : slots + 800 ≤ 7293034)
    (kk : ∀ (g : g_H) (H : Heap) (locs : List Loc) (ls : Array Slot), LI base g (Qn + 240) → gP base D s g H → va_S (gA base) s.heap H locs → lv_has ls 9 [(0, .ref b), (1, .ref base), (2, .ref (base + 153)), (3, .ref (base + 162)), (4, .int (nI (4 * i)))] → W p l e room_1 s m #[Value.ref b] below meth c H locs (cells + 90) (slots + 800) Q (F0 m 1297 ls [])) : W p l e room_1 s m #[Value.ref b] below meth c H locs cells slots Q (F0 m 1242 ls []) := by
  have E0 := E
  obtain ⟨hx, hb, hml, hown, hts, hE, hX, hbl, hbb, hst, hL⟩ := E0
  obtain ⟨k7, k8, v, g2, h6, h7, hI2⟩ := LI.mean hI hG hEE
  refine lv_aload_n hx hb dL_law_1242 rfl (lv_at hl 1 rfl) ?_
  refine g_calld (va_runV (As := []) (rest := []) ⟨hx, hb, hml, hown, hts⟩ (k6_mean l D base g base v g h6) (cwV 0 hts gL_law_X6_mean rfl rfl rfl (by decide +kernel) ⟨Nat.le_of_ble_eq_true rfl, Nat.le_of_ble_eq_true rfl⟩) (gC.preV hE hP hS 6 rfl (by decide) k7 []) rfl rfl hl.1 rfl (lv_room (Nat.le_of_ble_eq_true rfl)) dL_law_1243 ⟨Nat.le_trans (by omega) hc, Nat.le_trans (by omega) hs⟩) hS (fun H locs hP hS => ?_)
  refine lv_dstore (lv' := [(5, .double v), (0, .ref b), (1, .ref base), (2, .ref (base + 153)), (3, .ref (base + 162)), (4, .int (nI (4 * i)))]) hx hb dL_law_1246 hl (by decide) rfl (fun ls hl => ?_)
  refine lv_aload_n hx hb dL_law_1248 rfl (lv_at hl 3 rfl) ?_
  refine g_calld (va_runV (As := []) (rest := []) ⟨hx, hb, hml, hown, hts⟩ (k7_mean l D base g (base + 153) v g2 h7) (cwV 0 hts gL_law_X7_mean rfl rfl rfl (by decide +kernel) ⟨Nat.le_of_ble_eq_true rfl, Nat.le_of_ble_eq_true rfl⟩) (gC.preV hE hP hS 7 rfl (by decide) k8 []) rfl rfl hl.1 rfl (lv_room (Nat.le_of_ble_eq_true rfl)) dL_law_1249 ⟨Nat.le_trans (by omega) hc, Nat.le_trans (by omega) hs⟩) hS (fun H locs hP hS => ?_)
  refine lv_dstore (lv' := [(7, .double v), (5, .double v), (0, .ref b), (1, .ref base), (2, .ref (base + 153)), (3, .ref (base + 162)), (4, .int (nI (4 * i)))]) hx hb dL_law_1252 hl (by decide) rfl (fun ls hl => ?_)
  have hend : W p l e room_1 s m #[Value.ref b] below meth c H locs (cells + 0 + 0) (slots + 0 + 0) Q (F0 m 1280 ls []) := by
    refine lv_goto (tgt := 1297) hx hb dL_law_1280 (by decide) ?_
    exact W.widen (by omega) (by omega) (kk g2 H locs ls (hI2.up (by omega)) hP hS (lv_sub hl [2, 3, 4, 5, 6] rfl))
  refine lv_dload hx hb dL_law_1254 (lv_at hl 1 rfl) ?_
  refine lv_dload hx hb dL_law_1256 (lv_at hl 0 rfl) ?_
  refine lv_dcmp hx hb dL_law_1258 ?_
  refine lv_if_eq (tgt := 1280) hx hb dL_law_1259 (by decide) (fun _ => hend) (fun w => ?_)
  refine lv_dload hx hb dL_law_1262 (lv_at hl 1 rfl) ?_
  refine lv_dload hx hb dL_law_1264 (lv_at hl 1 rfl) ?_
  refine lv_dcmp hx hb dL_law_1266 ?_
  refine lv_if_eq (tgt := 1278) hx hb dL_law_1267 (by decide) (fun w2 => absurd w2 w) (fun _ => ?_)
  refine lv_dload hx hb dL_law_1270 (lv_at hl 0 rfl) ?_
  refine lv_dload hx hb dL_law_1272 (lv_at hl 0 rfl) ?_
  refine lv_dcmp hx hb dL_law_1274 ?_
  exact lv_if_ne (tgt := 1280) hx hb dL_law_1275 (by decide) (fun _ => hend) (fun w2 => absurd w2 w)
set_option maxHeartbeats 4000000 in
set_option maxRecDepth 100000 in
theorem lc_digest {p : Program} {l : Launch} {e : Env} {s : State} {m : MethodId} {below : List Frame} {meth : Method} {c : Code} {H : Heap} {locs : List Loc} {cells slots : Nat} {Q : State → Prop} {ls : Array Slot} {D : va_G} {base b L : Nat} {xs : Nat → Int32} {g : g_H} {i Qn : Nat} (E : LE p l s m c b L xs D base) (hi : 4 * i + 3 < L) (hQ : Qn + 241 < 2 ^ 26) (hI : LI base g Qn) (hP : gP base D s g H) (hS : va_S (gA base) s.heap H locs) (hl : lv_has ls 9 [(0, .ref b), (1, .ref base), (2, .ref (base + 153)), (3, .ref (base + 162)), (4, .int (nI (4 * i)))]) (hc : cells + 90 ≤ 601024) (hs : slots + 800 ≤ 7293034)
    (kk : ∀ (g : g_H) (H : Heap) (locs : List Loc) (ls : Array Slot), LI base g (Qn + 240) → gP base D s g H → va_S (gA base) s.heap H locs → lv_has ls 9 [(0, .ref b), (1, .ref base), (2, .ref (base + 153)), (3, .ref (base + 162)), (4, .int (nI (4 * i)))] → W p l e room_1 s m #[Value.ref b] below meth c H locs (cells + 90) (slots + 800) Q (F0 m 1297 ls [])) : W p l e room_1 s m #[Value.ref b] below meth c H locs cells slots Q (F0 m 1283 ls []) := by
  have E0 := E
  obtain ⟨hx, hb, hml, hown, hts, hE, hX, hbl, hbb, hst, hL⟩ := E0
  obtain ⟨k7, k8, v, g2, h6, h7, hI2⟩ := LI.digest hI
  refine lv_aload_n hx hb dL_law_1283 rfl (lv_at hl 1 rfl) ?_
  refine g_calll (va_runV (As := []) (rest := []) ⟨hx, hb, hml, hown, hts⟩ (k6_digest l D base g base v g h6) (cwV 0 hts gL_law_X6_digest rfl rfl rfl (by decide +kernel) ⟨Nat.le_of_ble_eq_true rfl, Nat.le_of_ble_eq_true rfl⟩) (gC.preV hE hP hS 6 rfl (by decide) k7 []) rfl rfl hl.1 rfl (lv_room (Nat.le_of_ble_eq_true rfl)) dL_law_1284 ⟨Nat.le_trans (by omega) hc, Nat.le_trans (by omega) hs⟩) hS (fun H locs hP hS => ?_)
  refine lv_aload_n hx hb dL_law_1287 rfl (lv_at hl 2 rfl) ?_
  refine g_calll (va_runV (As := []) (rest := [.long v]) ⟨hx, hb, hml, hown, hts⟩ (k7_digest l D base g (base + 153) v g2 h7) (cwV 0 hts gL_law_X7_digest rfl rfl rfl (by decide +kernel) ⟨Nat.le_of_ble_eq_true rfl, Nat.le_of_ble_eq_true rfl⟩) (gC.preV hE hP hS 7 rfl (by decide) k8 []) rfl rfl hl.1 rfl (lv_room (Nat.le_of_ble_eq_true rfl)) dL_law_1288 ⟨Nat.le_trans (by omega) hc, Nat.le_trans (by omega) hs⟩) hS (fun H locs hP hS => ?_)
  refine W.lcmp hx hb dL_law_1291 ?_
  rw [lg_cmp_self]
  exact lv_if_eq (tgt := 1297) hx hb dL_law_1292 (by decide) (fun _ => W.widen (by omega) (by omega) (kk g2 H locs ls (hI2.up (by omega)) hP hS hl)) (fun q => absurd rfl q)
end
