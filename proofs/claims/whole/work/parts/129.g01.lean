/-! PURE: both together -/
def Ws (s : Sg) (n1 n2 : Nat) : Prop := ∃ C la : Nat → Nat → Nat, (∀ x y, x < 14 → y < 14 → s 6 x y = nI (C x y) ∧ C x y ≤ 1000) ∧ (∀ i, i < n2 → ∀ k, k < 3 → s 2 i k = nI (la i k)) ∧ Hl la n2 n1 ∧ (∀ i, i < n2 → la i 0 ≠ la i 1) ∧ Val la n2 n1 1000 C ∧ (∀ x, x < 14 → C x x = 0) ∧ ∀ x y, x < 14 → y < 14 → x ≠ y → (n1 ≤ x ∨ n1 ≤ y) → C x y = 1000
def Sh (a0 : Nat) (g : g_H) : Prop := (gS g a0).1 = 7 ∧ gR g a0 0 = some (a0 + 1) ∧ gR g a0 1 = some (a0 + 43) ∧ gR g a0 2 = some (a0 + 96) ∧ gR g a0 3 = some (a0 + 149) ∧ FL a0 (a0 + 96) g ∧ RtL (a0 + 149) g ∧ ∀ b, b < 6 → gR g (a0 + 43 + 2 + 5 * b) 1 = some (a0 + 46 + 5 * b) ∧ gI g (a0 + 43 + 2 + 5 * b) 0 = nI b ∧ gI g (a0 + 96 + 2 + 5 * b) 0 = nI b
def ClI (a0 : Nat) (g : g_H) (s : Sg) (n1 n2 n3 n4 q : Nat) : Prop := CI a0 (a0 + 43) g s n1 n2 n3 n4 q ∧ Sh a0 g ∧ gI g (a0 + 43) 7 = -1 ∧ Ws s n1 n2
/-- the class's cells are as they were -/
def Ag (lo hi : Nat) (g h : g_H) : Prop := ∀ a, lo ≤ a → a ≤ hi → gS h a = gS g a ∧ gR h a = gR g a ∧ gI h a = gI g a
theorem TL.ag {a0 hi : Nat} {g h : g_H} (t : TL a0 g) (e : Ag a0 hi g h) (hh : a0 + 42 ≤ hi) : TL a0 h := by
  obtain ⟨t1, t2, t3, t4, t5, t6, t7, t8, t9⟩ := t
  refine ⟨?_, ?_, ?_, ?_, ?_, ?_, ?_, fun i hi => ⟨?_, ?_⟩, fun x hx => ⟨?_, ?_⟩⟩
  · rw [(e _ (by omega) (by omega)).1]; exact t1
  · rw [(e _ (by omega) (by omega)).2.1]; exact t2
  · rw [(e _ (by omega) (by omega)).2.1]; exact t3
  · rw [(e _ (by omega) (by omega)).2.1]; exact t4
  · rw [(e _ (by omega) (by omega)).1]; exact t5
  · rw [(e _ (by omega) (by omega)).1]; exact t6
  · rw [(e _ (by omega) (by omega)).1]; exact t7
  · rw [(e _ (by omega) (by omega)).2.1]; exact (t8 i hi).1
  · rw [(e _ (by omega) (by omega)).1]; exact (t8 i hi).2
  · rw [(e _ (by omega) (by omega)).2.1]; exact (t9 x hx).1
  · rw [(e _ (by omega) (by omega)).1]; exact (t9 x hx).2
theorem RtL.ag {a0 r hi : Nat} {g h : g_H} (t : RtL r g) (e : Ag a0 hi g h) (h1 : a0 ≤ r) (h2 : r + 3 ≤ hi) : RtL r h := by
  obtain ⟨t1, t2, t3, t4, t5, t6, t7⟩ := t
  refine ⟨?_, ?_, ?_, ?_, ?_, ?_, ?_⟩
  · rw [(e _ (by omega) (by omega)).1]; exact t1
  · rw [(e _ (by omega) (by omega)).2.1]; exact t2
  · rw [(e _ (by omega) (by omega)).2.1]; exact t3
  · rw [(e _ (by omega) (by omega)).2.1]; exact t4
  · rw [(e _ (by omega) (by omega)).1]; exact t5
  · rw [(e _ (by omega) (by omega)).1]; exact t6
  · rw [(e _ (by omega) (by omega)).1]; exact t7
theorem FL.ag {a0 F hi : Nat} {g h : g_H} (t : FL a0 F g) (e : Ag a0 hi g h) (h1 : a0 ≤ F) (h2 : F + 52 ≤ hi) : FL a0 F h := by
  obtain ⟨t1, t2, t3, t4, t5, t6, t7, t8⟩ := t
  refine ⟨?_, ?_, ?_, ?_, ?_, ?_, fun i hi => ⟨?_, ?_⟩, fun x hx => ⟨?_, ?_⟩⟩
  · rw [(e _ (by omega) (by omega)).1]; exact t1
  · rw [(e _ (by omega) (by omega)).2.1]; exact t2
  · rw [(e _ (by omega) (by omega)).2.1]; exact t3
  · rw [(e _ (by omega) (by omega)).2.1]; exact t4
  · rw [(e _ (by omega) (by omega)).1]; exact t5
  · rw [(e _ (by omega) (by omega)).1]; exact t6
  · rw [(e _ (by omega) (by omega)).2.1]; exact (t7 i hi).1
  · rw [(e _ (by omega) (by omega)).1]; exact (t7 i hi).2
  · rw [(e _ (by omega) (by omega)).2.1]; exact (t8 x hx).1
  · rw [(e _ (by omega) (by omega)).1]; exact (t8 x hx).2
theorem CI.ag {a0 F hi n1 n2 n3 n4 q : Nat} {g h : g_H} {s : Sg} (c : CI a0 F g s n1 n2 n3 n4 q) (e : Ag a0 hi g h) (h52 : F + 52 ≤ hi) (h95 : a0 + 95 ≤ hi) : CI a0 F h s n1 n2 n3 n4 q := by
  obtain ⟨w, ⟨r0, r1, r2, r3, r4, r5⟩, ⟨d1, d2, d3, d4, d5⟩⟩ := c
  have hn3 := w.2.2.1
  have hn2 := w.1.2.2.2.1
  have hn4 := w.2.2.2.2.1
  have eF : a0 + 43 ≤ F ∧ F + 52 ≤ hi := by omega
  have i : ∀ a, a0 ≤ a → a ≤ hi → gI h a = gI g a := fun a h1 h2 => (e a h1 h2).2.2
  have iF : gI h F = gI g F := i F (by omega) (by omega)
  refine ⟨w, ⟨r0, r1.ag e (by omega), r2.ag e (by omega) (by omega), fun b hb => (r3 b hb).ag e (by omega) (by omega), ?_, fun b hb => ?_⟩, ⟨?_, fun b hb => ?_, fun b hb => ?_, ?_, fun j hj k hk => ?_⟩⟩
  · obtain ⟨q1, q2, q3, q4, q5⟩ := r4
    refine ⟨?_, ?_, fun x hx => ?_, fun j hj => ?_, fun x y hx hy => ?_⟩
    · rw [i _ (by omega) (by omega)]; exact q1
    · rw [i _ (by omega) (by omega)]; exact q2
    · rw [i _ (by omega) (by omega)]; exact q3 x hx
    · rw [i (a0 + 4 + j) (by omega) (by omega), iF]; exact q4 j hj
    · rw [i _ (by omega) (by omega)]; exact q5 x y hx hy
  · obtain ⟨q1, q2, q3, q4⟩ := r5 b hb
    refine ⟨?_, fun k hk => ?_, fun k hk => ?_, fun x hx => ?_⟩
    · rw [i _ (by omega) (by omega)]; exact q1
    · rw [i _ (by omega) (by omega)]; exact q2 k hk
    · rw [i _ (by omega) (by omega)]; exact q3 k hk
    · rw [i _ (by omega) (by omega)]; exact q4 x hx
  · unfold R2; rw [iF]; exact d1
  · rw [i (F + 2 + 5 * b) (by omega) (by omega), (e (F + 2 + 5 * b) (by omega) (by omega)).2.1]; exact d2 b hb
  · rw [i (F + 2 + 5 * b) (by omega) (by omega)]; exact d3 b hb
  · unfold R5; rw [iF]; exact d4
  · rw [i (F + 33 + j) (by omega) (by omega)]; exact d5 j hj k hk
theorem Sh.ag {a0 : Nat} {g h : g_H} (t : Sh a0 g) (e : Ag a0 (a0 + 152) g h) : Sh a0 h := by
  obtain ⟨t1, t2, t3, t4, t5, t6, t7, t8⟩ := t
  have e0 := e a0 (by omega) (by omega)
  refine ⟨?_, ?_, ?_, ?_, ?_, t6.ag e (by omega) (by omega), t7.ag e (by omega) (by omega), fun b hb => ?_⟩
  · rw [e0.1]; exact t1
  · rw [e0.2.1]; exact t2
  · rw [e0.2.1]; exact t3
  · rw [e0.2.1]; exact t4
  · rw [e0.2.1]; exact t5
  · rw [(e (a0 + 43 + 2 + 5 * b) (by omega) (by omega)).2.1, (e (a0 + 43 + 2 + 5 * b) (by omega) (by omega)).2.2, (e (a0 + 96 + 2 + 5 * b) (by omega) (by omega)).2.2]
    exact t8 b hb
theorem ClI.ag {a0 n1 n2 n3 n4 q : Nat} {g h : g_H} {s : Sg} (c : ClI a0 g s n1 n2 n3 n4 q) (e : Ag a0 (a0 + 152) g h) : ClI a0 h s n1 n2 n3 n4 q :=
  ⟨c.1.ag e (by omega) (by omega), c.2.1.ag e, by rw [(e _ (by omega) (by omega)).2.2]; exact c.2.2.1, c.2.2.2⟩
theorem MX.ag {M n1 n2 n3 n4 : Nat} {g h : g_H} {s : Sg} (m : MX M g s n1 n2 n3 n4) (e : Ag M (M + 8) g h) : MX M h s n1 n2 n3 n4 := by
  obtain ⟨⟨l1, ⟨l2, l3, l4, l5, l6, l7, l8, l9⟩, k1, k2, k3, k4, k5, k6, k7, k8⟩, m2, m3, m4⟩ := m
  have e0 := e M (by omega) (by omega)
  have i : ∀ k, k ≤ 8 → gI h (M + k) = gI g (M + k) := fun k hk => (e (M + k) (by omega) (by omega)).2.2
  have z : ∀ k, k ≤ 8 → gS h (M + k) = gS g (M + k) := fun k hk => (e (M + k) (by omega) (by omega)).1
  refine ⟨⟨?_, ⟨?_, ?_, ?_, ?_, ?_, ?_, ?_, ?_⟩, ?_, ?_, ?_, ?_, ?_, ?_, ?_, ?_⟩, ?_, ?_, ?_⟩
  · rw [e0.1]; exact l1
  · rw [e0.2.1]; exact l2
  · rw [e0.2.1]; exact l3
  · rw [e0.2.1]; exact l4
  · rw [e0.2.1]; exact l5
  · rw [e0.2.1]; exact l6
  · rw [e0.2.1]; exact l7
  · rw [e0.2.1]; exact l8
  · rw [e0.2.1]; exact l9
  · rw [z 1 (by omega)]; exact k1
  · rw [z 2 (by omega)]; exact k2
  · rw [z 3 (by omega)]; exact k3
  · rw [z 4 (by omega)]; exact k4
  · rw [z 5 (by omega)]; exact k5
  · rw [z 6 (by omega)]; exact k6
  · rw [z 7 (by omega)]; exact k7
  · rw [z 8 (by omega)]; exact k8
  · unfold M0; rw [e0.2.2]; exact m2
  · unfold M1; rw [i 1 (by omega), i 2 (by omega), i 3 (by omega), i 5 (by omega)]; exact m3
  · unfold M2; rw [i 4 (by omega), i 6 (by omega), i 7 (by omega)]; exact m4
def Fc (a0 : Nat) (g h : g_H) : Prop := gZ h = gZ g ∧ gS h = gS g ∧ gJ h = gJ g ∧ ∀ a, ¬ (a0 ≤ a ∧ a ≤ a0 + 152) → gI h a = gI g a ∧ gR h a = gR g a
theorem Fc.rf {a0 : Nat} {g : g_H} : Fc a0 g g := ⟨rfl, rfl, rfl, fun _ _ => ⟨rfl, rfl⟩⟩
theorem Fc.tr {a0 : Nat} {g h k : g_H} (x : Fc a0 g h) (y : Fc a0 h k) : Fc a0 g k := ⟨y.1.trans x.1, y.2.1.trans x.2.1, y.2.2.1.trans x.2.2.1, fun a ha => ⟨(y.2.2.2 a ha).1.trans (x.2.2.2 a ha).1, (y.2.2.2 a ha).2.trans (x.2.2.2 a ha).2⟩⟩
theorem Fc.put {a0 a k : Nat} {g : g_H} {v : Int32} (h : a0 ≤ a ∧ a ≤ a0 + 152) : Fc a0 g (gPI g a k v) := ⟨rfl, rfl, rfl, fun b hb => ⟨gU_o fun q => hb (q ▸ h), rfl⟩⟩
theorem Fr.fc {a0 F : Nat} {g h : g_H} (f : Fr F g h) (hF : F = a0 + 43 ∨ F = a0 + 96) : Fc a0 g h := ⟨f.2.2.2.1, f.1, f.2.2.1, fun a ha => ⟨f.2.2.2.2.2 a (by
  intro hc
  rcases hc with h | ⟨b, hb, h⟩ | ⟨i, hi, h⟩ <;> omega), by rw [f.2.1]⟩⟩
def Fmm (M : Nat) (g h : g_H) : Prop := gZ g ≤ gZ h ∧ ∀ a, a < gZ g → gS h a = gS g a ∧ gJ h a = gJ g a ∧ gR h a = gR g a ∧ (¬ (M ≤ a ∧ a ≤ M + 8) → gI h a = gI g a)
theorem Fmm.rf {M : Nat} {g : g_H} : Fmm M g g := ⟨Nat.le_refl _, fun _ _ => ⟨rfl, rfl, rfl, fun _ => rfl⟩⟩
theorem Fmm.tr {M : Nat} {g h k : g_H} (x : Fmm M g h) (y : Fmm M h k) : Fmm M g k := ⟨Nat.le_trans x.1 y.1, fun a ha => by
  obtain ⟨x1, x2, x3, x4⟩ := x.2 a ha
  obtain ⟨y1, y2, y3, y4⟩ := y.2 a (Nat.lt_of_lt_of_le ha x.1)
  exact ⟨y1.trans x1, y2.trans x2, y3.trans x3, fun q => (y4 q).trans (x4 q)⟩⟩
theorem Fmm.put {M a k : Nat} {g : g_H} {v : Int32} (h : M ≤ a ∧ a ≤ M + 8) : Fmm M g (gPI g a k v) := ⟨Nat.le_refl _, fun b _ => ⟨rfl, rfl, rfl, fun hb => gU_o fun q => hb (q ▸ h)⟩⟩
theorem Fm.mm {M : Nat} {g h : g_H} (f : Fm M g h) : Fmm M g h := ⟨Nat.le_of_eq f.2.2.2.1.symm, fun a _ => ⟨by rw [f.1], by rw [f.2.2.1], by rw [f.2.1], fun ha => f.2.2.2.2 a (by unfold chm; omega)⟩⟩
/-- a call of both: what it answers, and what holds then -/
def OpR (a0 : Nat) (g : g_H) (s : Sg) (n1 n2 n3 n4 q : Nat) (cls : Option ((Nat × Int32) × g_H)) (mdl : g_H → Option (Int32 × g_H)) (cm : Nat → Nat) : Prop :=
  ∃ code v g1 s1 n1' n2' n3' n4' q', cls = some ((code, v), g1) ∧ code ≤ 3 ∧ Fc a0 g g1 ∧ ClI a0 g1 s1 n1' n2' n3' n4' q' ∧ q' ≤ q + 240 ∧
    ∀ h, MX (a0 + 153) h s n1 n2 n3 n4 → a0 + 163 ≤ gZ h → ∃ v' g2, mdl h = some (v', g2) ∧ Fmm (a0 + 153) h g2 ∧ MX (a0 + 153) g2 s1 n1' n2' n3' n4' ∧ gI g2 (a0 + 153) 0 = nI (cm code) ∧ (code = 0 → v' = v)
/-- a call that changes nothing of the table -/
theorem MX.thr {M n1 n2 n3 n4 : Nat} {g : g_H} {s : Sg} {v : Int32} (m : MX M g s n1 n2 n3 n4) : MX M (gPI g M 0 v) s n1 n2 n3 n4 := by
  obtain ⟨l, ⟨a1, a2, a3, a4⟩, ⟨m1, m2, m3, m4⟩, ⟨p1, p2, p3⟩⟩ := m
  have e : ∀ k, k ≠ 0 → gI (gPI g M 0 v) (M + k) = gI g (M + k) := fun k hk => gU_o (by omega)
  refine ⟨l, ⟨?_, ?_, ?_, ?_⟩, ?_, ?_⟩
  · rw [gI_PI, if_pos rfl, if_neg (by omega)]; exact a1
  · rw [gI_PI, if_pos rfl, if_neg (by omega)]; exact a2
  · rw [gI_PI, if_pos rfl, if_neg (by omega)]; exact a3
  · rw [gI_PI, if_pos rfl, if_neg (by omega)]; exact a4
  · unfold M1; rw [e 1 (by omega), e 2 (by omega), e 3 (by omega), e 5 (by omega)]; exact ⟨m1, m2, m3, m4⟩
  · unfold M2; rw [e 4 (by omega), e 6 (by omega), e 7 (by omega)]; exact ⟨p1, p2, p3⟩
