section
/-! PURE: both together -/
def Ws (s : Sg) (n1 n2 : Nat) : Prop := ∃ C la : Nat → Nat → Nat, (∀ x y, x < 14 → y < 14 → s 6 x y = nI (C x y) ∧ C x y ≤ 1000) ∧ (∀ i, i < n2 → ∀ k, k < 3 → s 2 i k = nI (la i k)) ∧ Hl la n2 n1 ∧ (∀ i, i < n2 → la i 0 ≠ la i 1) ∧ Val la n2 n1 1000 C ∧ (∀ x, x < 14 → C x x = 0) ∧ ∀ x y, x < 14 → y < 14 → x ≠ y → (n1 ≤ x ∨ n1 ≤ y) → C x y = 1000
def Sh (a0 : Nat) (g : g_H) : Prop := (gS g a0).1 = 7 ∧ gR g a0 0 = some (a0 + 1) ∧ gR g a0 1 = some (a0 + 43) ∧ gR g a0 2 = some (a0 + 96) ∧ gR g a0 3 = some (a0 + 149) ∧ FL a0 (a0 + 96) g ∧ RtL (a0 + 149) g ∧ ∀ b, b < 6 → gR g (a0 + 43 + 2 + 5 * b) 1 = some (a0 + 46 + 5 * b) ∧ gI g (a0 + 43 + 2 + 5 * b) 0 = nI b ∧ gI g (a0 + 96 + 2 + 5 * b) 0 = nI b
def ClI (a0 : Nat) (g : g_H) (s : Sg) (n1 n2 n3 n4 q : Nat) : Prop := CI a0 (a0 + 43) g s n1 n2 n3 n4 q ∧ Sh a0 g ∧ gI g (a0 + 43) 7 = -1 ∧ Ws s n1 n2
/-- the class's cells are as they were -/
def Ag (lo hi : Nat) (g h : g_H) : Prop := ∀ a, lo ≤ a → a ≤ hi → gS h a = gS g a ∧ gR h a = gR g a ∧ gI h a = gI g a
theorem TL.ag {a0 hi : Nat} {g h : g_H} (t : TL a0 g) (e : Ag a0 hi g h) (hh : a0 + 42 ≤ hi) : TL a0 h := by
  obtain ⟨t1, t2, t3, t4, t5, t6, t7, t8, t9⟩ := t
  refine ⟨?_, ?_, ?_, ?_, ?_, ?_, ?_, fun i hi => ⟨?_, ?_⟩, fun x hx => ⟨?_, ?_⟩⟩
  · rw [(e _ (by omega) (by omega)).1]; exact t1
  · rw [(e _ (by omega) (by omega)).2.1]; exact t2
  · rw [(e _ (by omega) (by omega)).2.1]; exact t3
  · rw [(e _ (by omega) (by omega)).2.1]; exact t4
  · rw [(e _ (by omega) (by omega)).1]; exact t5
  · rw [(e _ (by omega) (by omega)).1]; exact t6
  · rw [(e _ (by omega) (by omega)).1]; exact t7
  · rw [(e _ (by omega) (by omega)).2.1]; exact (t8 i hi).1
  · rw [(e _ (by omega) (by omega)).1]; exact (t8 i hi).2
  · rw [(e _ (by omega) (by omega)).2.1]; exact (t9 x hx).1
  · rw [(e _ (by omega) (by omega)).1]; exact (t9 x hx).2
theorem RtL.ag {a0 r hi : Nat} {g h : g_H} (t : RtL r g) (e : Ag a0 hi g h) (h1 : a0 ≤ r) (h2 : r + 3 ≤ hi) : RtL r h := by
  obtain ⟨t1, t2, t3, t4, t5, t6, t7⟩ := t
  refine ⟨?_, ?_, ?_, ?_, ?_, ?_, ?_⟩
  · rw [(e _ (by omega) (by omega)).1]; exact t1
  · rw [(e _ (by omega) (by omega)).2.1]; exact t2
  · rw [(e _ (by omega) (by omega)).2.1]; exact t3
  · rw [(e _ (by omega) (by omega)).2.1]; exact t4
  · rw [(e _ (by omega) (by omega)).1]; exact t5
  · rw [(e _ (by omega) (by omega)).1]; exact t6
  · rw [(e _ (by omega) (by omega)).1]; exact t7
theorem FL.ag {a0 F hi : Nat} {g h : g_H} (t : FL a0 F g) (e : Ag a0 hi g h) (h1 : a0 ≤ F) (h2 : F + 52 ≤ hi) : FL a0 F h := by
  obtain ⟨t1, t2, t3, t4, t5, t6, t7, t8⟩ := t
  refine ⟨?_, ?_, ?_, ?_, ?_, ?_, fun i hi => ⟨?_, ?_⟩, fun x hx => ⟨?_, ?_⟩⟩
  · rw [(e _ (by omega) (by omega)).1]; exact t1
  · rw [(e _ (by omega) (by omega)).2.1]; exact t2
  · rw [(e _ (by omega) (by omega)).2.1]; exact t3
  · rw [(e _ (by omega) (by omega)).2.1]; exact t4
  · rw [(e _ (by omega) (by omega)).1]; exact t5
  · rw [(e _ (by omega) (by omega)).1]; exact t6
  · rw [(e _ (by omega) (by omega)).2.1]; exact (t7 i hi).1
  · rw [(e _ (by omega) (by omega)).1]; exact (t7 i hi).2
  · rw [(e _ (by omega) (by omega)).2.1]; exact (t8 x hx).1
  · rw [(e _ (by omega) (by omega)).1]; exact (t8 x hx).2
theorem CI.ag {a0 F hi n1 n2 n3 n4 q : Nat} {g h : g_H} {s : Sg} (c : CI a0 F g s n1 n2 n3 n4 q) (e : Ag a0 hi g h) (h52 : F + 52 ≤ hi) (h95 : a0 + 95 ≤ hi) : CI a0 F h s n1 n2 n3 n4 q := by
  obtain ⟨w, ⟨r0, r1, r2, r3, r4, r5⟩, ⟨d1, d2, d3, d4, d5⟩⟩ := c
  have hn3 := w.2.2.1
  have hn2 := w.1.2.2.2.1
  have hn4 := w.2.2.2.2.1
  have eF : a0 + 43 ≤ F ∧ F + 52 ≤ hi := by omega
  have i : ∀ a, a0 ≤ a → a ≤ hi → gI h a = gI g a := fun a h1 h2 => (e a h1 h2).2.2
  have iF : gI h F = gI g F := i F (by omega) (by omega)
  refine ⟨w, ⟨r0, r1.ag e (by omega), r2.ag e (by omega) (by omega), fun b hb => (r3 b hb).ag e (by omega) (by omega), ?_, fun b hb => ?_⟩, ⟨?_, fun b hb => ?_, fun b hb => ?_, ?_, fun j hj k hk => ?_⟩⟩
  · obtain ⟨q1, q2, q3, q4, q5⟩ := r4
    refine ⟨?_, ?_, fun x hx => ?_, fun j hj => ?_, fun x y hx hy => ?_⟩
    · rw [i _ (by omega) (by omega)]; exact q1
    · rw [i _ (by omega) (by omega)]; exact q2
    · rw [i _ (by omega) (by omega)]; exact q3 x hx
    · rw [i (a0 + 4 + j) (by omega) (by omega), iF]; exact q4 j hj
    · rw [i _ (by omega) (by omega)]; exact q5 x y hx hy
  · obtain ⟨q1, q2, q3, q4⟩ := r5 b hb
    refine ⟨?_, fun k hk => ?_, fun k hk => ?_, fun x hx => ?_⟩
    · rw [i _ (by omega) (by omega)]; exact q1
    · rw [i _ (by omega) (by omega)]; exact q2 k hk
    · rw [i _ (by omega) (by omega)]; exact q3 k hk
    · rw [i _ (by omega) (by omega)]; exact q4 x hx
  · unfold R2; rw [iF]; exact d1
  · rw [i (F + 2 + 5 * b) (by omega) (by omega), (e (F + 2 + 5 * b) (by omega) (by omega)).2.1]; exact d2 b hb
  · rw [i (F + 2 + 5 * b) (by omega) (by omega)]; exact d3 b hb
  · unfold R5; rw [iF]; exact d4
  · rw [i (F + 33 + j) (by omega) (by omega)]; exact d5 j hj k hk
theorem Sh.ag {a0 : Nat} {g h : g_H} (t : Sh a0 g) (e : Ag a0 (a0 + 152) g h) : Sh a0 h := by
  obtain ⟨t1, t2, t3, t4, t5, t6, t7, t8⟩ := t
  have e0 := e a0 (by omega) (by omega)
  refine ⟨?_, ?_, ?_, ?_, ?_, t6.ag e (by omega) (by omega), t7.ag e (by omega) (by omega), fun b hb => ?_⟩
  · rw [e0.1]; exact t1
  · rw [e0.2.1]; exact t2
  · rw [e0.2.1]; exact t3
  · rw [e0.2.1]; exact t4
  · rw [e0.2.1]; exact t5
  · rw [(e (a0 + 43 + 2 + 5 * b) (by omega) (by omega)).2.1, (e (a0 + 43 + 2 + 5 * b) (by omega) (by omega)).2.2, (e (a0 + 96 + 2 + 5 * b) (by omega) (by omega)).2.2]
    exact t8 b hb
theorem ClI.ag {a0 n1 n2 n3 n4 q : Nat} {g h : g_H} {s : Sg} (c : ClI a0 g s n1 n2 n3 n4 q) (e : Ag a0 (a0 + 152) g h) : ClI a0 h s n1 n2 n3 n4 q :=
  ⟨c.1.ag e (by omega) (by omega), c.2.1.ag e, by rw [(e _ (by omega) (by omega)).2.2]; exact c.2.2.1, c.2.2.2⟩
theorem MX.ag {M n1 n2 n3 n4 : Nat} {g h : g_H} {s : Sg} (m : MX M g s n1 n2 n3 n4) (e : Ag M (M + 8) g h) : MX M h s n1 n2 n3 n4 := by
  obtain ⟨⟨l1, ⟨l2, l3, l4, l5, l6, l7, l8, l9⟩, k1, k2, k3, k4, k5, k6, k7, k8⟩, m2, m3, m4⟩ := m
  have e0 := e M (by omega) (by omega)
  have i : ∀ k, k ≤ 8 → gI h (M + k) = gI g (M + k) := fun k hk => (e (M + k) (by omega) (by omega)).2.2
  have z : ∀ k, k ≤ 8 → gS h (M + k) = gS g (M + k) := fun k hk => (e (M + k) (by omega) (by omega)).1
  refine ⟨⟨?_, ⟨?_, ?_, ?_, ?_, ?_, ?_, ?_, ?_⟩, ?_, ?_, ?_, ?_, ?_, ?_, ?_, ?_⟩, ?_, ?_, ?_⟩
  · rw [e0.1]; exact l1
  · rw [e0.2.1]; exact l2
  · rw [e0.2.1]; exact l3
  · rw [e0.2.1]; exact l4
  · rw [e0.2.1]; exact l5
  · rw [e0.2.1]; exact l6
  · rw [e0.2.1]; exact l7
  · rw [e0.2.1]; exact l8
  · rw [e0.2.1]; exact l9
  · rw [z 1 (by omega)]; exact k1
  · rw [z 2 (by omega)]; exact k2
  · rw [z 3 (by omega)]; exact k3
  · rw [z 4 (by omega)]; exact k4
  · rw [z 5 (by omega)]; exact k5
  · rw [z 6 (by omega)]; exact k6
  · rw [z 7 (by omega)]; exact k7
  · rw [z 8 (by omega)]; exact k8
  · unfold M0; rw [e0.2.2]; exact m2
  · unfold M1; rw [i 1 (by omega), i 2 (by omega), i 3 (by omega), i 5 (by omega)]; exact m3
  · unfold M2; rw [i 4 (by omega), i 6 (by omega), i 7 (by omega)]; exact m4
def Fc (a0 : Nat) (g h : g_H) : Prop := gZ h = gZ g ∧ gS h = gS g ∧ gJ h = gJ g ∧ ∀ a, ¬ (a0 ≤ a ∧ a ≤ a0 + 152) → gI h a = gI g a ∧ gR h a = gR g a
theorem Fc.rf {a0 : Nat} {g : g_H} : Fc a0 g g := ⟨rfl, rfl, rfl, fun _ _ => ⟨rfl, rfl⟩⟩
theorem Fc.tr {a0 : Nat} {g h k : g_H} (x : Fc a0 g h) (y : Fc a0 h k) : Fc a0 g k := ⟨y.1.trans x.1, y.2.1.trans x.2.1, y.2.2.1.trans x.2.2.1, fun a ha => ⟨(y.2.2.2 a ha).1.trans (x.2.2.2 a ha).1, (y.2.2.2 a ha).2.trans (x.2.2.2 a ha).2⟩⟩
theorem Fc.put {a0 a k : Nat} {g : g_H} {v : Int32} (h : a0 ≤ a ∧ a ≤ a0 + 152) : Fc a0 g (gPI g a k v) := ⟨rfl, rfl, rfl, fun b hb => ⟨gU_o fun q => hb (q ▸ h), rfl⟩⟩
theorem Fr.fc {a0 F : Nat} {g h : g_H} (f : Fr F g h) (hF : F = a0 + 43 ∨ F = a0 + 96) : Fc a0 g h := ⟨f.2.2.2.1, f.1, f.2.2.1, fun a ha => ⟨f.2.2.2.2.2 a (by
  intro hc
  rcases hc with h | ⟨b, hb, h⟩ | ⟨i, hi, h⟩ <;> omega), by rw [f.2.1]⟩⟩
def Fmm (M : Nat) (g h : g_H) : Prop := gZ g ≤ gZ h ∧ ∀ a, a < gZ g → gS h a = gS g a ∧ gJ h a = gJ g a ∧ gR h a = gR g a ∧ (¬ (M ≤ a ∧ a ≤ M + 8) → gI h a = gI g a)
theorem Fmm.rf {M : Nat} {g : g_H} : Fmm M g g := ⟨Nat.le_refl _, fun _ _ => ⟨rfl, rfl, rfl, fun _ => rfl⟩⟩
theorem Fmm.tr {M : Nat} {g h k : g_H} (x : Fmm M g h) (y : Fmm M h k) : Fmm M g k := ⟨Nat.le_trans x.1 y.1, fun a ha => by
  obtain ⟨x1, x2, x3, x4⟩ := x.2 a ha
  obtain ⟨y1, y2, y3, y4⟩ := y.2 a (Nat.lt_of_lt_of_le ha x.1)
  exact ⟨y1.trans x1, y2.trans x2, y3.trans x3, fun q => (y4 q).trans (x4 q)⟩⟩
theorem Fmm.put {M a k : Nat} {g : g_H} {v : Int32} (h : M ≤ a ∧ a ≤ M + 8) : Fmm M g (gPI g a k v) := ⟨Nat.le_refl _, fun b _ => ⟨rfl, rfl, rfl, fun hb => gU_o fun q => hb (q ▸ h)⟩⟩
theorem Fm.mm {M : Nat} {g h : g_H} (f : Fm M g h) : Fmm M g h := ⟨Nat.le_of_eq f.2.2.2.1.symm, fun a _ => ⟨by rw [f.1], by rw [f.2.2.1], by rw [f.2.1], fun ha => f.2.2.2.2 a (by unfold chm; omega)⟩⟩
/-- a call of both: what it answers, and what holds then -/
def OpR (a0 : Nat) (g : g_H) (s : Sg) (n1 n2 n3 n4 q : Nat) (cls : Option ((Nat × Int32) × g_H)) (mdl : g_H → Option (Int32 × g_H)) (cm : Nat → Nat) : Prop :=
  ∃ code v g1 s1 n1' n2' n3' n4' q', cls = some ((code, v), g1) ∧ code ≤ 3 ∧ Fc a0 g g1 ∧ ClI a0 g1 s1 n1' n2' n3' n4' q' ∧ q' ≤ q + 240 ∧
    ∀ h, MX (a0 + 153) h s n1 n2 n3 n4 → a0 + 163 ≤ gZ h → ∃ v' g2, mdl h = some (v', g2) ∧ Fmm (a0 + 153) h g2 ∧ MX (a0 + 153) g2 s1 n1' n2' n3' n4' ∧ gI g2 (a0 + 153) 0 = nI (cm code) ∧ (code = 0 → v' = v)
/-- a call that changes nothing of the table -/
theorem MX.thr {M n1 n2 n3 n4 : Nat} {g : g_H} {s : Sg} {v : Int32} (m : MX M g s n1 n2 n3 n4) : MX M (gPI g M 0 v) s n1 n2 n3 n4 := by
  obtain ⟨l, ⟨a1, a2, a3, a4⟩, ⟨m1, m2, m3, m4⟩, ⟨p1, p2, p3⟩⟩ := m
  have e : ∀ k, k ≠ 0 → gI (gPI g M 0 v) (M + k) = gI g (M + k) := fun k hk => gU_o (by omega)
  refine ⟨l, ⟨?_, ?_, ?_, ?_⟩, ?_, ?_⟩
  · rw [gI_PI, if_pos rfl, if_neg (by omega)]; exact a1
  · rw [gI_PI, if_pos rfl, if_neg (by omega)]; exact a2
  · rw [gI_PI, if_pos rfl, if_neg (by omega)]; exact a3
  · rw [gI_PI, if_pos rfl, if_neg (by omega)]; exact a4
  · unfold M1; rw [e 1 (by omega), e 2 (by omega), e 3 (by omega), e 5 (by omega)]; exact ⟨m1, m2, m3, m4⟩
  · unfold M2; rw [e 4 (by omega), e 6 (by omega), e 7 (by omega)]; exact ⟨p1, p2, p3⟩
end
section
/-! PURE: calls, the simple ones -/
theorem pred_lt {n : Nat} {x : Int32} (hn : n < 2 ^ 26) (hx : ¬ x < 0) : nI n - 1 < x ↔ nI n ≤ x := by
  obtain ⟨j, hj, rfl⟩ := nI_of hx
  rcases Nat.eq_zero_or_pos n with z | z
  · subst z
    refine ⟨fun _ => nI_le (by omega) hj, fun _ => ?_⟩
    have e : nI 0 - 1 = (-1 : Int32) := by decide
    rw [e]
    apply Int32.lt_iff_toInt_lt.mpr
    rw [nI_toInt hj]
    have : (-1 : Int32).toInt = -1 := rfl
    omega
  · obtain ⟨u, rfl⟩ : ∃ u, n = u + 1 := ⟨n - 1, by omega⟩
    rw [nI_pred]
    exact (nI_ltI (by omega) hj).trans (Iff.trans (by omega) (nI_leI (a := u + 1) (b := j) (by omega) hj).symm)
theorem isIn_n {g : g_H} {n : Nat} {x : Int32} (hn : n < 2 ^ 26) : f7_isIn g x 0 (nI n - 1) = some (if inR (nI n) x then 1 else 0, g) := by
  unfold f7_isIn
  by_cases c : x < 0
  · rw [if_pos c, if_neg fun q => q.1 c]
  · rw [if_neg c]
    by_cases d : nI n ≤ x
    · rw [if_pos ((pred_lt hn c).mpr d), if_neg fun q => q.2 d]
    · rw [if_neg fun q => d ((pred_lt hn c).mp q), if_pos ⟨c, d⟩]
theorem if01 {p : Prop} [Decidable p] : (if p then (1 : Int32) else 0) = 0 ∨ (if p then (1 : Int32) else 0) = 1 := by
  split
  · exact Or.inr rfl
  · exact Or.inl rfl
theorem m_isHouse {M n1 n2 n3 n4 : Nat} {g : g_H} {s : Sg} (m : MX M g s n1 n2 n3 n4) (e : s 0 0 1 = nI n1) (h : n1 ≤ 14) (x : Int32) : f7_isHouse g M x = some (if inR (nI n1) x then 1 else 0, g) := by
  unfold f7_isHouse
  rw [if_pos m.1.1, m.2.1.1, e, isIn_n (by omega), gB2_some, if_pos if01]
theorem m_isLane {M n1 n2 n3 n4 : Nat} {g : g_H} {s : Sg} (m : MX M g s n1 n2 n3 n4) (e : s 0 0 2 = nI n2) (h : n2 ≤ 24) (x : Int32) : f7_isLane g M x = some (if inR (nI n2) x then 1 else 0, g) := by
  unfold f7_isLane
  rw [if_pos m.1.1, m.2.1.2.1, e, isIn_n (by omega), gB2_some, if_pos if01]
theorem m_isBee {M n1 n2 n3 n4 : Nat} {g : g_H} {s : Sg} (m : MX M g s n1 n2 n3 n4) (e : s 0 0 3 = nI n3) (h : n3 ≤ 6) (x : Int32) : f7_isBee g M x = some (if inR (nI n3) x then 1 else 0, g) := by
  unfold f7_isBee
  rw [if_pos m.1.1, m.2.1.2.2.1, e, isIn_n (by omega), gB2_some, if_pos if01]
theorem m_isLetter {M n1 n2 n3 n4 : Nat} {g : g_H} {s : Sg} (m : MX M g s n1 n2 n3 n4) (e : s 0 0 4 = nI n4) (h : n4 ≤ 20) (x : Int32) : f7_isLetter g M x = some (if inR (nI n4) x then 1 else 0, g) := by
  unfold f7_isLetter
  rw [if_pos m.1.1, m.2.1.2.2.2, e, isIn_n (by omega), gB2_some, if_pos if01]
theorem m_fail {M : Nat} {g : g_H} (h : (gS g M).1 = 8) (k : Int32) : f7_fail g M k = some (0, gPI g M 0 k) := if_pos h
/-- facts of the class's object -/
theorem ClI.sh {a0 n1 n2 n3 n4 q : Nat} {g : g_H} {s : Sg} (I : ClI a0 g s n1 n2 n3 n4 q) : (gS g a0).1 = 7 ∧ gR g a0 0 = some (a0 + 1) ∧ gR g a0 1 = some (a0 + 43) ∧ gR g a0 2 = some (a0 + 96) ∧ gR g a0 3 = some (a0 + 149) ∧ (gS g (a0 + 1)).1 = 6 ∧ (gS g (a0 + 43)).1 = 2 ∧ gI g (a0 + 1) 0 = nI n1 ∧ gI g (a0 + 1) 1 = nI n2 ∧ gI g (a0 + 43) 3 = nI n3 ∧ gI g (a0 + 43) 4 = nI n4 ∧ n1 ≤ 14 ∧ n2 ≤ 24 ∧ n3 ≤ 6 ∧ n4 ≤ 20 :=
  ⟨I.2.1.1, I.2.1.2.1, I.2.1.2.2.1, I.2.1.2.2.2.1, I.2.1.2.2.2.2.1, I.1.2.1.2.1.1, I.1.2.1.2.2.1.1, I.1.2.1.2.2.2.2.1.1.trans I.1.1.1.1, I.1.2.1.2.2.2.2.1.2.1.trans I.1.1.1.2.2.1, I.1.2.2.1.1.trans I.1.1.2.1, I.1.2.2.1.2.1.trans I.1.1.2.2.2.1, I.1.1.1.2.1, I.1.1.1.2.2.2.1, I.1.1.2.2.1, I.1.1.2.2.2.2.1⟩
theorem Sh.fr {a0 : Nat} {g h : g_H} (t : Sh a0 g) (f : Fr (a0 + 43) g h) : Sh a0 h := by
  obtain ⟨t1, t2, t3, t4, t5, t6, t7, t8⟩ := t
  obtain ⟨f1, f2, f3, f4, ⟨f5, f6⟩, f7⟩ := f
  refine ⟨by rw [f1]; exact t1, by rw [f2]; exact t2, by rw [f2]; exact t3, by rw [f2]; exact t4, by rw [f2]; exact t5, ?_, ?_, fun b hb => ?_⟩
  · unfold FL; rw [f1, f2]; exact t6
  · unfold RtL; rw [f1, f2]; exact t7
  · rw [f2, f6, f6]; exact t8 b hb
theorem ClI.fr {a0 n1 n2 n3 n4 q q' : Nat} {g h : g_H} {s t : Sg} (I : ClI a0 g s n1 n2 n3 n4 q) (f : Fr (a0 + 43) g h) (c : CI a0 (a0 + 43) h t n1 n2 n3 n4 q') (hs : Same s t) : ClI a0 h t n1 n2 n3 n4 q' := by
  refine ⟨c, I.2.1.fr f, by rw [f.2.2.2.2.1.1]; exact I.2.2.1, ?_⟩
  obtain ⟨C, la, w1, w2, w3⟩ := I.2.2.2
  exact ⟨C, la, by rw [hs.2.2.2.2.1]; exact w1, by rw [hs.2.2.1]; exact w2, w3⟩
/-- a call that throws -/
theorem OpR.thr {a0 n1 n2 n3 n4 q : Nat} {g : g_H} {s : Sg} {cls : Option ((Nat × Int32) × g_H)} {mdl : g_H → Option (Int32 × g_H)} {cm : Nat → Nat} (I : ClI a0 g s n1 n2 n3 n4 q) (code : Nat) (h3 : code ≤ 3) (h0 : code ≠ 0) (hc : cls = some ((code, 0), g))
    (hm : ∀ h, MX (a0 + 153) h s n1 n2 n3 n4 → mdl h = some (0, gPI (gPI h (a0 + 153) 0 0) (a0 + 153) 0 (nI (cm code)))) : OpR a0 g s n1 n2 n3 n4 q cls mdl cm :=
  ⟨code, 0, g, s, n1, n2, n3, n4, q, hc, h3, Fc.rf, I, by omega, fun h m _ => ⟨0, _, hm h m, (Fmm.put ⟨by omega, by omega⟩).tr (Fmm.put ⟨by omega, by omega⟩), m.thr.thr, by simp [gI_PI], fun q => absurd q h0⟩⟩
theorem quS_same {s : Sg} {a0 F n1 n2 n3 n4 q : Nat} {g : g_H} (c : CI a0 F g s n1 n2 n3 n4 q) : Same s (quS s) := by
  have h : ∀ b, Same s (beeF s b) := by
    intro b
    induction b with
    | zero => exact Same.rf
    | succ b ih =>
      refine ih.tr ?_
      show Same (beeF s b) (beeS (beeF s b) b)
      have mv : ∀ (t : Sg) (here : Int32), Same t (mvS t b here) := fun t here => by
        unfold mvS flyS
        split
        · exact (Same.b (by omega)).tr (Same.b (by omega))
        · split
          · exact Same.b (by omega)
          · split
            · exact Same.rf
            · dsimp only
              split
              · exact (((Same.b (by omega)).tr (Same.b (by omega))).tr (Same.b (by omega))).tr (Same.b (by omega))
              · exact (Same.b (by omega)).tr (Same.b (by omega))
      have st : Same (beeF s b) (if 0 < beeF s b 3 b 1 then su (beeF s b) 3 b 1 (beeF s b 3 b 1 - 1) else beeF s b) := by
        split
        · exact Same.b (by omega)
        · exact Same.rf
      unfold beeS
      dsimp only
      by_cases k : (if 0 < beeF s b 3 b 1 then su (beeF s b) 3 b 1 (beeF s b 3 b 1 - 1) else beeF s b) 3 b 1 = 0
      · rw [if_pos k]
        exact ((st.tr hoF_same).tr coF_same).tr (mv _ _)
      · rw [if_neg k]
        exact st
  unfold quS
  exact (h _).tr Same.q
theorem quF_same {s : Sg} {a0 F n1 n2 n3 n4 q : Nat} {g : g_H} (c : CI a0 F g s n1 n2 n3 n4 q) (k : Nat) (hk : q + k < 2 ^ 26) : Same s (quF s k) := by
  induction k with
  | zero => exact Same.rf
  | succ k ih =>
    obtain ⟨g1, c1⟩ := c_qus c k (by omega)
    exact (ih (by omega)).tr (quS_same c1)
theorem rng {x : Int32} {n : Nat} (h1 : ¬ x < 1) (h2 : x ≤ nI n) (hn : n < 2 ^ 31) : ∃ N, x = nI N ∧ 1 ≤ N ∧ N ≤ n := by
  have h0 : ¬ x < 0 := fun k => h1 (Int32.lt_trans k (by decide))
  obtain ⟨j, hj, rfl⟩ := nI_of h0
  refine ⟨j, rfl, ?_, (nI_leI hj hn).mp h2⟩
  rcases Nat.eq_zero_or_pos j with z | z
  · exfalso; apply h1; rw [z]; decide
  · exact z
theorem o_pass {a0 n1 n2 n3 n4 q : Nat} {g : g_H} {s : Sg} (I : ClI a0 g s n1 n2 n3 n4 q) (hq : q + 240 < 2 ^ 26) (x : Int32) : OpR a0 g s n1 n2 n3 n4 q (f6_pass g a0 x) (fun h => f7_pass h (a0 + 153) x) (fun c => if c = 0 then 0 else 1) := by
  have bad : (x < 1 ∨ ¬ x ≤ 240) → OpR a0 g s n1 n2 n3 n4 q (f6_pass g a0 x) (fun h => f7_pass h (a0 + 153) x) (fun c => if c = 0 then 0 else 1) := by
    intro hb
    refine OpR.thr I 2 (by omega) (by omega) ?_ fun h m => ?_
    · unfold f6_pass f6_pass_12
      by_cases c : x < 1
      · rw [if_pos c]
      · rw [if_neg c, if_neg (hb.resolve_left c)]
    · unfold f7_pass f7_isIn
      rw [if_pos m.1.1]
      by_cases c : x < 1
      · rw [if_pos c, gB2_some, if_pos rfl, if_pos m.thr.1.1, m_fail m.thr.1.1, gB2_some]
        rfl
      · rw [if_neg c, if_pos (Int32.not_le.mp (hb.resolve_left c)), gB2_some, if_pos rfl, if_pos m.thr.1.1, m_fail m.thr.1.1, gB2_some]
        rfl
  by_cases c1 : x < 1
  · exact bad (Or.inl c1)
  · by_cases c2 : x ≤ 240
    · obtain ⟨N, rfl, hN1, hN⟩ := rng c1 (n := 240) c2 (by omega)
      obtain ⟨g', e1, e2, e3⟩ := p_quarters I.1 (show N < 300 by omega) (by omega)
      obtain ⟨s1, s2, s3, s4, s5, s6, s7, -⟩ := I.sh
      refine ⟨0, arr (quF s N) - arr s, g', quF s N, n1, n2, n3, n4, q + N, ?_, by omega, e2.fc (Or.inl rfl), I.fr e2 e3 (quF_same I.1 N (by omega)), by omega, fun h m _ => ?_⟩
      · unfold f6_pass
        rw [if_neg c1, if_pos c2, if_pos s1, s3, ob_some, if_pos s7, e1, gB2_some]
      · obtain ⟨g2, d1, d2, d3⟩ := m_passLoop I.1 (N := N) (by omega) N 0 300 (gPI h (a0 + 153) 0 0) (by omega) (by omega) m.thr
        rw [show arr (quF s 0) - arr s = 0 from Int32.sub_self _] at d1
        refine ⟨_, g2, ?_, (Fmm.put ⟨by omega, by omega⟩).tr d2.mm, d3, ?_, fun _ => rfl⟩
        · dsimp only
          unfold f7_pass f7_isIn
          rw [if_pos m.1.1, if_neg c1, if_neg (Int32.not_lt.mpr c2), gB2_some, if_neg n10]
          exact d1
        · rw [d2.2.2.2.2 _ (by unfold chm; omega)]
          simp [gI_PI]
          rfl
    · exact bad (Or.inr c2)
end
section
/-! PURE: calls that tell -/
abbrev c1 : Nat → Nat := fun c => if c = 0 then 0 else 1
theorem OpR.qry {a0 n1 n2 n3 n4 q : Nat} {g : g_H} {s : Sg} {cls : Option ((Nat × Int32) × g_H)} {mdl : g_H → Option (Int32 × g_H)} {cm : Nat → Nat} (I : ClI a0 g s n1 n2 n3 n4 q) (v : Int32) (hc : cls = some ((0, v), g)) (h0 : cm 0 = 0)
    (hm : ∀ h, MX (a0 + 153) h s n1 n2 n3 n4 → mdl h = some (v, gPI h (a0 + 153) 0 0)) : OpR a0 g s n1 n2 n3 n4 q cls mdl cm :=
  ⟨0, v, g, s, n1, n2, n3, n4, q, hc, by omega, Fc.rf, I, by omega, fun h m _ => ⟨v, _, hm h m, Fmm.put ⟨by omega, by omega⟩, m.thr, by rw [h0]; simp [gI_PI]; rfl, fun _ => rfl⟩⟩
theorem p_checkHouse {a0 n1 n2 n3 n4 q : Nat} {g : g_H} {s : Sg} (I : ClI a0 g s n1 n2 n3 n4 q) (x : Int32) : f6_checkHouse g a0 x = some ((if inR (nI n1) x then 0 else 1, 0), g) := by
  obtain ⟨s1, s2, s3, s4, s5, s6, s7, s8, s9, s10, s11, s12, s13, s14, s15⟩ := I.sh
  unfold f6_checkHouse
  rw [if_pos s1, s2, ob_some, if_pos s6, p_hasHouse s6, gB2_some, s8]
  by_cases c : inR (nI n1) x
  · rw [if_pos c, if_pos c, if_neg n10]
  · rw [if_neg c, if_neg c, if_pos rfl]
theorem p_checkBee {a0 n1 n2 n3 n4 q : Nat} {g : g_H} {s : Sg} (I : ClI a0 g s n1 n2 n3 n4 q) (x : Int32) : f6_checkBee g a0 x = some ((if inR (nI n3) x then 0 else 1, 0), g) := by
  obtain ⟨s1, s2, s3, s4, s5, s6, s7, s8, s9, s10, s11, s12, s13, s14, s15⟩ := I.sh
  unfold f6_checkBee f6_checkBee_15
  by_cases c : x < 0
  · rw [if_pos c, if_neg fun k => k.1 c]
  · rw [if_neg c, if_pos s1, s3, ob_some, if_pos s7, s10]
    by_cases d : x < nI n3
    · rw [if_pos d, if_pos ⟨c, Int32.not_le.mpr d⟩]
    · rw [if_neg d, if_neg fun k => d (Int32.not_le.mp k.2)]
theorem p_checkLetter {a0 n1 n2 n3 n4 q : Nat} {g : g_H} {s : Sg} (I : ClI a0 g s n1 n2 n3 n4 q) (x : Int32) : f6_checkLetter g a0 x = some ((if inR (nI n4) x then 0 else 1, 0), g) := by
  obtain ⟨s1, s2, s3, s4, s5, s6, s7, s8, s9, s10, s11, s12, s13, s14, s15⟩ := I.sh
  unfold f6_checkLetter f6_checkLetter_15
  by_cases c : x < 0
  · rw [if_pos c, if_neg fun k => k.1 c]
  · rw [if_neg c, if_pos s1, s3, ob_some, if_pos s7, s11]
    by_cases d : x < nI n4
    · rw [if_pos d, if_pos ⟨c, Int32.not_le.mpr d⟩]
    · rw [if_neg d, if_neg fun k => d (Int32.not_le.mp k.2)]
theorem p_checkWhat {g : g_H} (x n : Int32) : f6_checkWhat g x n = some ((if inR n x then 0 else 1, 0), g) := by
  unfold f6_checkWhat f6_checkWhat_9
  by_cases c : x < 0
  · rw [if_pos c, if_neg fun k => k.1 c]
  · rw [if_neg c]
    by_cases d : x < n
    · rw [if_pos d, if_pos ⟨c, Int32.not_le.mpr d⟩]
    · rw [if_neg d, if_neg fun k => d (Int32.not_le.mp k.2)]
theorem n0e : (0 : Nat) = 0 := rfl
theorem n1e : ¬ (1 : Nat) = 0 := by decide
theorem o_way {a0 n1 n2 n3 n4 q : Nat} {g : g_H} {s : Sg} (I : ClI a0 g s n1 n2 n3 n4 q) (x y : Int32) : OpR a0 g s n1 n2 n3 n4 q (f6_way g a0 x y) (fun h => f7_way h (a0 + 153) x y) c1 := by
  obtain ⟨s1, s2, s3, s4, s5, s6, s7, s8, s9, s10, s11, s12, s13, s14, s15⟩ := I.sh
  have e1 := I.1.1.1.1
  by_cases hx : inR (nI n1) x
  · by_cases hy : inR (nI n1) y
    · obtain ⟨i, hi, rfl⟩ := inR_nat (by omega) hx
      obtain ⟨j, hj, rfl⟩ := inR_nat (by omega) hy
      obtain ⟨d, hd, hd2⟩ := wy_nat I.1.1.1 (nI i) (nI j)
      have hf : (1000 : Int32) ≤ nI d ↔ d = 1000 := ⟨fun k => by have := (nI_leI (a := 1000) (by omega) (by omega)).mp k; omega, fun k => by rw [k]; exact Int32.le_refl _⟩
      refine OpR.qry I (if (1000 : Int32) ≤ wy s (nI i) (nI j) then -1 else wy s (nI i) (nI j)) ?_ rfl fun h m => ?_
      · unfold f6_way
        rw [if_pos s1, p_checkHouse I, gB2_some, if_pos hx, if_pos n0e, if_pos s1, p_checkHouse I, gB2_some, if_pos hy, if_pos n0e, if_pos s1, s2, ob_some, if_pos s6, I.1.wyE, gB2_some]
        split <;> rfl
      · have m' := m.thr (v := 0)
        unfold f7_way
        rw [if_pos m.1.1, m_isHouse m' e1 s12, gB2_some, if_pos hx, if_neg n10, if_pos m'.1.1, m_isHouse m' e1 s12, gB2_some, if_pos hy, if_neg n10, if_pos m'.1.1, m_away m' I.1.1.1 hi hj rfl rfl, gB2_some, hd2]
        by_cases k : d = 1000
        · have : fi (nI d) = 9999 := by rw [k]; exact if_pos (show nI 1000 = (1000 : Int32) from rfl)
          rw [if_pos this, if_pos (hf.mpr k)]
        · have kn : ¬ nI d = (1000 : Int32) := fun q => k ((nI_eq (b := 1000) (by omega) (by omega)).mp q)
          have e : fi (nI d) = nI d := if_neg kn
          have k9 : ¬ nI d = (9999 : Int32) := fun q => by
            have := (nI_eq (b := 9999) (by omega) (by omega)).mp q
            omega
          rw [e, if_neg k9, if_pos m'.1.1, m_away m' I.1.1.1 hi hj rfl rfl, gB2_some, hd2, e, if_neg fun q => k (hf.mp q)]
    · refine OpR.thr I 1 (by omega) (by omega) ?_ fun h m => ?_
      · unfold f6_way
        rw [if_pos s1, p_checkHouse I, gB2_some, if_pos hx, if_pos n0e, if_pos s1, p_checkHouse I, gB2_some, if_neg hy, if_neg n1e]
      · have m' := m.thr (v := 0)
        unfold f7_way f7_way_21
        rw [if_pos m.1.1, m_isHouse m' e1 s12, gB2_some, if_pos hx, if_neg n10, if_pos m'.1.1, m_isHouse m' e1 s12, gB2_some, if_neg hy, if_pos rfl, if_pos m'.1.1, m_fail m'.1.1, gB2_some]
        rfl
  · refine OpR.thr I 1 (by omega) (by omega) ?_ fun h m => ?_
    · unfold f6_way
      rw [if_pos s1, p_checkHouse I, gB2_some, if_neg hx, if_neg n1e]
    · have m' := m.thr (v := 0)
      unfold f7_way f7_way_21
      rw [if_pos m.1.1, m_isHouse m' e1 s12, gB2_some, if_neg hx, if_pos rfl, if_pos m'.1.1, m_fail m'.1.1, gB2_some]
      rfl
theorem o_target {a0 n1 n2 n3 n4 q : Nat} {g : g_H} {s : Sg} (I : ClI a0 g s n1 n2 n3 n4 q) (x y : Int32) : OpR a0 g s n1 n2 n3 n4 q (f6_target g a0 x y) (fun h => f7_target h (a0 + 153) x y) c1 := by
  obtain ⟨s1, s2, s3, s4, s5, s6, s7, s8, s9, s10, s11, s12, s13, s14, s15⟩ := I.sh
  have e1 := I.1.1.1.1
  have e3 := I.1.1.2.1
  by_cases hx : inR (nI n3) x
  · by_cases hy : inR (nI n1) y
    · obtain ⟨b, hb, rfl⟩ := inR_nat (by omega) hx
      obtain ⟨b1, b2, b3, b4, b5, b6, b7, b8, b9, b10, b11, b12, b13, b14, b15, b16, b17, b18, b19, b20⟩ := clB I.1 hb
      have cb : Int32.toNatClampNeg (nI b) = b := cl_nI (by omega)
      refine OpR.qry I (tg s b y) ?_ rfl fun h m => ?_
      · unfold f6_target
        rw [if_pos s1, p_checkBee I, gB2_some, if_pos hx, if_pos n0e, if_pos s1, p_checkHouse I, gB2_some, if_pos hy, if_pos n0e, if_pos s1, s3, ob_some, if_pos s7, b6, ob_some, b8, if_pos rfl, if_pos (ixOk (by omega) (by omega)), cb, b10, ob_some, if_pos b11, b12, ob_some, if_pos b16, clE I.1 hb hy, gB2_some]
      · have m' := m.thr (v := 0)
        unfold f7_target
        rw [if_pos m.1.1, m_isBee m' e3 s14, gB2_some, if_pos hx, if_neg n10, if_pos m'.1.1, m_isHouse m' e1 s12, gB2_some, if_pos hy, if_neg n10, if_pos m'.1.1, m_targetOf m' I.1.1.1 s14 hb (I.1.wb hb) hy rfl, gB2_some]
    · refine OpR.thr I 1 (by omega) (by omega) ?_ fun h m => ?_
      · unfold f6_target
        rw [if_pos s1, p_checkBee I, gB2_some, if_pos hx, if_pos n0e, if_pos s1, p_checkHouse I, gB2_some, if_neg hy, if_neg n1e]
      · have m' := m.thr (v := 0)
        unfold f7_target f7_target_30
        rw [if_pos m.1.1, m_isBee m' e3 s14, gB2_some, if_pos hx, if_neg n10, if_pos m'.1.1, m_isHouse m' e1 s12, gB2_some, if_neg hy, if_pos rfl, if_pos m'.1.1, m_fail m'.1.1, gB2_some]
        rfl
  · refine OpR.thr I 1 (by omega) (by omega) ?_ fun h m => ?_
    · unfold f6_target
      rw [if_pos s1, p_checkBee I, gB2_some, if_neg hx, if_neg n1e]
    · have m' := m.thr (v := 0)
      unfold f7_target f7_target_30
      rw [if_pos m.1.1, m_isBee m' e3 s14, gB2_some, if_neg hx, if_pos rfl, if_pos m'.1.1, m_fail m'.1.1, gB2_some]
      rfl
theorem isIn_w {g : g_H} {n : Nat} {x hi : Int32} (hn : n < 2 ^ 26) (hh : hi = nI n - 1) : f7_isIn g x 0 hi = some (if inR (nI n) x then 1 else 0, g) := by
  rw [hh]; exact isIn_n hn
theorem p_tellL {g : g_H} {L k : Nat} (hL : (gS g L).1 = 4) (hk : k < 5) : f3_tell g L (nI k) = some (gI g L k, g) := by
  unfold f3_tell
  match k, hk with
  | 0, _ => rw [if_pos (by decide), if_pos hL]
  | 1, _ => rw [if_neg (by decide), if_pos (by decide), if_pos hL]
  | 2, _ => rw [if_neg (by decide), if_neg (by decide), if_pos (by decide), if_pos hL]
  | 3, _ => rw [if_neg (by decide), if_neg (by decide), if_neg (by decide), if_pos (by decide), if_pos hL]
  | 4, _ => rw [if_neg (by decide), if_neg (by decide), if_neg (by decide), if_neg (by decide), if_pos hL]
theorem o_letter {a0 n1 n2 n3 n4 q : Nat} {g : g_H} {s : Sg} (I : ClI a0 g s n1 n2 n3 n4 q) (x y : Int32) : OpR a0 g s n1 n2 n3 n4 q (f6_letter g a0 x y) (fun h => f7_letter h (a0 + 153) x y) c1 := by
  obtain ⟨s1, s2, s3, s4, s5, s6, s7, s8, s9, s10, s11, s12, s13, s14, s15⟩ := I.sh
  have e4 := I.1.1.2.2.2.1
  have i4 : ∀ h, f7_isIn h y 0 4 = some (if inR (nI 5) y then 1 else 0, h) := fun h => isIn_w (by omega) (by decide)
  by_cases hx : inR (nI n4) x
  · by_cases hy : inR (nI 5) y
    · obtain ⟨i, hi, rfl⟩ := inR_nat (by omega) hx
      obtain ⟨k, hk, rfl⟩ := inR_nat (by omega) hy
      obtain ⟨l1, l2, l3⟩ := clL I.1 hi
      have ci : Int32.toNatClampNeg (nI i) = i := cl_nI (by omega)
      have b7 : gR g (a0 + 43) 2 = some (a0 + 43 + 32) := I.1.2.1.2.2.1.2.2.2.1
      have b9 : gS g (a0 + 43 + 32) = (17, 20) := I.1.2.1.2.2.1.2.2.2.2.2.1
      refine OpR.qry I (s 5 i k) ?_ rfl fun h m => ?_
      · unfold f6_letter
        rw [if_pos s1, p_checkLetter I, gB2_some, if_pos hx, if_pos n0e, p_checkWhat, gB2_some, if_pos (show inR (5 : Int32) (nI k) from hy), if_pos n0e, if_pos s1, s3, ob_some, if_pos s7, b7, ob_some, b9, if_pos rfl, if_pos (ixOk (by omega) (by omega)), ci, l1, ob_some, if_pos l2, p_tellL l2 hk, gB2_some, l3 k hk]
      · have m' := m.thr (v := 0)
        unfold f7_letter
        rw [if_pos m.1.1, m_isLetter m' e4 s15, gB2_some, if_pos hx, if_neg n10, i4, gB2_some, if_pos hy, if_neg n10, if_pos m'.1.1, m_le m' s15 hi hk rfl rfl, gB2_some]
    · refine OpR.thr I 1 (by omega) (by omega) ?_ fun h m => ?_
      · unfold f6_letter
        rw [if_pos s1, p_checkLetter I, gB2_some, if_pos hx, if_pos n0e, p_checkWhat, gB2_some, if_neg (show ¬ inR (5 : Int32) y from hy), if_neg n1e]
      · have m' := m.thr (v := 0)
        unfold f7_letter f7_letter_31
        rw [if_pos m.1.1, m_isLetter m' e4 s15, gB2_some, if_pos hx, if_neg n10, i4, gB2_some, if_neg hy, if_pos rfl, if_pos m'.1.1, m_fail m'.1.1, gB2_some]
        rfl
  · refine OpR.thr I 1 (by omega) (by omega) ?_ fun h m => ?_
    · unfold f6_letter
      rw [if_pos s1, p_checkLetter I, gB2_some, if_neg hx, if_neg n1e]
    · have m' := m.thr (v := 0)
      unfold f7_letter f7_letter_31
      rw [if_pos m.1.1, m_isLetter m' e4 s15, gB2_some, if_neg hx, if_pos rfl, if_pos m'.1.1, m_fail m'.1.1, gB2_some]
      rfl
end
section
/-! PURE: what a bee tells -/
theorem MX.off {M n1 n2 n3 n4 a k : Nat} {g : g_H} {s : Sg} {v : Int32} (m : MX M g s n1 n2 n3 n4) (h : M + 8 < a) : MX M (gPI g a k v) s n1 n2 n3 n4 :=
  m.ag fun b h1 h2 => ⟨rfl, rfl, gU_o (by omega)⟩
theorem MX.gN {M n1 n2 n3 n4 kd n : Nat} {g : g_H} {s : Sg} {r : Nat → Int32} (m : MX M g s n1 n2 n3 n4) (h : M + 8 < gZ g) : MX M (gN g kd n r) s n1 n2 n3 n4 :=
  m.ag fun b h1 h2 => ⟨if_neg (by omega), gW_o (by omega), gW_o (by omega)⟩
theorem Fmm.gN {M kd n : Nat} {g : g_H} {r : Nat → Int32} : Fmm M g (gN g kd n r) :=
  ⟨Nat.le_succ _, fun a ha => ⟨if_neg (by omega), gW_o (by omega), gW_o (by omega), fun _ => gW_o (by omega)⟩⟩
theorem Fmm.up {M a k : Nat} {g h : g_H} {v : Int32} (f : Fmm M g h) (ha : gZ g ≤ a) : Fmm M g (gPI h a k v) :=
  ⟨f.1, fun b hb => ⟨(f.2 b hb).1, (f.2 b hb).2.1, (f.2 b hb).2.2.1, fun q => (show gI (gPI h a k v) b = gI h b from gU_o (by omega)).trans ((f.2 b hb).2.2.2 q)⟩⟩
def tl (s : Sg) (b k : Nat) : Int32 := if k = 0 then s 4 b (cl (s 3 b 0)) else if k < 4 then s 3 b k else if k = 4 then car s b else s 3 b (k - 1)
theorem p_tell {a0 F n1 n2 n3 n4 q b k : Nat} {g : g_H} {s : Sg} (c : CI a0 F g s n1 n2 n3 n4 q) (hb : b < n3) (hk : k < 9) : f0_tell g (F + 2 + 5 * b) (nI k) = some (tl s b k, g) := by
  obtain ⟨b1, b2, b3, b4, b5, b6, b7, b8, b9, b10, b11, b12, b13, b14, b15, b16, b17, b18, b19, b20⟩ := clB c hb
  obtain ⟨x1, x2, x3, x4, x5, x6, x7, x8⟩ := clC c hb
  obtain ⟨z, p, l, st, ho, e1, e2, e3, e4, e5, e6, e7, e8, e9, e10, e11, e12, e13, -⟩ := c.wb hb
  have bo : ∀ v : Int32, v = 0 ∨ v = 1 → (if v = 0 then some ((0 : Int32), g) else some (1, g)) = some (v, g) := fun v h => by
    rcases h with h | h
    · rw [h, if_pos rfl]
    · rw [h, if_neg n10]
  unfold f0_tell tl
  match k, hk with
  | 0, _ => rw [if_pos (by decide), if_pos b11, clHouse c hb, gB2_some, if_pos rfl]
  | 1, _ => rw [if_neg (by decide), if_pos (by decide), if_pos b11, x2, if_neg (by decide), if_pos (by decide)]
  | 2, _ => rw [if_neg (by decide), if_neg (by decide), if_pos (by decide), if_pos b11, x3, if_neg (by decide), if_pos (by decide)]
  | 3, _ => rw [if_neg (by decide), if_neg (by decide), if_neg (by decide), if_pos (by decide), if_pos b11, x4, if_neg (by decide), if_pos (by decide)]
  | 4, _ => rw [if_neg (by decide), if_neg (by decide), if_neg (by decide), if_neg (by decide), if_pos (by decide), if_pos b11, b14, if_neg (by decide), if_neg (by decide), if_pos rfl]
  | 5, _ => rw [if_neg (by decide), if_neg (by decide), if_neg (by decide), if_neg (by decide), if_neg (by decide), if_pos (by decide), if_pos b11, x5, bo _ e12, if_neg (by decide), if_neg (by decide), if_neg (by decide)]
  | 6, _ => rw [if_neg (by decide), if_neg (by decide), if_neg (by decide), if_neg (by decide), if_neg (by decide), if_neg (by decide), if_pos (by decide), if_pos b11, b12, ob_some, if_pos b16, p_length b16, gB2_some, x8, if_neg (by decide), if_neg (by decide), if_neg (by decide)]
  | 7, _ => rw [if_neg (by decide), if_neg (by decide), if_neg (by decide), if_neg (by decide), if_neg (by decide), if_neg (by decide), if_neg (by decide), if_pos (by decide), if_pos b11, x6, if_neg (by decide), if_neg (by decide), if_neg (by decide)]
  | 8, _ => rw [if_neg (by decide), if_neg (by decide), if_neg (by decide), if_neg (by decide), if_neg (by decide), if_neg (by decide), if_neg (by decide), if_neg (by decide), if_pos b11, x7, bo _ e13, if_neg (by decide), if_neg (by decide), if_neg (by decide)]
theorem m_beeTold {M n1 n2 n3 n4 b k : Nat} {h : g_H} {s : Sg} (m : MX M h s n1 n2 n3 n4) (hZ : M + 8 < gZ h) (h6 : n3 ≤ 6) (h20 : n4 ≤ 20) (w4 : s 0 0 4 = nI n4) (hb : b < n3) (wb : WB s n1 b) (hk : k < 9) :
    ∃ g', f7_beeTold h M (nI b) (nI k) = some (tl s b k, g') ∧ Fmm M h g' ∧ MX M g' s n1 n2 n3 n4 ∧ gI g' M 0 = gI h M 0 := by
  obtain ⟨z, hz⟩ : ∃ z, z = gZ h := ⟨_, rfl⟩
  obtain ⟨H, hH⟩ : ∃ H, H = gN h 11 9 (fun _ => 0) := ⟨_, rfl⟩
  have S : gS H z = (11, 9) := by rw [hH, hz]; exact gS_gN rfl
  have m0 : MX M H s n1 n2 n3 n4 := by rw [hH]; exact m.gN hZ
  have hzM : M + 8 < z := by omega
  have m1 := m0.off (k := 0) (v := s 4 b (cl (s 3 b 0))) hzM
  have m2 := m1.off (k := 1) (v := s 3 b 1) hzM
  have m3 := m2.off (k := 2) (v := s 3 b 2) hzM
  have m4 := m3.off (k := 3) (v := s 3 b 3) hzM
  have m5 := m4.off (k := 4) (v := car s b) hzM
  have m6 := m5.off (k := 5) (v := s 3 b 4) hzM
  have m7 := m6.off (k := 6) (v := s 3 b 5) hzM
  have m8 := m7.off (k := 7) (v := s 3 b 6) hzM
  have m9 := m8.off (k := 8) (v := s 3 b 7) hzM
  have f0 : Fmm M h H := by rw [hH]; exact Fmm.gN
  have fz : gZ h ≤ z := by omega
  have ck : Int32.toNatClampNeg (nI k) = k := cl_nI (by omega)
  have hix : ¬ (nI k < 0 ∨ 9 ≤ Int32.toNatClampNeg (nI k)) := ixOk hk (by omega)
  refine ⟨_, ?_, ((((((((f0.up fz).up fz).up fz).up fz).up fz).up fz).up fz).up fz).up fz, m9, ?_⟩
  · unfold f7_beeTold gNw
    rw [← hz, ← hH]
    dsimp only
    rw [if_pos m0.1.1, m_house m0 h6 hb wb rfl, gB2_some, S, if_pos rfl, if_pos (by decide), if_pos m0.1.1]
    rw [show Int32.toNatClampNeg (0 : Int32) = 0 from rfl, m_be (k := 1) (y := (1 : Int32)) m1 h6 hb (by omega) rfl rfl, gB2_some, gS_PI, S, if_pos rfl, if_pos (by decide), if_pos m0.1.1]
    rw [show Int32.toNatClampNeg (1 : Int32) = 1 from rfl, m_be (k := 2) (y := (2 : Int32)) m2 h6 hb (by omega) rfl rfl, gB2_some, gS_PI, gS_PI, S, if_pos rfl, if_pos (by decide), if_pos m0.1.1]
    rw [show Int32.toNatClampNeg (2 : Int32) = 2 from rfl, m_be (k := 3) (y := (3 : Int32)) m3 h6 hb (by omega) rfl rfl, gB2_some, gS_PI, gS_PI, gS_PI, S, if_pos rfl, if_pos (by decide), if_pos m0.1.1]
    rw [show Int32.toNatClampNeg (3 : Int32) = 3 from rfl, m_carries m4 h20 w4 rfl, gB2_some, gS_PI, gS_PI, gS_PI, gS_PI, S, if_pos rfl, if_pos (by decide), if_pos m0.1.1]
    rw [show Int32.toNatClampNeg (4 : Int32) = 4 from rfl, m_be (k := 4) (y := (4 : Int32)) m5 h6 hb (by omega) rfl rfl, gB2_some, gS_PI, gS_PI, gS_PI, gS_PI, gS_PI, S, if_pos rfl, if_pos (by decide), if_pos m0.1.1]
    rw [show Int32.toNatClampNeg (5 : Int32) = 5 from rfl, m_be (k := 5) (y := (5 : Int32)) m6 h6 hb (by omega) rfl rfl, gB2_some, gS_PI, gS_PI, gS_PI, gS_PI, gS_PI, gS_PI, S, if_pos rfl, if_pos (by decide), if_pos m0.1.1]
    rw [show Int32.toNatClampNeg (6 : Int32) = 6 from rfl, m_be (k := 6) (y := (6 : Int32)) m7 h6 hb (by omega) rfl rfl, gB2_some, gS_PI, gS_PI, gS_PI, gS_PI, gS_PI, gS_PI, gS_PI, S, if_pos rfl, if_pos (by decide), if_pos m0.1.1]
    rw [show Int32.toNatClampNeg (7 : Int32) = 7 from rfl, m_be (k := 7) (y := (7 : Int32)) m8 h6 hb (by omega) rfl rfl, gB2_some, gS_PI, gS_PI, gS_PI, gS_PI, gS_PI, gS_PI, gS_PI, gS_PI, S, if_pos rfl, if_pos (by decide)]
    rw [show Int32.toNatClampNeg (8 : Int32) = 8 from rfl, if_pos hix, ck]
    congr 2
    unfold tl
    match k, hk with
    | 0, _ => simp [gI_PI]
    | 1, _ => simp [gI_PI]
    | 2, _ => simp [gI_PI]
    | 3, _ => simp [gI_PI]
    | 4, _ => simp [gI_PI]
    | 5, _ => simp [gI_PI]
    | 6, _ => simp [gI_PI]
    | 7, _ => simp [gI_PI]
    | 8, _ => simp [gI_PI]
  · have e : ∀ (g : g_H) (k : Nat) (v : Int32), gI (gPI g z k v) M 0 = gI g M 0 := fun g k v => by rw [gI_PI, if_neg (by omega)]
    rw [e, e, e, e, e, e, e, e, e, hH]
    exact congrFun (gW_o (by omega)) 0
theorem o_bee {a0 n1 n2 n3 n4 q : Nat} {g : g_H} {s : Sg} (I : ClI a0 g s n1 n2 n3 n4 q) (x y : Int32) : OpR a0 g s n1 n2 n3 n4 q (f6_bee g a0 x y) (fun h => f7_bee h (a0 + 153) x y) c1 := by
  obtain ⟨s1, s2, s3, s4, s5, s6, s7, s8, s9, s10, s11, s12, s13, s14, s15⟩ := I.sh
  have e3 := I.1.1.2.1
  have i8 : ∀ h, f7_isIn h y 0 8 = some (if inR (nI 9) y then 1 else 0, h) := fun h => isIn_w (by omega) (by decide)
  by_cases hx : inR (nI n3) x
  · by_cases hy : inR (nI 9) y
    · obtain ⟨b, hb, rfl⟩ := inR_nat (by omega) hx
      obtain ⟨k, hk, rfl⟩ := inR_nat (by omega) hy
      obtain ⟨b1, b2, b3, b4, b5, b6, b7, b8, b9, b10, b11, b12, b13, b14, b15, b16, b17, b18, b19, b20⟩ := clB I.1 hb
      have cb : Int32.toNatClampNeg (nI b) = b := cl_nI (by omega)
      refine ⟨0, tl s b k, g, s, n1, n2, n3, n4, q, ?_, by omega, Fc.rf, I, by omega, fun h m hZ => ?_⟩
      · unfold f6_bee
        rw [if_pos s1, p_checkBee I, gB2_some, if_pos hx, if_pos n0e, p_checkWhat, gB2_some, if_pos (show inR (9 : Int32) (nI k) from hy), if_pos n0e, if_pos s1, s3, ob_some, if_pos s7, b6, ob_some, b8, if_pos rfl, if_pos (ixOk (by omega) (by omega)), cb, b10, ob_some, if_pos b11, p_tell I.1 hb hk, gB2_some]
      · have m' := m.thr (v := 0)
        obtain ⟨g', t1, t2, t3, t4⟩ := m_beeTold m' (show a0 + 153 + 8 < gZ (gPI h (a0 + 153) 0 0) from by show _ < gZ h; omega) s14 s15 I.1.1.2.2.2.1 hb (I.1.wb hb) hk
        refine ⟨_, g', ?_, (Fmm.put ⟨by omega, by omega⟩).tr t2, t3, by rw [t4]; simp [gI_PI]; rfl, fun _ => rfl⟩
        show f7_bee h (a0 + 153) (nI b) (nI k) = _
        unfold f7_bee
        rw [if_pos m.1.1, m_isBee m' e3 s14, gB2_some, if_pos hx, if_neg n10, i8, gB2_some, if_pos hy, if_neg n10, if_pos m'.1.1, t1, gB2_some]
    · refine OpR.thr I 1 (by omega) (by omega) ?_ fun h m => ?_
      · unfold f6_bee
        rw [if_pos s1, p_checkBee I, gB2_some, if_pos hx, if_pos n0e, p_checkWhat, gB2_some, if_neg (show ¬ inR (9 : Int32) y from hy), if_neg n1e]
      · have m' := m.thr (v := 0)
        unfold f7_bee f7_bee_32
        rw [if_pos m.1.1, m_isBee m' e3 s14, gB2_some, if_pos hx, if_neg n10, i8, gB2_some, if_neg hy, if_pos rfl, if_pos m'.1.1, m_fail m'.1.1, gB2_some]
        rfl
  · refine OpR.thr I 1 (by omega) (by omega) ?_ fun h m => ?_
    · unfold f6_bee
      rw [if_pos s1, p_checkBee I, gB2_some, if_neg hx, if_neg n1e]
    · have m' := m.thr (v := 0)
      unfold f7_bee f7_bee_32
      rw [if_pos m.1.1, m_isBee m' e3 s14, gB2_some, if_neg hx, if_pos rfl, if_pos m'.1.1, m_fail m'.1.1, gB2_some]
      rfl
end
section
/-! PURE: calls that change the town -/
theorem gPI_PI {g : g_H} {a k : Nat} {v w : Int32} : gPI (gPI g a k v) a k w = gPI g a k w := by
  have : gU (gU (gI g) a k v) a k w = gU (gI g) a k w := by
    funext b j
    unfold gU
    split
    · split <;> rfl
    · rfl
  show (gS g, gU (gU (gI g) a k v) a k w, gR g, gJ g, gZ g) = _
  rw [this]
  rfl
theorem inR_mono {n n' : Nat} {x : Int32} (h : inR (nI n) x) (hn : n ≤ n') (h14 : n' < 2 ^ 31) : inR (nI n') x := by
  obtain ⟨j, hj, rfl⟩ := inR_nat (by omega) h
  exact inR_of h14 (by omega)
def Ft (a0 : Nat) (g h : g_H) : Prop := gS h = gS g ∧ gR h = gR g ∧ gJ h = gJ g ∧ gZ h = gZ g ∧ ∀ a, ¬ (a0 + 1 ≤ a ∧ a ≤ a0 + 42) → gI h a = gI g a
theorem Ft.rf {a0 : Nat} {g : g_H} : Ft a0 g g := ⟨rfl, rfl, rfl, rfl, fun _ _ => rfl⟩
theorem Ft.tr {a0 : Nat} {g h k : g_H} (x : Ft a0 g h) (y : Ft a0 h k) : Ft a0 g k := ⟨y.1.trans x.1, y.2.1.trans x.2.1, y.2.2.1.trans x.2.2.1, y.2.2.2.1.trans x.2.2.2.1, fun a ha => (y.2.2.2.2 a ha).trans (x.2.2.2.2 a ha)⟩
theorem Ft.put {a0 a k : Nat} {g : g_H} {v : Int32} (h : a0 + 1 ≤ a ∧ a ≤ a0 + 42) : Ft a0 g (gPI g a k v) := ⟨rfl, rfl, rfl, rfl, fun b hb => gU_o fun q => hb (q ▸ h)⟩
theorem Fw.ft {a0 : Nat} {g h : g_H} (f : Fw a0 g h) : Ft a0 g h := ⟨f.1, f.2.1, f.2.2.1, f.2.2.2.1, fun a ha => f.2.2.2.2 a (by omega)⟩
theorem Ft.fc {a0 : Nat} {g h : g_H} (f : Ft a0 g h) : Fc a0 g h := ⟨f.2.2.2.1, f.1, f.2.2.1, fun a ha => ⟨f.2.2.2.2 a (by omega), by rw [f.2.1]⟩⟩
theorem ClI.st {a0 n1 n2 n3 n4 q n1' n2' : Nat} {g h : g_H} {s t : Sg} (I : ClI a0 g s n1 n2 n3 n4 q) (f : Ft a0 g h) (wt : WT t n1' n2') (hn : n1 ≤ n1') (h3 : t 3 = s 3) (h4 : t 4 = s 4) (h5 : t 5 = s 5) (h03 : t 0 0 3 = s 0 0 3) (h04 : t 0 0 4 = s 0 0 4) (h00 : t 0 0 0 = s 0 0 0)
    (hsl : ∀ b, b < n3 → ∀ x y, sl t x y = sl s x y) (htg : ∀ b, b < n3 → ∀ x, x < 14 → tg t b (nI x) = tg s b (nI x)) (r1 : R1 a0 (a0 + 43) h t n2') (ws : Ws t n1' n2') : ClI a0 h t n1' n2' n3 n4 q := by
  obtain ⟨⟨⟨w1, w2, w3, w4, w5, w6, w7, w8, w9⟩, ⟨p0, p1, p2, p3, p4, p5⟩, ⟨d1, d2, d3, d4, d5⟩⟩, sh, i7, -⟩ := I
  obtain ⟨f1, f2, f3, f4, f5⟩ := f
  have hcar : ∀ b, car t b = car s b := fun b => by
    unfold car
    rw [h04]; exact carF_5 h5
  have harr : arr t = arr s := arr_keep h04 fun i => by rw [h5]
  have n14 := wt.2.1
  have iF : gI h (a0 + 43) = gI g (a0 + 43) := f5 _ (by omega)
  refine ⟨⟨⟨wt, h03.trans w2, w3, h04.trans w4, w5, h00.trans w6, w7, fun b hb => ⟨?_, by rw [hcar]; exact (w8 b hb).2⟩, fun i hi => ?_⟩, ⟨p0, ?_, ?_, fun b hb => ?_, r1, fun b hb => ?_⟩, ⟨?_, fun b hb => ?_, fun b hb => ?_, ?_, fun i hi k hk => ?_⟩⟩, ?_, by rw [iF]; exact i7, ws⟩
  · obtain ⟨z, p, l, st, ho, e1, e2, e3, e4, e5, e6, e7, e8, e9, e10, e11, e12, e13, e14, e15⟩ := (w8 b hb).1
    refine ⟨z, p, l, st, ho, by rw [h3]; exact e1, e2, e3, by rw [h3]; exact e4, e5, by rw [h3]; exact e6, e7, by rw [h3]; exact e8, e9, by rw [h3]; exact e10, e11, by rw [h3]; exact e12, by rw [h3]; exact e13, fun k hk => ?_, fun k hk => ?_⟩
    · rw [h4]; exact inR_mono (e14 k hk) hn (by omega)
    · rw [h4, hsl b hb]; exact e15 k hk
  · obtain ⟨l1, l2, l3, l4, l5⟩ := w9 i hi
    unfold WL
    rw [h5]
    exact ⟨inR_mono l1 hn (by omega), l2.imp id fun k => inR_mono k hn (by omega), l3, l4, l5⟩
  · unfold TL; rw [f1, f2]; exact p1
  · unfold FL; rw [f1, f2]; exact p2
  · unfold RtL; rw [f1, f2]; exact p3 b hb
  · obtain ⟨q1, q2, q3, q4⟩ := p5 b hb
    rw [h3, h4]
    refine ⟨?_, fun k hk => ?_, fun k hk => ?_, fun x hx => ?_⟩
    · rw [f5 _ (by omega)]; exact q1
    · rw [f5 _ (by omega)]; exact q2 k hk
    · rw [f5 _ (by omega), hsl b hb]; exact q3 k hk
    · rw [f5 _ (by omega), htg b hb x hx]; exact q4 x hx
  · unfold R2; rw [iF, h03, h04, h00]; exact d1
  · rw [f5 (a0 + 43 + 2 + 5 * b) (by omega), f2, h3]; exact d2 b hb
  · rw [f5 (a0 + 43 + 2 + 5 * b) (by omega), hcar]; exact d3 b hb
  · unfold R5; rw [iF, harr]; exact d4
  · rw [f5 (a0 + 43 + 33 + i) (by omega), h5]; exact d5 i hi k hk
  · obtain ⟨t1, t2, t3, t4, t5, t6, t7, t8⟩ := sh
    refine ⟨by rw [f1]; exact t1, by rw [f2]; exact t2, by rw [f2]; exact t3, by rw [f2]; exact t4, by rw [f2]; exact t5, ?_, ?_, fun b hb => ?_⟩
    · unfold FL; rw [f1, f2]; exact t6
    · unfold RtL; rw [f1, f2]; exact t7
    · rw [f2, f5 (a0 + 43 + 2 + 5 * b) (by omega), f5 (a0 + 96 + 2 + 5 * b) (by omega)]; exact t8 b hb
theorem o_setHive {a0 n1 n2 n3 n4 q : Nat} {g : g_H} {s : Sg} (I : ClI a0 g s n1 n2 n3 n4 q) (x y : Int32) (hy : y = 0 ∨ y = 1) : OpR a0 g s n1 n2 n3 n4 q (f6_setHive g a0 x y) (fun h => f7_setHive h (a0 + 153) x y) c1 := by
  obtain ⟨s1, s2, s3, s4, s5, s6, s7, s8, s9, s10, s11, s12, s13, s14, s15⟩ := I.sh
  have e1 := I.1.1.1.1
  by_cases hx : inR (nI n1) x
  · obtain ⟨j, hj, rfl⟩ := inR_nat (by omega) hx
    have cj : Int32.toNatClampNeg (nI j) = j := cl_nI (by omega)
    obtain ⟨t1, t2, t3, t4, t5, -⟩ := I.1.2.1.2.1
    have wt := I.1.1.1
    have hb01 := wt.2.2.2.2.2.1 j (by omega)
    have hb : (if s 1 (cl (nI j)) 0 = 0 then (0 : Int32) else 1) = s 1 j 0 := by
      rw [show cl (nI j) = j from cl_nI (by omega)]
      rcases hb01 with k | k
      · rw [if_pos k, k]
      · rw [if_neg (by rw [k]; exact n10), k]
    have T : ∀ k, k ≠ 1 → (su s 1 j 0 y) k = s k := fun k hk => su_T hk
    have wt' : WT (su s 1 j 0 y) n1 n2 := by
      obtain ⟨w1, w2, w3, w4, w5, w6, w7⟩ := wt
      refine ⟨by rw [T 0 (by omega)]; exact w1, w2, by rw [T 0 (by omega)]; exact w3, w4, by rw [T 2 (by omega)]; exact w5, fun k hk => ?_, by rw [T 6 (by omega)]; exact w7⟩
      by_cases e : k = j
      · rw [e, su_s]; exact hy
      · rw [su_i e]; exact w6 k hk
    have hwy : ∀ u v, wy (su s 1 j 0 y) u v = wy s u v := fun u v => by unfold wy; rw [T 0 (by omega), T 6 (by omega)]
    have htgF : ∀ b to k, tgF (su s 1 j 0 y) b to k = tgF s b to k := fun b to k => by
      induction k with
      | zero => rfl
      | succ k ih =>
        show (if _ then _ else _) = (if _ then _ else _)
        rw [ih, hwy, T 4 (by omega)]
    have hslF : ∀ u v k, slF (su s 1 j 0 y) u v k = slF s u v k := fun u v k => by
      induction k with
      | zero => rfl
      | succ k ih =>
        show (if _ then _ else _) = (if _ then _ else _)
        rw [ih, T 2 (by omega)]
    have r1' : R1 a0 (a0 + 43) (gPI g (a0 + 2) j y) (su s 1 j 0 y) n2 := by
      obtain ⟨q1, q2, q3, q4, q5⟩ := I.1.2.1.2.2.2.2.1
      refine ⟨?_, ?_, fun k hk => ?_, fun i hi => ?_, fun u v hu hv => ?_⟩
      · rw [gI_PI, if_neg (by omega), T 0 (by omega)]; exact q1
      · rw [gI_PI, if_neg (by omega), T 0 (by omega)]; exact q2
      · rw [gI_PI, if_pos rfl]
        by_cases e : k = j
        · rw [e, if_pos rfl, su_s]
        · rw [if_neg e, su_i e]; exact q3 k hk
      · rw [T 2 (by omega), show gI (gPI g (a0 + 2) j y) (a0 + 4 + i) = gI g (a0 + 4 + i) from gU_o (by omega), show gI (gPI g (a0 + 2) j y) (a0 + 43) = gI g (a0 + 43) from gU_o (by omega)]
        exact q4 i hi
      · rw [gI_PI, if_neg (by omega), T 6 (by omega)]; exact q5 u v hu hv
    have ws' : Ws (su s 1 j 0 y) n1 n2 := by
      obtain ⟨C, la, u1, u2, u3⟩ := I.2.2.2
      exact ⟨C, la, by rw [T 6 (by omega)]; exact u1, by rw [T 2 (by omega)]; exact u2, u3⟩
    have I' : ClI a0 (gPI g (a0 + 2) j y) (su s 1 j 0 y) n1 n2 n3 n4 q := I.st (Ft.put ⟨by omega, by omega⟩) wt' (Nat.le_refl _) (T 3 (by omega)) (T 4 (by omega)) (T 5 (by omega)) (by rw [T 0 (by omega)]) (by rw [T 0 (by omega)]) (by rw [T 0 (by omega)]) (fun b hb u v => by unfold sl; rw [hslF, T 0 (by omega)]) (fun b hb u hu => by unfold tg; rw [htgF, T 3 (by omega)]) r1' ws'
    refine ⟨0, s 1 j 0, _, _, n1, n2, n3, n4, q, ?_, by omega, (Ft.put ⟨by omega, by omega⟩ : Ft a0 g (gPI g (a0 + 2) j y)).fc, I', by omega, fun h m hZ => ?_⟩
    · unfold f6_setHive
      rw [if_pos s1, p_checkHouse I, gB2_some, if_pos hx, if_pos n0e, if_pos s1, s2, ob_some, if_pos s6, p_hasHive I.1 hx, gB2_some, if_pos s1, s2, ob_some, if_pos s6, t2, ob_some, t5, if_pos rfl, if_pos (ixOk (by omega) (by omega)), if_pos hy, hb, if_pos hb01, cj]
    · have m' := m.thr (v := 0)
      have hh : gI (gPI h (a0 + 153) 0 0) (a0 + 153 + 1) j = s 1 j 0 := m'.2.2.1.1 j (by omega)
      have m2 : MX (a0 + 153) (gPI (gPI h (a0 + 153) 0 0) (a0 + 153 + 1) j y) (su s 1 j 0 y) n1 n2 n3 n4 := by
        obtain ⟨l, z0, ⟨z1, z2, z3, z4⟩, z5⟩ := m'
        have off : ∀ k, k ≠ 1 → gI (gPI (gPI h (a0 + 153) 0 0) (a0 + 153 + 1) j y) (a0 + 153 + k) = gI (gPI h (a0 + 153) 0 0) (a0 + 153 + k) := fun k hk => gU_o (by omega)
        refine ⟨l, ?_, ⟨fun k hk => ?_, ?_, ?_, ?_⟩, ?_⟩
        · have := off 0 (by omega)
          rw [Nat.add_zero] at this
          unfold M0; rw [this, T 0 (by omega)]; exact z0
        · rw [gI_PI, if_pos rfl]
          by_cases e : k = j
          · rw [e, if_pos rfl, su_s]
          · rw [if_neg e, su_i e]; exact z1 k hk
        · rw [off 2 (by omega), T 2 (by omega)]; exact z2
        · rw [off 3 (by omega), T 6 (by omega)]; exact z3
        · rw [off 5 (by omega), T 3 (by omega), T 4 (by omega)]; exact z4
        · unfold M2; rw [off 4 (by omega), off 6 (by omega), off 7 (by omega), T 3 (by omega), T 5 (by omega), T 0 (by omega)]; exact z5
      refine ⟨s 1 j 0, _, ?_, (Fmm.put ⟨by omega, by omega⟩).tr (Fmm.put (a := a0 + 153 + 1) ⟨by omega, by omega⟩), m2, ?_, fun _ => rfl⟩
      · show f7_setHive h (a0 + 153) (nI j) y = _
        unfold f7_setHive f7_setHive_14
        rw [if_pos m.1.1, m_isHouse m e1 s12, gB2_some, if_pos hx, if_neg n10, if_pos m.1.1, if_pos m.1.1]
        rw [show gI (gPI h (a0 + 153) 0 0) (a0 + 153) 0 = 0 by simp [gI_PI], if_pos rfl, show gR (gPI h (a0 + 153) 0 0) (a0 + 153) 2 = some (a0 + 153 + 1) from m'.1.2.1.1, ob_some, m.1.2.2.1, if_pos rfl, if_pos (ixOk (by omega) (by omega)), ob_some, m.1.2.2.1, if_pos rfl, if_pos (ixOk (by omega) (by omega)), if_pos hy, cj, hh, if_pos hb01]
      · simp [gI_PI]
        rfl
  · refine OpR.thr I 1 (by omega) (by omega) ?_ fun h m => ?_
    · unfold f6_setHive
      rw [if_pos s1, p_checkHouse I, gB2_some, if_neg hx, if_neg n1e]
    · rw [gPI_PI]
      unfold f7_setHive f7_setHive_14
      rw [if_pos m.1.1, m_isHouse m e1 s12, gB2_some, if_neg hx, if_pos rfl, if_pos m.1.1, if_pos m.1.1]
      rw [show gI (gPI h (a0 + 153) 0 1) (a0 + 153) 0 = 1 by simp [gI_PI], if_neg n10]
      rfl
end
section
/-! PURE: setGate -/
def gtS (s : Sg) (i : Nat) (f t : Int32) : Sg := su (su s 2 i 3 f) 2 i 4 t
theorem gt_T {s : Sg} {i k : Nat} {f t : Int32} (h : k ≠ 2) : gtS s i f t k = s k := (su_T h).trans (su_T h)
theorem gt_k {s : Sg} {i j k : Nat} {f t : Int32} (h : k < 3) : gtS s i f t 2 j k = s 2 j k := (su_k (by omega)).trans (su_k (by omega))
theorem gt_o {s : Sg} {i j k : Nat} {f t : Int32} (h : j ≠ i) : gtS s i f t 2 j k = s 2 j k := (su_i h).trans (su_i h)
theorem gt_3 {s : Sg} {i : Nat} {f t : Int32} : gtS s i f t 2 i 3 = f := (su_k (by omega)).trans su_s
theorem gt_4 {s : Sg} {i : Nat} {f t : Int32} : gtS s i f t 2 i 4 = t := su_s
theorem gt_slF {s : Sg} {i : Nat} {f t : Int32} (u v : Int32) (k : Nat) : slF (gtS s i f t) u v k = slF s u v k := by
  induction k with
  | zero => rfl
  | succ k ih =>
    show (if _ then _ else _) = (if _ then _ else _)
    rw [ih, gt_k (by omega), gt_k (by omega), gt_k (by omega), gt_k (by omega)]
theorem gt_sl {s : Sg} {i : Nat} {f t : Int32} (u v : Int32) : sl (gtS s i f t) u v = sl s u v := by
  unfold sl
  rw [gt_slF, gt_T (by omega)]
theorem gt_tg {s : Sg} {i : Nat} {f t : Int32} (b : Nat) (to : Int32) : tg (gtS s i f t) b to = tg s b to := by
  have h : ∀ k, tgF (gtS s i f t) b to k = tgF s b to k := fun k => by
    induction k with
    | zero => rfl
    | succ k ih =>
      have hwy : ∀ u v, wy (gtS s i f t) u v = wy s u v := fun u v => by unfold wy; rw [gt_T (by omega), gt_T (by omega)]
      show (if _ then _ else _) = (if _ then _ else _)
      rw [ih, hwy, gt_T (by omega)]
  unfold tg
  rw [h, gt_T (by omega)]
theorem gt_WT {s : Sg} {i n1 n2 f t : Nat} (w : WT s n1 n2) (hf : f ≤ 23) (hft : f ≤ t) (ht : t ≤ 24) : WT (gtS s i (nI f) (nI t)) n1 n2 := by
  obtain ⟨w1, w2, w3, w4, w5, w6, w7⟩ := w
  refine ⟨by rw [gt_T (by omega)]; exact w1, w2, by rw [gt_T (by omega)]; exact w3, w4, fun j hj => ?_, by rw [gt_T (by omega)]; exact w6, by rw [gt_T (by omega)]; exact w7⟩
  obtain ⟨a1, a2, a3, a4, a5⟩ := w5 j hj
  rw [gt_k (by omega), gt_k (by omega), gt_k (by omega)]
  refine ⟨a1, a2, a3, a4, ?_⟩
  by_cases e : j = i
  · subst e
    exact ⟨f, t, hf, hft, ht, gt_3, gt_4⟩
  · rw [gt_o e, gt_o e]; exact a5
theorem gt_Ws {s : Sg} {i n1 n2 : Nat} {f t : Int32} (w : Ws s n1 n2) : Ws (gtS s i f t) n1 n2 := by
  obtain ⟨C, la, u1, u2, u3⟩ := w
  exact ⟨C, la, by rw [gt_T (by omega)]; exact u1, fun j hj k hk => by rw [gt_k hk]; exact u2 j hj k hk, u3⟩
/-- the model's cells -/
theorem MX.gt {M n1 n2 n3 n4 i : Nat} {g : g_H} {s : Sg} {f t : Int32} (m : MX M g s n1 n2 n3 n4) : MX M (gPI (gPI g (M + 2) (5 * i + 3) f) (M + 2) (5 * i + 4) t) (gtS s i f t) n1 n2 n3 n4 := by
  obtain ⟨l, z0, ⟨z1, z2, z3, z4⟩, z5⟩ := m
  have off : ∀ k, k ≠ 2 → gI (gPI (gPI g (M + 2) (5 * i + 3) f) (M + 2) (5 * i + 4) t) (M + k) = gI g (M + k) := fun k hk => (gU_o (by omega)).trans (gU_o (by omega))
  refine ⟨l, ?_, ⟨?_, fun j hj k hk => ?_, ?_, ?_⟩, ?_⟩
  · have this : gI (gPI (gPI g (M + 2) (5 * i + 3) f) (M + 2) (5 * i + 4) t) M = gI g M := off 0 (by omega)
    unfold M0; rw [this, gt_T (by omega)]; exact z0
  · rw [off 1 (by omega), gt_T (by omega)]; exact z1
  · rw [gI_PI, if_pos rfl, gI_PI, if_pos rfl]
    by_cases e : j = i
    · subst e
      by_cases k4 : k = 4
      · subst k4; rw [if_pos rfl, gt_4]
      · rw [if_neg (by omega)]
        by_cases k3 : k = 3
        · subst k3; rw [if_pos rfl, gt_3]
        · rw [if_neg (by omega), gt_k (by omega)]; exact z2 j hj k hk
    · rw [if_neg (by omega), if_neg (by omega), gt_o e]; exact z2 j hj k hk
  · rw [off 3 (by omega), gt_T (by omega)]; exact z3
  · rw [off 5 (by omega), gt_T (by omega), gt_T (by omega)]; exact z4
  · unfold M2; rw [off 4 (by omega), off 6 (by omega), off 7 (by omega), gt_T (by omega), gt_T (by omega), gt_T (by omega)]; exact z5
theorem m_setGate {M n1 n2 n3 n4 i f t : Nat} {g : g_H} {s : Sg} (m : MX M g s n1 n2 n3 n4) (wt : WT s n1 n2) (hi : i < n2) (hf : f ≤ 23) (hft : f ≤ t) (ht : t ≤ 24) :
    ∃ g', f7_setGate g M (nI i) (nI f) (nI t) = some ((100 : Int32) * s 2 i 3 + s 2 i 4, g') ∧ g' = gPI (gPI (gPI g M 0 0) (M + 2) (5 * i + 3) (nI f)) (M + 2) (5 * i + 4) (nI t) ∧ MX M g' (gtS s i (nI f) (nI t)) n1 n2 n3 n4 := by
  have h24 := wt.2.2.2.1
  have m' := m.thr (v := 0)
  refine ⟨_, ?_, rfl, m'.gt⟩
  have c3 : Int32.toNatClampNeg (nI (5 * i + 3)) = 5 * i + 3 := cl_nI (by omega)
  have c4 : Int32.toNatClampNeg (nI (5 * i + 4)) = 5 * i + 4 := cl_nI (by omega)
  have i3 : (5 : Int32) * nI i + (3 : Int32) = nI (5 * i + 3) := ix5 (k := 3)
  have i4 : (5 : Int32) * nI i + (4 : Int32) = nI (5 * i + 4) := ix5 (k := 4)
  have r3 := m_ro (k := 3) (y := (3 : Int32)) m' h24 hi (by omega) rfl rfl
  have r4 := m_ro (k := 4) (y := (4 : Int32)) m' h24 hi (by omega) rfl rfl
  have in1 : f7_isIn (gPI g M 0 0) (nI f) 0 23 = some (1, gPI g M 0 0) := by
    unfold f7_isIn
    have h : ¬ (23 : Int32) < nI f := nI_nlt (a := 23) hf (by omega)
    rw [if_neg (nI_pos (by omega)), if_neg h]
  have in2 : f7_isIn (gPI g M 0 0) (nI t) (nI f) 24 = some (1, gPI g M 0 0) := by
    unfold f7_isIn
    have h : ¬ (24 : Int32) < nI t := nI_nlt (a := 24) ht (by omega)
    rw [if_neg (nI_nlt hft (by omega)), if_neg h]
  have ha : gR (gPI g M 0 0) M 4 = some (M + 2) := m'.1.2.1.2.1
  have hz : gS (gPI g M 0 0) (M + 2) = (11, 120) := m'.1.2.2.2.1
  unfold f7_setGate
  rw [if_pos m.1.1, m_isLane m' wt.2.2.1 h24, gB2_some, if_pos (inR_of (by omega) hi), if_neg n10, in1, gB2_some, if_neg n10, in2, gB2_some, if_neg n10, if_pos m'.1.1, r3, gB2_some, if_pos m'.1.1, r4, gB2_some, if_pos m'.1.1, ha, ob_some, hz, if_pos rfl, i3, if_pos (ixOk (by omega) (by omega)), c3, gR_PI, ha, ob_some, hz, if_pos rfl, i4, if_pos (ixOk (by omega) (by omega)), c4]
abbrev c2 : Nat → Nat := fun c => if c = 0 then 0 else if c = 1 then 1 else 2
theorem o_setGate {a0 n1 n2 n3 n4 q : Nat} {g : g_H} {s : Sg} (I : ClI a0 g s n1 n2 n3 n4 q) (x y z : Int32) : OpR a0 g s n1 n2 n3 n4 q (f6_setGate g a0 x y z) (fun h => f7_setGate h (a0 + 153) x y z) c2 := by
  obtain ⟨s1, s2, s3, s4, s5, s6, s7, s8, s9, s10, s11, s12, s13, s14, s15⟩ := I.sh
  have e2 := I.1.1.1.2.2.1
  by_cases hx : inR (nI n2) x
  · obtain ⟨i, hi, rfl⟩ := inR_nat (by omega) hx
    have bad : (y < 0 ∨ (24 : Int32) ≤ y ∨ z < y ∨ ¬ z ≤ (24 : Int32)) → OpR a0 g s n1 n2 n3 n4 q (f6_setGate g a0 (nI i) y z) (fun h => f7_setGate h (a0 + 153) (nI i) y z) c2 := by
      intro hb
      refine OpR.thr I 2 (by omega) (by omega) ?_ fun h m => ?_
      · unfold f6_setGate f6_setGate_42
        rw [if_pos s1, s2, ob_some, if_pos s6, p_hasLane s6, gB2_some, s9, if_pos hx, if_neg n10]
        by_cases k1 : y < 0
        · rw [if_pos k1]
        · by_cases k2 : (24 : Int32) ≤ y
          · rw [if_neg k1, if_pos k2]
          · by_cases k3 : z < y
            · rw [if_neg k1, if_neg k2, if_pos k3]
            · rw [if_neg k1, if_neg k2, if_neg k3, if_neg (((hb.resolve_left k1).resolve_left k2).resolve_left k3)]
      · have m' := m.thr (v := 0)
        unfold f7_setGate f7_setGate_39
        rw [if_pos m.1.1, m_isLane m' e2 s13, gB2_some, if_pos hx, if_neg n10, isIn_w (n := 24) (by omega) (by decide), gB2_some]
        by_cases k : inR (nI 24) y
        · rw [if_pos k, if_neg n10]
          unfold f7_isIn
          by_cases k3 : z < y
          · rw [if_pos k3, gB2_some, if_pos rfl, if_pos m'.1.1, m_fail m'.1.1, gB2_some]
            rfl
          · have k4 : (24 : Int32) < z := Int32.not_le.mp (((hb.resolve_left k.1).resolve_left k.2).resolve_left k3)
            rw [if_neg k3, if_pos k4, gB2_some, if_pos rfl, if_pos m'.1.1, m_fail m'.1.1, gB2_some]
            rfl
        · rw [if_neg k, if_pos rfl, if_pos m'.1.1, m_fail m'.1.1, gB2_some]
          rfl
    by_cases k1 : y < 0
    · exact bad (Or.inl k1)
    · by_cases k2 : (24 : Int32) ≤ y
      · exact bad (Or.inr (Or.inl k2))
      · by_cases k3 : z < y
        · exact bad (Or.inr (Or.inr (Or.inl k3)))
        · by_cases k4 : z ≤ (24 : Int32)
          · obtain ⟨f, hf, rfl⟩ := inR_nat (n := 24) (by omega) ⟨k1, k2⟩
            have hz0 : ¬ z < 0 := fun k => k3 (Int32.lt_of_lt_of_le k (nI_pos' (by omega)))
            obtain ⟨t, ht, rfl⟩ := nI_of2 (n := 24) rfl hz0 k4
            have hft : f ≤ t := by
              rcases Nat.lt_or_ge t f with k | k
              · exact absurd (nI_lt k (by omega)) k3
              · exact k
            obtain ⟨l1, l2, l3, l4, l5, l6, l7, l8⟩ := p_lane I.1 hi
            have ci : Int32.toNatClampNeg (nI i) = i := cl_nI (by omega)
            have r4 := (I.1.2.1.2.2.2.2.1).2.2.2.1 i hi
            have hne : nI i ≠ gI g (a0 + 43) 7 := by rw [I.2.2.1]; exact nI_m1 (by omega)
            obtain ⟨g3, g4⟩ := r4.2.2 hne
            have r1' : R1 a0 (a0 + 43) (gPI (gPI g (a0 + 4 + i) 3 (nI f)) (a0 + 4 + i) 4 (nI t)) (gtS s i (nI f) (nI t)) n2 := by
              obtain ⟨q1, q2, q3, q4, q5⟩ := I.1.2.1.2.2.2.2.1
              have off : ∀ a, a ≠ a0 + 4 + i → gI (gPI (gPI g (a0 + 4 + i) 3 (nI f)) (a0 + 4 + i) 4 (nI t)) a = gI g a := fun a ha => (gU_o ha).trans (gU_o ha)
              refine ⟨?_, ?_, fun k hk => ?_, fun j hj => ?_, fun u v hu hv => ?_⟩
              · rw [off _ (by omega), gt_T (by omega)]; exact q1
              · rw [off _ (by omega), gt_T (by omega)]; exact q2
              · rw [off _ (by omega), gt_T (by omega)]; exact q3 k hk
              · rw [off (a0 + 43) (by omega), I.2.2.1]
                refine ⟨fun k hk => ?_, fun k => absurd k (nI_m1 (by omega)), fun _ => ?_⟩
                · rw [gt_k hk, gI_PI, if_neg (c := k = 4) (by omega), gI_PI, if_neg (c := k = 3) (by omega), ite_self, ite_self]
                  exact (q4 j hj).1 k hk
                · by_cases e : j = i
                  · subst e
                    rw [gt_3, gt_4]
                    simp [gI_PI]
                  · rw [off _ (by omega), gt_o e, gt_o e]
                    exact (q4 j hj).2.2 (by rw [I.2.2.1]; exact nI_m1 (by omega))
              · rw [off _ (by omega), gt_T (by omega)]; exact q5 u v hu hv
            have ft : Ft a0 g (gPI (gPI g (a0 + 4 + i) 3 (nI f)) (a0 + 4 + i) 4 (nI t)) := (Ft.put ⟨by omega, by omega⟩).tr (Ft.put ⟨by omega, by omega⟩)
            have I' := I.st ft (gt_WT (i := i) I.1.1.1 (by omega) hft ht) (Nat.le_refl _) (gt_T (by omega)) (gt_T (by omega)) (gt_T (by omega)) (by rw [gt_T (by omega)]) (by rw [gt_T (by omega)]) (by rw [gt_T (by omega)]) (fun b hb u v => gt_sl u v) (fun b hb u hu => gt_tg b _) r1' (gt_Ws I.2.2.2)
            refine ⟨0, (100 : Int32) * s 2 i 3 + s 2 i 4, _, _, n1, n2, n3, n4, q, ?_, by omega, ft.fc, I', by omega, fun h m hZ => ?_⟩
            · unfold f6_setGate
              rw [if_pos s1, s2, ob_some, if_pos s6, p_hasLane s6, gB2_some, s9, if_pos hx, if_neg n10, if_neg k1, if_neg k2, if_neg k3, if_pos k4, if_pos s1, s2, ob_some, if_pos s6, l1, ob_some, l2, if_pos rfl, if_pos (ixOk (by omega) (by omega)), ci, l3, ob_some, if_pos l4, g3, g4]
            · obtain ⟨g', x1, x2, x3⟩ := m_setGate m I.1.1.1 hi (show f ≤ 23 by omega) hft ht
              refine ⟨_, g', x1, ?_, x3, ?_, fun _ => rfl⟩
              · rw [x2]
                exact ((Fmm.put ⟨by omega, by omega⟩).tr (Fmm.put (a := a0 + 153 + 2) ⟨by omega, by omega⟩)).tr (Fmm.put (a := a0 + 153 + 2) ⟨by omega, by omega⟩)
              · rw [x2]; simp [gI_PI]; rfl
          · exact bad (Or.inr (Or.inr (Or.inr k4)))
  · refine OpR.thr I 1 (by omega) (by omega) ?_ fun h m => ?_
    · unfold f6_setGate
      rw [if_pos s1, s2, ob_some, if_pos s6, p_hasLane s6, gB2_some, s9, if_neg hx, if_pos rfl]
    · have m' := m.thr (v := 0)
      unfold f7_setGate
      rw [if_pos m.1.1, m_isLane m' e2 s13, gB2_some, if_neg hx, if_pos rfl, if_pos m'.1.1, m_fail m'.1.1, gB2_some]
      rfl
end
section
/-! PURE: addHouse -/
theorem Val.grow {la : Nat → Nat → Nat} {m n : Nat} {C : Nat → Nat → Nat} (v : Val la m n 1000 C) (hl : Hl la m n) (h14 : n < 14) (hd : ∀ x, x < 14 → C x x = 0) (hC : ∀ x y, x < 14 → y < 14 → C x y ≤ 1000) (hf : ∀ x y, x < 14 → y < 14 → x ≠ y → (n ≤ x ∨ n ≤ y) → C x y = 1000) : Val la m (n + 1) 1000 C := by
  refine ⟨fun x hx => hd x (by omega), fun x z y l hx hj => ?_, fun x y hx hy => hC x y (by omega) (by omega), fun x y hx hy h => ?_⟩
  · obtain ⟨hz, hy, -, -⟩ := hj.lt hl
    by_cases e : x < n
    · exact v.2.1 x z y l e hj
    · have h1 := hf x z (by omega) (by omega) (by omega) (by omega)
      have h2 := hC x y (by omega) (by omega)
      omega
  · by_cases e : x < n ∧ y < n
    · exact v.2.2.2 x y e.1 e.2 h
    · by_cases e2 : x = y
      · subst e2
        exact ⟨0, rfl, hd x (by omega)⟩
      · have := hf x y (by omega) (by omega) e2 (by omega)
        omega
theorem Hl.mono {la : Nat → Nat → Nat} {m n n' : Nat} (h : Hl la m n) (hn : n ≤ n') : Hl la m n' := fun i hi => by
  obtain ⟨a, b, c, d⟩ := h i hi
  exact ⟨by omega, by omega, c, d⟩
theorem fi_nI {C : Nat} (h : C ≤ 1000) : nI (if C = 1000 then 9999 else C) = fi (nI C) := by
  unfold fi
  by_cases e : C = 1000
  · rw [if_pos e, if_pos (show nI C = (1000 : Int32) by rw [e]; rfl)]
    rfl
  · have kn : ¬ nI C = (1000 : Int32) := fun k => e ((nI_eq (b := 1000) (by omega) (by omega)).mp k)
    rw [if_neg e, if_neg kn]
/-- the model's matrix after a reckoning -/
theorem MX.reck {M n1 n2 n3 n4 : Nat} {g g' : g_H} {s t : Sg} {C la : Nat → Nat → Nat} (m : MX M g s n1 n2 n3 n4) (f : Fk M g g') {D : Nat → Nat → Nat} (wm : WM M g' n1 D) (v : Val la n2 n1 9999 D) (c : Val la n2 n1 1000 C) (hl : Hl la n2 n1) (h14 : n1 ≤ 14)
    (h6 : ∀ x y, x < 14 → y < 14 → t 6 x y = nI (C x y) ∧ C x y ≤ 1000) (ho : ∀ k, k ≠ 6 → t k = s k) : MX M g' t n1 n2 n3 n4 := by
  obtain ⟨l, z0, ⟨z1, z2, z3, z4⟩, z5⟩ := m
  obtain ⟨f1, f2, f3, f4, f5⟩ := f
  refine ⟨by unfold ML; rw [f1, f2]; exact l, ?_, ⟨?_, ?_, fun x y hx hy => ?_, ?_⟩, ?_⟩
  · unfold M0; rw [f5 _ (by omega), ho 0 (by omega)]; exact z0
  · rw [f5 _ (by omega), ho 1 (by omega)]; exact z1
  · rw [f5 _ (by omega), ho 2 (by omega)]; exact z2
  · obtain ⟨q1, q2⟩ := h6 x y (by omega) (by omega)
    rw [wm x y hx hy, q1, c.uni v hl h14 hx hy, fi_nI q2]
  · rw [f5 _ (by omega), ho 3 (by omega), ho 4 (by omega)]; exact z4
  · unfold M2; rw [f5 _ (by omega), f5 _ (by omega), f5 _ (by omega), ho 3 (by omega), ho 5 (by omega), ho 0 (by omega)]; exact z5
theorem Fk.mm {M : Nat} {g h : g_H} (f : Fk M g h) : Fmm M g h := ⟨Nat.le_of_eq f.2.2.2.1.symm, fun a _ => ⟨by rw [f.1], by rw [f.2.2.1], by rw [f.2.1], fun ha => f.2.2.2.2 a (by omega)⟩⟩
def ahS (s : Sg) (n1 : Nat) : Sg := su s 0 0 1 (nI (n1 + 1))
theorem ah_T {s : Sg} {n1 k : Nat} (h : k ≠ 0) : ahS s n1 k = s k := su_T h
theorem ah_0 {s : Sg} {n1 k : Nat} (h : k ≠ 1) : ahS s n1 0 0 k = s 0 0 k := su_k h
theorem ah_1 {s : Sg} {n1 : Nat} : ahS s n1 0 0 1 = nI (n1 + 1) := su_s
theorem o_addHouse {a0 n1 n2 n3 n4 q : Nat} {g : g_H} {s : Sg} (I : ClI a0 g s n1 n2 n3 n4 q) : OpR a0 g s n1 n2 n3 n4 q (f6_addHouse g a0) (fun h => f7_addHouse h (a0 + 153)) c1 := by
  obtain ⟨s1, s2, s3, s4, s5, s6, s7, s8, s9, s10, s11, s12, s13, s14, s15⟩ := I.sh
  have e1 := I.1.1.1.1
  have h14 : ∀ n, n ≤ 14 → ((nI n < (14 : Int32)) ↔ n < 14) := fun n hn => nI_ltI (b := 14) (by omega) (by omega)
  have q14 : ∀ n, n ≤ 14 → ((nI n = (14 : Int32)) ↔ n = 14) := fun n hn => nI_eq (b := 14) (by omega) (by omega)
  by_cases hx : n1 < 14
  · obtain ⟨C, la, u1, u2, u3, u4, u5, u6, u7⟩ := I.2.2.2
    have hv := u5.grow u3 hx u6 (fun x y a b => (u1 x y a b).2) u7
    have hl := u3.mono (Nat.le_succ n1)
    have wt := I.1.1.1
    have hsl : ∀ x y, sl (ahS s n1) x y = sl s x y := fun x y => by
      have h : ∀ k, slF (ahS s n1) x y k = slF s x y k := fun k => by
        induction k with
        | zero => rfl
        | succ k ih =>
          show (if _ then _ else _) = (if _ then _ else _)
          rw [ih, ah_T (by omega)]
      unfold sl
      rw [h, ah_0 (by omega)]
    have wt' : WT (ahS s n1) (n1 + 1) n2 := by
      obtain ⟨w1, w2, w3, w4, w5, w6, w7⟩ := wt
      refine ⟨ah_1, by omega, by rw [ah_0 (by omega)]; exact w3, w4, fun i hi => ?_, by rw [ah_T (by omega)]; exact w6, fun x y hx hy => ?_⟩
      · rw [ah_T (by omega)]
        obtain ⟨a, b, c⟩ := w5 i hi
        exact ⟨inR_mono a (by omega) (by omega), inR_mono b (by omega) (by omega), c⟩
      · rw [ah_T (by omega)]
        obtain ⟨p1, p2⟩ := u1 x y (by omega) (by omega)
        exact ⟨C x y, p2, p1⟩
    have htg : ∀ b, b < n3 → ∀ x, x < 14 → tg (ahS s n1) b (nI x) = tg s b (nI x) := by
      intro b hb x hx'
      obtain ⟨z, p, l, st, ho, e1', e2, e3, e4, e5, e6, e7, e8, e9, e10, e11, e12, e13, e14, e15⟩ := I.1.wb hb
      have cz : cl (nI z) = z := cl_nI (by omega)
      have hwy : ∀ k, k < z → wy (ahS s n1) (s 4 b k) (nI x) = wy s (s 4 b k) (nI x) := by
        intro k hk
        obtain ⟨j, hj, hj2⟩ := inR_nat (by omega) (e14 k hk)
        have cj : cl (nI j) = j := cl_nI (by omega)
        have cx : cl (nI x) = x := cl_nI (by omega)
        unfold wy
        rw [ah_1, e1, ah_T (by omega), hj2, cj, cx]
        by_cases c : x < n1
        · rw [if_pos ⟨inR_of (by omega) (by omega), inR_of (by omega) (by omega)⟩, if_pos ⟨inR_of (by omega) hj, inR_of (by omega) c⟩]
        · rw [if_neg (c := inR (nI n1) (nI j) ∧ inR (nI n1) (nI x)) (fun k => k.2.2 (nI_le (by omega) (by omega)))]
          by_cases d : x < n1 + 1
          · rw [if_pos ⟨inR_of (by omega) (by omega), inR_of (by omega) d⟩, (u1 j x (by omega) hx').1, u7 j x (by omega) hx' (by omega) (by omega)]
            rfl
          · rw [if_neg fun k => k.2.2 (nI_le (by omega) (by omega))]
      have hF : ∀ k, k ≤ z → tgF (ahS s n1) b (nI x) k = tgF s b (nI x) k := fun k hk => by
        induction k with
        | zero => rfl
        | succ k ih =>
          show (if _ then _ else _) = (if _ then _ else _)
          rw [ih (by omega), ah_T (by omega), hwy k (by omega)]
      unfold tg
      rw [ah_T (by omega), e1', cz, hF z (Nat.le_refl _)]
    have r1' : R1 a0 (a0 + 43) (gPI g (a0 + 1) 0 (nI (n1 + 1))) (ahS s n1) n2 := by
      obtain ⟨q1, q2, q3, q4, q5⟩ := I.1.2.1.2.2.2.2.1
      refine ⟨?_, ?_, fun k hk => ?_, fun i hi => ?_, fun u v hu hv => ?_⟩
      · rw [ah_1]; simp [gI_PI]
      · rw [ah_0 (by omega), gI_PI, if_pos rfl, if_neg (by omega)]; exact q2
      · rw [gI_PI, if_neg (by omega), ah_T (by omega)]; exact q3 k hk
      · rw [ah_T (by omega), show gI (gPI g (a0 + 1) 0 (nI (n1 + 1))) (a0 + 4 + i) = gI g (a0 + 4 + i) from gU_o (by omega), show gI (gPI g (a0 + 1) 0 (nI (n1 + 1))) (a0 + 43) = gI g (a0 + 43) from gU_o (by omega)]
        exact q4 i hi
      · rw [gI_PI, if_neg (by omega), ah_T (by omega)]; exact q5 u v hu hv
    have ws' : Ws (ahS s n1) (n1 + 1) n2 := ⟨C, la, by rw [ah_T (by omega)]; exact u1, by rw [ah_T (by omega)]; exact u2, hl, u4, hv, u6, fun x y a b c d => u7 x y a b c (by omega)⟩
    have ft : Ft a0 g (gPI g (a0 + 1) 0 (nI (n1 + 1))) := Ft.put ⟨by omega, by omega⟩
    have I' := I.st ft wt' (by omega) (ah_T (by omega)) (ah_T (by omega)) (ah_T (by omega)) (ah_0 (by omega)) (ah_0 (by omega)) (ah_0 (by omega)) (fun b hb => hsl) htg r1' ws'
    refine ⟨0, nI n1, _, _, n1 + 1, n2, n3, n4, q, ?_, by omega, ft.fc, I', by omega, fun h m hZ => ?_⟩
    · unfold f6_addHouse
      rw [if_pos s1, s2, ob_some, if_pos s6, s8, if_pos ((h14 n1 (by omega)).mpr hx), ob_some, if_pos s6, s8, nI_1]
    · have m' := m.thr (v := 0)
      have g1 : gI (gPI h (a0 + 153) 0 0) (a0 + 153) 1 = nI n1 := m'.2.1.1.trans e1
      -- one house more, the ways not yet
      have m2 : MX (a0 + 153) (gPI (gPI h (a0 + 153) 0 0) (a0 + 153) 1 (nI (n1 + 1))) (ahS s n1) 0 n2 n3 n4 := by
        obtain ⟨l, ⟨y1, y2, y3, y4⟩, ⟨z1, z2, z3, z4⟩, ⟨p1, p2, p3⟩⟩ := m'
        have e : ∀ k, k ≠ 0 → gI (gPI (gPI h (a0 + 153) 0 0) (a0 + 153) 1 (nI (n1 + 1))) (a0 + 153 + k) = gI (gPI h (a0 + 153) 0 0) (a0 + 153 + k) := fun k hk => gU_o (by omega)
        refine ⟨l, ⟨?_, ?_, ?_, ?_⟩, ⟨?_, ?_, fun x y hx hy => by omega, ?_⟩, ?_⟩
        · rw [ah_1]; simp [gI_PI]
        · rw [ah_0 (by omega), gI_PI, if_pos rfl, if_neg (by omega)]; exact y2
        · rw [ah_0 (by omega), gI_PI, if_pos rfl, if_neg (by omega)]; exact y3
        · rw [ah_0 (by omega), gI_PI, if_pos rfl, if_neg (by omega)]; exact y4
        · rw [e 1 (by omega), ah_T (by omega)]; exact z1
        · rw [e 2 (by omega), ah_T (by omega)]; exact z2
        · rw [e 5 (by omega), ah_T (by omega), ah_T (by omega)]; exact z4
        · unfold M2; rw [e 4 (by omega), e 6 (by omega), e 7 (by omega), ah_T (by omega), ah_T (by omega), ah_0 (by omega)]; exact ⟨p1, p2, p3⟩
      have rk : RkI (a0 + 153) (gPI (gPI h (a0 + 153) 0 0) (a0 + 153) 1 (nI (n1 + 1))) (n1 + 1) n2 la :=
        ⟨m2.1, m2.2.1.1.trans ah_1, m2.2.1.2.1.trans ((ah_0 (by omega)).trans wt.2.2.1), by omega, s13, fun i hi k hk => by rw [m2.2.2.1.2.1 i hi k (by omega), ah_T (by omega)]; exact u2 i hi k hk⟩
      obtain ⟨g', D, r1, r2, r3, r4⟩ := r_reckon hl u4 rk
      have m3 : MX (a0 + 153) g' (ahS s n1) (n1 + 1) n2 n3 n4 := by
        have m2' : MX (a0 + 153) g' (ahS s n1) 0 n2 n3 n4 := by
          obtain ⟨l, z0, ⟨z1, z2, z3, z4⟩, z5⟩ := m2
          obtain ⟨f1, f2, f3, f4, f5⟩ := r2
          refine ⟨by unfold ML; rw [f1, f2]; exact l, ?_, ⟨?_, ?_, fun x y hx hy => by omega, ?_⟩, ?_⟩
          · unfold M0; rw [f5 _ (by omega)]; exact z0
          · rw [f5 _ (by omega)]; exact z1
          · rw [f5 _ (by omega)]; exact z2
          · rw [f5 _ (by omega)]; exact z4
          · unfold M2; rw [f5 _ (by omega), f5 _ (by omega), f5 _ (by omega)]; exact z5
        refine ⟨m2'.1, m2'.2.1, ⟨m2'.2.2.1.1, m2'.2.2.1.2.1, fun x y hx hy => ?_, m2'.2.2.1.2.2.2⟩, m2'.2.2.2⟩
        obtain ⟨q1, q2⟩ := u1 x y (by omega) (by omega)
        rw [r3 x y hx hy, ah_T (by omega), q1, hv.uni r4 hl (by omega) hx hy, fi_nI q2]
      refine ⟨nI n1, g', ?_, ?_, m3, ?_, fun _ => rfl⟩
      · show f7_addHouse h (a0 + 153) = _
        unfold f7_addHouse gLt
        rw [if_pos m.1.1, g1, if_neg fun k => absurd ((q14 n1 (by omega)).mp k) (by omega)]
        dsimp only
        rw [nI_1, r1, ob_some, if_pos m3.1.1, m3.2.1.1, ah_1, nI_pred]
      · exact ((Fmm.put (a := a0 + 153) ⟨by omega, by omega⟩).tr (Fmm.put (a := a0 + 153) ⟨by omega, by omega⟩)).tr r2.mm
      · rw [r2.2.2.2.2 _ (by omega)]
        simp [gI_PI]
        rfl
  · refine OpR.thr I 3 (by omega) (by omega) ?_ fun h m => ?_
    · unfold f6_addHouse
      rw [if_pos s1, s2, ob_some, if_pos s6, s8, if_neg fun k => hx ((h14 n1 s12).mp k)]
    · have m' := m.thr (v := 0)
      have g1 : gI (gPI h (a0 + 153) 0 0) (a0 + 153) 1 = nI n1 := m'.2.1.1.trans e1
      unfold f7_addHouse
      rw [if_pos m.1.1, g1, if_pos ((q14 n1 s12).mpr (by omega)), m_fail m'.1.1, gB2_some]
      rfl
end
section
/-! PURE: addLane -/
def laU (la : Nat → Nat → Nat) (m a b l : Nat) : Nat → Nat → Nat := fun i k => if i = m then (if k = 0 then a else if k = 1 then b else l) else la i k
theorem jn.ext {la lb : Nat → Nat → Nat} {m z y l : Nat} (h : ∀ i, i < m → ∀ k, k < 3 → lb i k = la i k) (j : jn la m z y l) : jn lb m z y l := by
  obtain ⟨i, h1, h2, h3⟩ := j
  refine ⟨i, h1, by rw [h i h1 2 (by omega)]; exact h2, by rw [h i h1 0 (by omega), h i h1 1 (by omega)]; exact h3⟩
theorem Wk.ext {la lb : Nat → Nat → Nat} {m k x y d : Nat} (h : ∀ i, i < m → ∀ k, k < 3 → lb i k = la i k) (w : Wk la m k x y d) : Wk lb m k x y d := by
  induction k generalizing y d with
  | zero => exact w
  | succ k ih =>
    obtain ⟨z, l, e, h1, h2, h3⟩ := w
    exact ⟨z, l, e, h1.ext h, h2, ih h3⟩
theorem Val.ext {la lb : Nat → Nat → Nat} {m n far : Nat} {D : Nat → Nat → Nat} (h : ∀ i, i < m → ∀ k, k < 3 → lb i k = la i k) (v : Val la m n far D) : Val lb m n far D :=
  ⟨v.1, fun x z y l hx hj => v.2.1 x z y l hx (hj.ext fun i hi k hk => (h i hi k hk).symm), v.2.2.1, fun x y hx hy hf => by
    obtain ⟨k, hk⟩ := v.2.2.2 x y hx hy hf
    exact ⟨k, hk.ext h⟩⟩
def alS (s : Sg) (C : Nat → Nat → Nat) (m : Nat) (a b l : Int32) : Sg := fun k => if k = 6 then fun x y => nI (C x y) else su (su (su (su (su (su s 2 m 0 a) 2 m 1 b) 2 m 2 l) 2 m 3 0) 2 m 4 24) 0 0 2 (nI (m + 1)) k
theorem al_6 {s : Sg} {C : Nat → Nat → Nat} {m : Nat} {a b l : Int32} : alS s C m a b l 6 = fun x y => nI (C x y) := if_pos rfl
theorem al_T {s : Sg} {C : Nat → Nat → Nat} {m k : Nat} {a b l : Int32} (h6 : k ≠ 6) (h2 : k ≠ 2) (h0 : k ≠ 0) : alS s C m a b l k = s k := by
  unfold alS
  rw [if_neg h6, su_T h0, su_T h2, su_T h2, su_T h2, su_T h2, su_T h2]
theorem al_0 {s : Sg} {C : Nat → Nat → Nat} {m k : Nat} {a b l : Int32} (h : k ≠ 2) : alS s C m a b l 0 0 k = s 0 0 k := by
  unfold alS
  rw [if_neg (by omega), su_k h, su_T (by omega), su_T (by omega), su_T (by omega), su_T (by omega), su_T (by omega)]
theorem al_02 {s : Sg} {C : Nat → Nat → Nat} {m : Nat} {a b l : Int32} : alS s C m a b l 0 0 2 = nI (m + 1) := by
  unfold alS
  rw [if_neg (by omega), su_s]
theorem al_o {s : Sg} {C : Nat → Nat → Nat} {m i k : Nat} {a b l : Int32} (h : i ≠ m) : alS s C m a b l 2 i k = s 2 i k := by
  unfold alS
  rw [if_neg (by omega), su_t (by omega), su_i h, su_i h, su_i h, su_i h, su_i h]
theorem al_n {s : Sg} {C : Nat → Nat → Nat} {m : Nat} {a b l : Int32} : alS s C m a b l 2 m 0 = a ∧ alS s C m a b l 2 m 1 = b ∧ alS s C m a b l 2 m 2 = l ∧ alS s C m a b l 2 m 3 = 0 ∧ alS s C m a b l 2 m 4 = 24 := by
  unfold alS
  simp [su]
theorem p_join {a0 n1 n2 n3 n4 q a b l : Nat} {g : g_H} {s : Sg} (I : ClI a0 g s n1 n2 n3 n4 q) (h0 : n3 = 0) (h24 : n2 < 24) (ha : a < n1) (hb : b < n1) (hab : a ≠ b) (hl1 : 1 ≤ l) (hl6 : l ≤ 6) :
    ∃ C la g', f5_join g (a0 + 1) (nI a) (nI b) (nI l) = some (nI n2, g') ∧ Ft a0 g g' ∧ ClI a0 g' (alS s C n2 (nI a) (nI b) (nI l)) n1 (n2 + 1) n3 n4 q ∧ Val la (n2 + 1) n1 1000 C ∧ Hl la (n2 + 1) n1 ∧ (∀ i, i < n2 + 1 → la i 0 ≠ la i 1) ∧ (∀ i, i < n2 + 1 → ∀ k, k < 3 → alS s C n2 (nI a) (nI b) (nI l) 2 i k = nI (la i k)) ∧ ∀ x y, x < 14 → y < 14 → C x y ≤ 1000 := by
  obtain ⟨s1, s2, s3, s4, s5, s6, s7, s8, s9, s10, s11, s12, s13, s14, s15⟩ := I.sh
  obtain ⟨C0, la0, u1, u2, u3, u4, u5, u6, u7⟩ := I.2.2.2
  have hext : ∀ i, i < n2 → ∀ k, k < 3 → laU la0 n2 a b l i k = la0 i k := fun i hi k hk => if_neg (by omega)
  have e0 : laU la0 n2 a b l n2 0 = a := by unfold laU; rw [if_pos rfl, if_pos rfl]
  have e1 : laU la0 n2 a b l n2 1 = b := by unfold laU; rw [if_pos rfl, if_neg (by omega), if_pos rfl]
  have e2 : laU la0 n2 a b l n2 2 = l := by unfold laU; rw [if_pos rfl, if_neg (by omega), if_neg (by omega)]
  have hl : Hl (laU la0 n2 a b l) (n2 + 1) n1 := fun i hi => by
    by_cases e : i = n2
    · subst e
      rw [e0, e1, e2]
      exact ⟨ha, hb, hl1, hl6⟩
    · rw [hext i (by omega) 0 (by omega), hext i (by omega) 1 (by omega), hext i (by omega) 2 (by omega)]
      exact u3 i (by omega)
  have hne : ∀ i, i < n2 + 1 → laU la0 n2 a b l i 0 ≠ laU la0 n2 a b l i 1 := fun i hi => by
    by_cases e : i = n2
    · subst e
      rw [e0, e1]
      exact hab
    · rw [hext i (by omega) 0 (by omega), hext i (by omega) 1 (by omega)]
      exact u4 i (by omega)
  have v := u5.ext hext
  obtain ⟨t1, t2, t3, t4, t5, t6, t7, t8, t9⟩ := I.1.2.1.2.1
  have r1 := I.1.2.1.2.2.2.2.1
  have cn2 : Int32.toNatClampNeg (nI n2) = n2 := cl_nI (by omega)
  obtain ⟨g10, hg10⟩ : ∃ h, h = gPI (gPI (gPI (gPI (gPI g (a0 + 4 + n2) 0 (nI a)) (a0 + 4 + n2) 1 (nI b)) (a0 + 4 + n2) 2 (nI l)) (a0 + 4 + n2) 3 0) (a0 + 4 + n2) 4 24 := ⟨_, rfl⟩
  have fL : ∀ (g : g_H) (k : Nat) (v : Int32), Ft a0 g (gPI g (a0 + 4 + n2) k v) := fun g k v => Ft.put ⟨by omega, by omega⟩
  have f10 : Ft a0 g g10 := by
    rw [hg10]
    exact ((((fL _ _ _).tr (fL _ _ _)).tr (fL _ _ _)).tr (fL _ _ _)).tr (fL _ _ _)
  have o10 : ∀ x, x ≠ a0 + 4 + n2 → gI g10 x = gI g x := fun x hx => by
    rw [hg10]
    exact ((((gU_o hx).trans (gU_o hx)).trans (gU_o hx)).trans (gU_o hx)).trans (gU_o hx)
  have tl10 : TL a0 g10 := by unfold TL; rw [f10.1, f10.2.1]; exact ⟨t1, t2, t3, t4, t5, t6, t7, t8, t9⟩
  have wc0 : WC a0 g C0 := fun x y hx hy => (r1.2.2.2.2 x y hx hy).trans (u1 x y hx hy).1
  have wc : WC a0 g10 C0 := fun x y hx hy => by rw [o10 _ (by omega)]; exact wc0 x y hx hy
  obtain ⟨g', C, j1, j2, j3, j4⟩ := p_jLoop v hl s12 n1 0 300 g10 C0 (by omega) (by omega) tl10 (by rw [o10 _ (by omega)]; exact s8) wc (Jv.init v)
  rw [e0, e1, e2, o10 _ (by omega), s9, nI_1] at j1
  have hval := Jv.fin v hl j4
  have hC : ∀ x y, x < 14 → y < 14 → C x y ≤ 1000 := fun x y hx hy => by
    have := j4.1 x y
    have := (u1 x y hx hy).2
    omega
  have fF : Ft a0 g (gPI g' (a0 + 1) 1 (nI (n2 + 1))) := (f10.tr j2.ft).tr (Ft.put ⟨by omega, by omega⟩)
  have oF : ∀ x, ¬ (a0 + 29 ≤ x ∧ x ≤ a0 + 42) → x ≠ a0 + 1 → gI (gPI g' (a0 + 1) 1 (nI (n2 + 1))) x = gI g10 x := fun x h1 h2 => (show gI (gPI g' (a0 + 1) 1 (nI (n2 + 1))) x = gI g' x from gU_o h2).trans (j2.2.2.2.2 x h1)
  have wt := I.1.1.1
  obtain ⟨n0', n1', n2', n3', n4'⟩ := al_n (s := s) (C := C) (m := n2) (a := nI a) (b := nI b) (l := nI l)
  have wt' : WT (alS s C n2 (nI a) (nI b) (nI l)) n1 (n2 + 1) := by
    obtain ⟨w1, w2, w3, w4, w5, w6, w7⟩ := wt
    refine ⟨(al_0 (by omega)).trans w1, w2, al_02, by omega, fun i hi => ?_, by rw [al_T (by omega) (by omega) (by omega)]; exact w6, fun x y hx hy => ⟨C x y, hC x y (by omega) (by omega), by rw [al_6]⟩⟩
    by_cases e : i = n2
    · subst e
      rw [n0', n1', n2', n3', n4']
      exact ⟨inR_of (by omega) ha, inR_of (by omega) hb, fun k => hab (nI_inj (by omega) (by omega) k), ⟨l, hl1, hl6, rfl⟩, 0, 24, by omega, by omega, by omega, rfl, rfl⟩
    · rw [al_o e, al_o e, al_o e, al_o e, al_o e]
      exact w5 i (by omega)
  have h2 : ∀ i, i < n2 + 1 → ∀ k, k < 3 → alS s C n2 (nI a) (nI b) (nI l) 2 i k = nI (laU la0 n2 a b l i k) := fun i hi k hk => by
    by_cases e : i = n2
    · subst e
      match k, hk with
      | 0, _ => rw [n0', e0]
      | 1, _ => rw [n1', e1]
      | 2, _ => rw [n2', e2]
    · rw [al_o e, hext i (by omega) k hk]
      exact u2 i (by omega) k hk
  have ws' : Ws (alS s C n2 (nI a) (nI b) (nI l)) n1 (n2 + 1) := by
    refine ⟨C, laU la0 n2 a b l, fun x y hx hy => ⟨by rw [al_6], hC x y hx hy⟩, h2, hl, hne, hval, fun x hx => ?_, fun x y hx hy hxy hh => ?_⟩
    · by_cases e : x < n1
      · exact j4.2.1 x e
      · rw [j4.2.2.2.2 x x (by omega)]; exact u6 x hx
    · rw [j4.2.2.2.2 x y (by omega)]; exact u7 x y hx hy hxy hh
  have r1' : R1 a0 (a0 + 43) (gPI g' (a0 + 1) 1 (nI (n2 + 1))) (alS s C n2 (nI a) (nI b) (nI l)) (n2 + 1) := by
    obtain ⟨q1, q2, q3, q4, q5⟩ := r1
    have e43 : gI (gPI g' (a0 + 1) 1 (nI (n2 + 1))) (a0 + 43) = gI g (a0 + 43) := (oF _ (by omega) (by omega)).trans (o10 _ (by omega))
    refine ⟨?_, ?_, fun k hk => ?_, fun i hi => ?_, fun x y hx hy => ?_⟩
    · rw [al_0 (by omega), gI_PI, if_pos rfl, if_neg (by omega), j2.2.2.2.2 _ (by omega), o10 _ (by omega)]; exact q1
    · rw [al_02, gI_PI, if_pos rfl, if_pos rfl]
    · rw [oF _ (by omega) (by omega), o10 _ (by omega), al_T (by omega) (by omega) (by omega)]; exact q3 k hk
    · rw [e43, I.2.2.1, oF (a0 + 4 + i) (by omega) (by omega)]
      refine ⟨fun k hk => ?_, fun k => absurd k (nI_m1 (by omega)), fun _ => ?_⟩
      · by_cases e : i = n2
        · subst e
          rw [hg10]
          match k, hk with
          | 0, _ => rw [n0']; simp [gI_PI]
          | 1, _ => rw [n1']; simp [gI_PI]
          | 2, _ => rw [n2']; simp [gI_PI]
        · rw [o10 _ (by omega), al_o e]; exact (q4 i (by omega)).1 k hk
      · by_cases e : i = n2
        · subst e
          rw [hg10, n3', n4']
          simp [gI_PI]
        · rw [o10 _ (by omega), al_o e, al_o e]
          exact (q4 i (by omega)).2.2 (by rw [I.2.2.1]; exact nI_m1 (by omega))
    · rw [al_6, gI_PI, if_neg (by omega)]
      exact j3 x y hx hy
  refine ⟨C, laU la0 n2 a b l, _, ?_, fF, I.st fF wt' (Nat.le_refl _) (al_T (by omega) (by omega) (by omega)) (al_T (by omega) (by omega) (by omega)) (al_T (by omega) (by omega) (by omega)) (al_0 (by omega)) (al_0 (by omega)) (al_0 (by omega)) (fun b hb => absurd hb (by omega)) (fun b hb => absurd hb (by omega)) r1' ws', hval, hl, hne, h2, hC⟩
  unfold f5_join f2_build
  rw [if_pos t1, t3, ob_some, t6, if_pos rfl, s9, if_pos (ixOk (by omega) (by omega)), cn2, (t8 n2 (by omega)).1, ob_some, if_pos (t8 n2 (by omega)).2, if_pos (t8 n2 (by omega)).2, ob_some, ← hg10]
  exact j1
end
section
/-! PURE: addLane as a call -/
theorem gS_PW' {g : g_H} {a : Nat} {r : Nat → Int32} : gS (gPW g a r) = gS g := rfl
/-- the model's lane written; the ways not yet -/
theorem m_lane0 {M n1 n2 n3 n4 : Nat} {g : g_H} {s : Sg} {C : Nat → Nat → Nat} {a b l : Int32} {src : Nat → Int32} (m : MX M g s n1 n2 n3 n4) (h0 : src 0 = a) (h1 : src 1 = b) (h2 : src 2 = l) (h3 : src 3 = 0) (h4 : src 4 = 24) :
    MX M (gPI (gPW g (M + 2) (va_cpy src (gI g (M + 2)) 0 (5 * n2) 5)) M 3 (nI (n2 + 1))) (alS s C n2 a b l) 0 (n2 + 1) n3 n4 := by
  obtain ⟨L, ⟨y1, y2, y3, y4⟩, ⟨z1, z2, z3, z4⟩, ⟨p1, p2, p3⟩⟩ := m
  obtain ⟨k0, k1, k2, k3, k4⟩ := al_n (s := s) (C := C) (m := n2) (a := a) (b := b) (l := l)
  have e : ∀ k, k ≠ 0 → k ≠ 2 → gI (gPI (gPW g (M + 2) (va_cpy src (gI g (M + 2)) 0 (5 * n2) 5)) M 3 (nI (n2 + 1))) (M + k) = gI g (M + k) := fun k hk hk2 => (show _ = gI (gPW g (M + 2) _) (M + k) from gU_o (by omega)).trans (gW_o (by omega))
  have eM : ∀ k, k ≠ 3 → gI (gPI (gPW g (M + 2) (va_cpy src (gI g (M + 2)) 0 (5 * n2) 5)) M 3 (nI (n2 + 1))) M k = gI g M k := fun k hk => by
    rw [gI_PI, if_pos rfl, if_neg hk, gI_PW, if_neg (by omega)]
  refine ⟨L, ⟨?_, ?_, ?_, ?_⟩, ⟨?_, fun i hi k hk => ?_, fun x y hx hy => by omega, ?_⟩, ?_⟩
  · rw [eM 1 (by omega), al_0 (by omega)]; exact y1
  · rw [gI_PI, if_pos rfl, if_pos rfl, al_02]
  · rw [eM 6 (by omega), al_0 (by omega)]; exact y3
  · rw [eM 9 (by omega), al_0 (by omega)]; exact y4
  · rw [e 1 (by omega) (by omega), al_T (by omega) (by omega) (by omega)]; exact z1
  · rw [gI_PI, if_neg (by omega), gI_PW, if_pos rfl]
    unfold va_cpy
    by_cases c : i = n2
    · subst c
      rw [if_pos (by omega), show 0 + (5 * i + k - 5 * i) = k by omega]
      match k, hk with
      | 0, _ => rw [h0, k0]
      | 1, _ => rw [h1, k1]
      | 2, _ => rw [h2, k2]
      | 3, _ => rw [h3, k3]
      | 4, _ => rw [h4, k4]
    · rw [if_neg (by omega), al_o c]
      exact z2 i (by omega) k hk
  · rw [e 5 (by omega) (by omega), al_T (by omega) (by omega) (by omega), al_T (by omega) (by omega) (by omega)]; exact z4
  · unfold M2
    rw [e 4 (by omega) (by omega), e 6 (by omega) (by omega), e 7 (by omega) (by omega), al_T (by omega) (by omega) (by omega), al_T (by omega) (by omega) (by omega), al_0 (by omega)]
    exact ⟨p1, p2, p3⟩
theorem MX.rk {M n1 n2 n3 n4 : Nat} {g g' : g_H} {s : Sg} {C la : Nat → Nat → Nat} (m : MX M g s 0 n2 n3 n4) (f : Fk M g g') {D : Nat → Nat → Nat} (wm : WM M g' n1 D) (v : Val la n2 n1 9999 D) (c : Val la n2 n1 1000 C) (hl : Hl la n2 n1) (h14 : n1 ≤ 14)
    (h6 : ∀ x y, x < 14 → y < 14 → s 6 x y = nI (C x y) ∧ C x y ≤ 1000) : MX M g' s n1 n2 n3 n4 := by
  obtain ⟨l, z0, ⟨z1, z2, z3, z4⟩, z5⟩ := m
  obtain ⟨f1, f2, f3, f4, f5⟩ := f
  refine ⟨by unfold ML; rw [f1, f2]; exact l, ?_, ⟨?_, ?_, fun x y hx hy => ?_, ?_⟩, ?_⟩
  · unfold M0; rw [f5 _ (by omega)]; exact z0
  · rw [f5 _ (by omega)]; exact z1
  · rw [f5 _ (by omega)]; exact z2
  · obtain ⟨q1, q2⟩ := h6 x y (by omega) (by omega)
    rw [wm x y hx hy, q1, c.uni v hl h14 hx hy, fi_nI q2]
  · rw [f5 _ (by omega)]; exact z4
  · unfold M2; rw [f5 _ (by omega), f5 _ (by omega), f5 _ (by omega)]; exact z5
abbrev c3 : Nat → Nat := fun c => c
theorem isIn_1 {g : g_H} {n : Nat} {x hi : Int32} (hn : n < 2 ^ 31) (hh : hi = nI n) : f7_isIn g x 1 hi = some (if ¬ x < 1 ∧ x ≤ nI n then 1 else 0, g) := by
  subst hh
  unfold f7_isIn
  by_cases c : x < 1
  · rw [if_pos c, if_neg fun k => k.1 c]
  · rw [if_neg c]
    by_cases d : nI n < x
    · rw [if_pos d, if_neg fun k => Int32.not_lt.mpr k.2 d]
    · rw [if_neg d, if_pos ⟨c, Int32.not_lt.mp d⟩]
theorem o_addLane {a0 n1 n2 n3 n4 q : Nat} {g : g_H} {s : Sg} (I : ClI a0 g s n1 n2 n3 n4 q) (x y z : Int32) : OpR a0 g s n1 n2 n3 n4 q (f6_addLane g a0 x y z) (fun h => f7_addLane h (a0 + 153) x y z) c3 := by
  obtain ⟨s1, s2, s3, s4, s5, s6, s7, s8, s9, s10, s11, s12, s13, s14, s15⟩ := I.sh
  have e1 := I.1.1.1.1
  have e2 := I.1.1.1.2.2.1
  have e3 := I.1.1.2.1
  have no : (¬ inR (nI n1) x ∨ ¬ inR (nI n1) y) → OpR a0 g s n1 n2 n3 n4 q (f6_addLane g a0 x y z) (fun h => f7_addLane h (a0 + 153) x y z) c3 := by
    intro hb
    refine OpR.thr I 1 (by omega) (by omega) ?_ fun h m => ?_
    · unfold f6_addLane
      rw [if_pos s1, p_checkHouse I, gB2_some]
      by_cases hx : inR (nI n1) x
      · rw [if_pos hx, if_pos n0e, if_pos s1, p_checkHouse I, gB2_some, if_neg (hb.resolve_left fun k => k hx), if_neg n1e]
      · rw [if_neg hx, if_neg n1e]
    · have m' := m.thr (v := 0)
      unfold f7_addLane f7_addLane_21
      rw [if_pos m.1.1, m_isHouse m' e1 s12, gB2_some]
      by_cases hx : inR (nI n1) x
      · rw [if_pos hx, if_neg n10, if_pos m'.1.1, m_isHouse m' e1 s12, gB2_some, if_neg (hb.resolve_left fun k => k hx), if_pos rfl, if_pos m'.1.1, m_fail m'.1.1, gB2_some]
        rfl
      · rw [if_neg hx, if_pos rfl, if_pos m'.1.1, m_fail m'.1.1, gB2_some]
        rfl
  by_cases hx : inR (nI n1) x
  · by_cases hy : inR (nI n1) y
    · have bad : (x = y ∨ ¬ (¬ z < 1 ∧ z ≤ 6)) → OpR a0 g s n1 n2 n3 n4 q (f6_addLane g a0 x y z) (fun h => f7_addLane h (a0 + 153) x y z) c3 := by
        intro hb
        refine OpR.thr I 2 (by omega) (by omega) ?_ fun h m => ?_
        · unfold f6_addLane f6_addLane_26
          rw [if_pos s1, p_checkHouse I, gB2_some, if_pos hx, if_pos n0e, if_pos s1, p_checkHouse I, gB2_some, if_pos hy, if_pos n0e]
          by_cases c : x = y
          · rw [if_pos c]
          · rw [if_neg c]
            by_cases d : z < 1
            · rw [if_pos d]
            · rw [if_neg d, if_neg fun k => hb.resolve_left c ⟨d, k⟩]
        · have m' := m.thr (v := 0)
          unfold f7_addLane f7_addLane_42
          rw [if_pos m.1.1, m_isHouse m' e1 s12, gB2_some, if_pos hx, if_neg n10, if_pos m'.1.1, m_isHouse m' e1 s12, gB2_some, if_pos hy, if_neg n10]
          by_cases c : x = y
          · rw [if_pos c, if_pos m'.1.1, m_fail m'.1.1, gB2_some]
            rfl
          · have hz : ¬ (¬ z < 1 ∧ z ≤ nI 6) := hb.resolve_left c
            rw [if_neg c, isIn_1 (n := 6) (hi := (6 : Int32)) (by omega) rfl, gB2_some, if_neg hz, if_pos rfl, if_pos m'.1.1, m_fail m'.1.1, gB2_some]
            rfl
      by_cases c : x = y
      · exact bad (Or.inl c)
      · by_cases d : ¬ z < 1 ∧ z ≤ 6
        · have d6 : ¬ z < 1 ∧ z ≤ nI 6 := d
          have h24 : ((24 : Int32) ≤ nI n2) ↔ n2 = 24 := ⟨fun k => by have := (nI_leI (a := 24) (by omega) (by omega)).mp k; omega, fun k => by rw [k]; exact Int32.le_refl _⟩
          have q24 : (nI n2 = (24 : Int32)) ↔ n2 = 24 := nI_eq (b := 24) (by omega) (by omega)
          have q0 : (nI n3 ≤ 0) ↔ n3 = 0 := ⟨fun k => by have := (nI_leI (b := 0) (by omega) (by omega)).mp k; omega, fun k => by rw [k]; exact Int32.le_refl _⟩
          have full : (n2 = 24 ∨ n3 ≠ 0) → OpR a0 g s n1 n2 n3 n4 q (f6_addLane g a0 x y z) (fun h => f7_addLane h (a0 + 153) x y z) c3 := by
            intro hb
            refine OpR.thr I 3 (by omega) (by omega) ?_ fun h m => ?_
            · unfold f6_addLane f6_addLane_58
              rw [if_pos s1, p_checkHouse I, gB2_some, if_pos hx, if_pos n0e, if_pos s1, p_checkHouse I, gB2_some, if_pos hy, if_pos n0e, if_neg c, if_neg d.1, if_pos d.2, if_pos s1, s2, ob_some, if_pos s6, s9]
              by_cases k : n2 = 24
              · rw [if_pos (h24.mpr k)]
              · rw [if_neg fun w => k (h24.mp w), s3, ob_some, if_pos s7, s10, if_neg fun w => hb.resolve_left k (q0.mp w)]
            · have m' := m.thr (v := 0)
              unfold f7_addLane f7_addLane_64
              rw [if_pos m.1.1, m_isHouse m' e1 s12, gB2_some, if_pos hx, if_neg n10, if_pos m'.1.1, m_isHouse m' e1 s12, gB2_some, if_pos hy, if_neg n10, if_neg c, isIn_1 (n := 6) (hi := (6 : Int32)) (by omega) rfl, gB2_some, if_pos d6, if_neg n10, if_pos m'.1.1, m'.2.1.2.1, e2]
              by_cases k : n2 = 24
              · rw [if_pos (q24.mpr k), if_pos m'.1.1, m_fail m'.1.1, gB2_some]
                rfl
              · rw [if_neg fun w => k (q24.mp w), m'.2.1.2.2.1, e3, if_neg fun w => hb.resolve_left k (q0.mp w), if_pos m'.1.1, m_fail m'.1.1, gB2_some]
                rfl
          by_cases k : n2 = 24
          · exact full (Or.inl k)
          · by_cases k3 : n3 = 0
            · obtain ⟨a, ha, rfl⟩ := inR_nat (by omega) hx
              obtain ⟨b, hb, rfl⟩ := inR_nat (by omega) hy
              obtain ⟨l, rfl, hl1, hl6⟩ := rng d.1 d6.2 (by omega)
              have hab : a ≠ b := fun w => c (by rw [w])
              obtain ⟨C, la, g', j1, j2, j3, j4, j5, j6, j7, j8⟩ := p_join I k3 (by omega) ha hb hab hl1 hl6
              refine ⟨0, nI n2, g', _, n1, n2 + 1, n3, n4, q, ?_, by omega, j2.fc, j3, by omega, fun h m hZ => ?_⟩
              · unfold f6_addLane
                rw [if_pos s1, p_checkHouse I, gB2_some, if_pos hx, if_pos n0e, if_pos s1, p_checkHouse I, gB2_some, if_pos hy, if_pos n0e, if_neg c, if_neg d.1, if_pos d.2, if_pos s1, s2, ob_some, if_pos s6, s9, if_neg fun w => k (h24.mp w), s3, ob_some, if_pos s7, s10, if_pos (q0.mpr k3), ob_some, if_pos s6, j1, gB2_some]
              · have m' := m.thr (v := 0)
                obtain ⟨zz, hzz⟩ : ∃ zz, zz = gZ (gPI h (a0 + 153) 0 0) := ⟨_, rfl⟩
                have hzM : a0 + 153 + 8 < zz := by rw [hzz]; show _ < gZ h; omega
                obtain ⟨H, hH⟩ : ∃ H, H = gN (gPI h (a0 + 153) 0 0) 11 5 (fun _ => 0) := ⟨_, rfl⟩
                have S : gS H zz = (11, 5) := by rw [hH, hzz]; exact gS_gN rfl
                have mH : MX (a0 + 153) H s n1 n2 n3 n4 := by rw [hH]; exact m'.gN (by rw [← hzz]; exact hzM)
                obtain ⟨H5, hH5⟩ : ∃ H5, H5 = gPI (gPI (gPI (gPI (gPI H zz 0 (nI a)) zz 1 (nI b)) zz 2 (nI l)) zz 3 0) zz 4 24 := ⟨_, rfl⟩
                have S5 : gS H5 = gS H := by rw [hH5]; rfl
                have m5 : MX (a0 + 153) H5 s n1 n2 n3 n4 := by rw [hH5]; exact ((((mH.off hzM).off hzM).off hzM).off hzM).off hzM
                have ml := m_lane0 (C := C) (a := nI a) (b := nI b) (l := nI l) (src := gI H5 zz) m5 (by rw [hH5]; simp [gI_PI]) (by rw [hH5]; simp [gI_PI]) (by rw [hH5]; simp [gI_PI]) (by rw [hH5]; simp [gI_PI]) (by rw [hH5]; simp [gI_PI])
                have g0 : gI H5 (a0 + 153) 0 = 0 := by
                  have e : ∀ (g : g_H) (k : Nat) (v : Int32), gI (gPI g zz k v) (a0 + 153) 0 = gI g (a0 + 153) 0 := fun g k v => by rw [gI_PI, if_neg (by omega)]
                  rw [hH5, e, e, e, e, e, hH, show gI (gN (gPI h (a0 + 153) 0 0) 11 5 (fun _ => 0)) (a0 + 153) = gI (gPI h (a0 + 153) 0 0) (a0 + 153) from gW_o (by rw [← hzz]; omega)]
                  simp [gI_PI]
                have rk : RkI (a0 + 153) (gPI (gPW H5 (a0 + 153 + 2) (va_cpy (gI H5 zz) (gI H5 (a0 + 153 + 2)) 0 (5 * n2) 5)) (a0 + 153) 3 (nI (n2 + 1))) n1 (n2 + 1) la :=
                  ⟨ml.1, ml.2.1.1.trans ((al_0 (by omega)).trans e1), ml.2.1.2.1.trans al_02, s12, by omega, fun i hi k hk => (ml.2.2.1.2.1 i hi k (by omega)).trans (j7 i hi k hk)⟩
                obtain ⟨g2, D, r1, r2, r3, r4⟩ := r_reckon j5 j6 rk
                have mf := ml.rk r2 r3 r4 j4 j5 s12 (fun x y hx hy => ⟨by rw [al_6], j8 x y hx hy⟩)
                have f1 : Fmm (a0 + 153) h H5 := by
                  rw [hH5]
                  have f0 : Fmm (a0 + 153) h H := by rw [hH]; exact (Fmm.put (a := a0 + 153) ⟨by omega, by omega⟩).tr Fmm.gN
                  have fz : gZ h ≤ zz := by rw [hzz]; exact Nat.le_refl _
                  exact ((((f0.up fz).up fz).up fz).up fz).up fz
                have f2 : Fmm (a0 + 153) H5 (gPW H5 (a0 + 153 + 2) (va_cpy (gI H5 zz) (gI H5 (a0 + 153 + 2)) 0 (5 * n2) 5)) := ⟨Nat.le_refl _, fun a _ => ⟨rfl, rfl, rfl, fun ha => gW_o (by omega)⟩⟩
                have c0 : ¬ (0 : Int32) < 0 ∧ ¬ (5 : Int32) * nI n2 < 0 ∧ ¬ (5 : Int32) < 0 ∧ 0 + Int32.toNatClampNeg (5 : Int32) ≤ 5 ∧ Int32.toNatClampNeg ((5 : Int32) * nI n2) + Int32.toNatClampNeg (5 : Int32) ≤ 120 := by
                  rw [show (5 : Int32) * nI n2 = nI (5 * n2) from pk_mul 5 n2, cl_nI (show 5 * n2 < 2 ^ 31 by omega)]
                  refine ⟨by decide, nI_pos (by omega), by decide, by decide, ?_⟩
                  rw [show Int32.toNatClampNeg (5 : Int32) = 5 from rfl]
                  omega
                refine ⟨nI n2, g2, ?_, ((f1.tr f2).tr (Fmm.put (a := a0 + 153) ⟨by omega, by omega⟩)).tr r2.mm, mf, ?_, fun _ => rfl⟩
                · show f7_addLane h (a0 + 153) (nI a) (nI b) (nI l) = _
                  unfold f7_addLane gNw gLt
                  rw [if_pos m.1.1, m_isHouse m' e1 s12, gB2_some, if_pos hx, if_neg n10, if_pos m'.1.1, m_isHouse m' e1 s12, gB2_some, if_pos hy, if_neg n10, if_neg c, isIn_1 (n := 6) (hi := (6 : Int32)) (by omega) rfl, gB2_some, if_pos d6, if_neg n10, if_pos m'.1.1, m'.2.1.2.1, e2, if_neg fun w => k (q24.mp w), m'.2.1.2.2.1, e3, if_pos (q0.mpr k3)]
                  rw [← hzz, ← hH]
                  dsimp only
                  rw [S, if_pos (by decide), if_pos (by decide), if_pos (by decide), if_pos (by decide), if_pos (by decide)]
                  rw [show Int32.toNatClampNeg (0 : Int32) = 0 from rfl, show Int32.toNatClampNeg (1 : Int32) = 1 from rfl, show Int32.toNatClampNeg (2 : Int32) = 2 from rfl, show Int32.toNatClampNeg (3 : Int32) = 3 from rfl, show Int32.toNatClampNeg (4 : Int32) = 4 from rfl, ← hH5]
                  rw [if_pos m5.1.1, m5.1.2.1.2.1, ob_some, m5.1.2.2.2.1, if_pos rfl, m5.2.1.2.1, e2, S5, S, if_pos c0]
                  rw [show (5 : Int32) * nI n2 = nI (5 * n2) from pk_mul 5 n2, cl_nI (show 5 * n2 < 2 ^ 31 by omega), show Int32.toNatClampNeg (5 : Int32) = 5 from rfl]
                  rw [show gI (gPW H5 (a0 + 153 + 2) (va_cpy (gI H5 zz) (gI H5 (a0 + 153 + 2)) 0 (5 * n2) 5)) (a0 + 153) = gI H5 (a0 + 153) from gW_o (by omega), m5.2.1.2.1, e2, nI_1, r1, ob_some, if_pos mf.1.1, mf.2.1.2.1, al_02, nI_pred]
                · rw [r2.2.2.2.2 _ (by omega), gI_PI, if_pos rfl, if_neg (by omega), gI_PW, if_neg (by omega), g0]
                  rfl
            · exact full (Or.inr k3)
        · exact bad (Or.inr d)
    · exact no (Or.inr hy)
  · exact no (Or.inl hx)
end
section
/-! PURE: write -/
theorem cnt_slF {s : Sg} {k : Nat} {v x y : Int32} (n : Nat) : slF (su s 0 0 k v) x y n = slF s x y n := by
  induction n with
  | zero => rfl
  | succ n ih =>
    show (if _ then _ else _) = (if _ then _ else _)
    rw [ih, su_T (by omega)]
theorem cnt_sl {s : Sg} {k : Nat} {v x y : Int32} (h : k ≠ 2) : sl (su s 0 0 k v) x y = sl s x y := by
  unfold sl
  rw [cnt_slF, su_k (Ne.symm h)]
theorem cnt_tg {s : Sg} {k : Nat} {v : Int32} (h : k ≠ 1) (b : Nat) (to : Int32) : tg (su s 0 0 k v) b to = tg s b to := by
  have hwy : ∀ x y, wy (su s 0 0 k v) x y = wy s x y := fun x y => by unfold wy; rw [su_k (Ne.symm h), su_T (by omega)]
  have hF : ∀ n, tgF (su s 0 0 k v) b to n = tgF s b to n := fun n => by
    induction n with
    | zero => rfl
    | succ n ih =>
      show (if _ then _ else _) = (if _ then _ else _)
      rw [ih, hwy, su_T (by omega)]
  unfold tg
  rw [hF, su_T (by omega)]
theorem WT.cnt {s : Sg} {n1 n2 k : Nat} {v : Int32} (w : WT s n1 n2) (h1 : k ≠ 1) (h2 : k ≠ 2) : WT (su s 0 0 k v) n1 n2 := by
  obtain ⟨w1, w2, w3, w4, w5, w6, w7⟩ := w
  exact ⟨(su_k (Ne.symm h1)).trans w1, w2, (su_k (Ne.symm h2)).trans w3, w4, by rw [su_T (by omega)]; exact w5, by rw [su_T (by omega)]; exact w6, by rw [su_T (by omega)]; exact w7⟩
theorem WB.cnt {s : Sg} {n1 b k : Nat} {v : Int32} (w : WB s n1 b) (h2 : k ≠ 2) : WB (su s 0 0 k v) n1 b := by
  obtain ⟨z, p, l, st, ho, e1, e2, e3, e4, e5, e6, e7, e8, e9, e10, e11, e12, e13, e14, e15⟩ := w
  refine ⟨z, p, l, st, ho, by rw [su_T (by omega)]; exact e1, e2, e3, by rw [su_T (by omega)]; exact e4, e5, by rw [su_T (by omega)]; exact e6, e7, by rw [su_T (by omega)]; exact e8, e9, by rw [su_T (by omega)]; exact e10, e11, by rw [su_T (by omega)]; exact e12, by rw [su_T (by omega)]; exact e13, by rw [su_T (by omega)]; exact e14, fun j hj => ?_⟩
  rw [su_T (by omega), cnt_sl h2]
  exact e15 j hj
theorem RS.cnt {a0 F n2 n3 k : Nat} {g : g_H} {s : Sg} {v : Int32} (r : RS a0 F g s n2 n3) (h1 : k ≠ 1) (h2 : k ≠ 2) : RS a0 F g (su s 0 0 k v) n2 n3 := by
  obtain ⟨r0, r1, r2, r3, ⟨q1, q2, q3, q4, q5⟩, r5⟩ := r
  refine ⟨r0, r1, r2, r3, ⟨?_, ?_, ?_, ?_, ?_⟩, fun b hb => ?_⟩
  · rw [su_k (Ne.symm h1)]; exact q1
  · rw [su_k (Ne.symm h2)]; exact q2
  · rw [su_T (by omega)]; exact q3
  · rw [su_T (by omega)]; exact q4
  · rw [su_T (by omega)]; exact q5
  · obtain ⟨x1, x2, x3, x4⟩ := r5 b hb
    rw [su_T (show 3 ≠ 0 by omega), su_T (show 4 ≠ 0 by omega)]
    refine ⟨x1, x2, fun j hj => ?_, fun x hx => ?_⟩
    · rw [cnt_sl h2]; exact x3 j hj
    · rw [cnt_tg h1]; exact x4 x hx
def ltS (s : Sg) (i : Nat) (a b : Int32) : Sg := su (su (su (su (su s 5 i 0 b) 5 i 1 a) 5 i 2 (-1)) 5 i 3 (-1)) 5 i 4 0
theorem lt_same {s : Sg} {i : Nat} {a b : Int32} : Same s (ltS s i a b) := (((Same.l.tr Same.l).tr Same.l).tr Same.l).tr Same.l
theorem lt_o {s : Sg} {i j k : Nat} {a b : Int32} (h : j ≠ i) : ltS s i a b 5 j k = s 5 j k := by
  unfold ltS
  rw [su_i h, su_i h, su_i h, su_i h, su_i h]
theorem lt_n {s : Sg} {i : Nat} {a b : Int32} : ltS s i a b 5 i 0 = b ∧ ltS s i a b 5 i 1 = a ∧ ltS s i a b 5 i 2 = -1 ∧ ltS s i a b 5 i 3 = -1 ∧ ltS s i a b 5 i 4 = 0 := by
  unfold ltS
  simp [su]
theorem lt_T {s : Sg} {i k : Nat} {a b : Int32} (h : k ≠ 5) : ltS s i a b k = s k := ((((su_T h).trans (su_T h)).trans (su_T h)).trans (su_T h)).trans (su_T h)
def wrS (s : Sg) (i : Nat) (a b : Int32) : Sg := ltS (su s 0 0 4 (nI (i + 1))) i a b
theorem o_write {a0 n1 n2 n3 n4 q : Nat} {g : g_H} {s : Sg} (I : ClI a0 g s n1 n2 n3 n4 q) (x y : Int32) : OpR a0 g s n1 n2 n3 n4 q (f6_write g a0 x y) (fun h => f7_write h (a0 + 153) x y) c3 := by
  obtain ⟨s1, s2, s3, s4, s5, s6, s7, s8, s9, s10, s11, s12, s13, s14, s15⟩ := I.sh
  have e1 := I.1.1.1.1
  have e4 := I.1.1.2.2.2.1
  have no : (¬ inR (nI n1) x ∨ ¬ inR (nI n1) y) → OpR a0 g s n1 n2 n3 n4 q (f6_write g a0 x y) (fun h => f7_write h (a0 + 153) x y) c3 := by
    intro hb
    refine OpR.thr I 1 (by omega) (by omega) ?_ fun h m => ?_
    · unfold f6_write
      rw [if_pos s1, p_checkHouse I, gB2_some]
      by_cases hx : inR (nI n1) x
      · rw [if_pos hx, if_pos n0e, if_pos s1, p_checkHouse I, gB2_some, if_neg (hb.resolve_left fun k => k hx), if_neg n1e]
      · rw [if_neg hx, if_neg n1e]
    · have m' := m.thr (v := 0)
      unfold f7_write f7_write_21
      rw [if_pos m.1.1, m_isHouse m' e1 s12, gB2_some]
      by_cases hx : inR (nI n1) x
      · rw [if_pos hx, if_neg n10, if_pos m'.1.1, m_isHouse m' e1 s12, gB2_some, if_neg (hb.resolve_left fun k => k hx), if_pos rfl, if_pos m'.1.1, m_fail m'.1.1, gB2_some]
        rfl
      · rw [if_neg hx, if_pos rfl, if_pos m'.1.1, m_fail m'.1.1, gB2_some]
        rfl
  by_cases hx : inR (nI n1) x
  · by_cases hy : inR (nI n1) y
    · by_cases c : x = y
      · refine OpR.thr I 2 (by omega) (by omega) ?_ fun h m => ?_
        · unfold f6_write
          rw [if_pos s1, p_checkHouse I, gB2_some, if_pos hx, if_pos n0e, if_pos s1, p_checkHouse I, gB2_some, if_pos hy, if_pos n0e, if_pos c]
        · have m' := m.thr (v := 0)
          unfold f7_write
          rw [if_pos m.1.1, m_isHouse m' e1 s12, gB2_some, if_pos hx, if_neg n10, if_pos m'.1.1, m_isHouse m' e1 s12, gB2_some, if_pos hy, if_neg n10, if_pos c, if_pos m'.1.1, m_fail m'.1.1, gB2_some]
          rfl
      · have h20 : (nI n4 < (20 : Int32)) ↔ n4 < 20 := nI_ltI (b := 20) (by omega) (by omega)
        have q20 : (nI n4 = (20 : Int32)) ↔ n4 = 20 := nI_eq (b := 20) (by omega) (by omega)
        by_cases k : n4 < 20
        · obtain ⟨w1, w2, w3, w4, w5, w6, w7, w8, w9⟩ := I.1.1
          have c4 : Int32.toNatClampNeg (nI n4) = n4 := cl_nI (by omega)
          have b7 : gR g (a0 + 43) 2 = some (a0 + 43 + 32) := I.1.2.1.2.2.1.2.2.2.1
          have b9 : gS g (a0 + 43 + 32) = (17, 20) := I.1.2.1.2.2.1.2.2.2.2.2.1
          obtain ⟨b10, b11⟩ := I.1.2.1.2.2.1.2.2.2.2.2.2.2 n4 k
          obtain ⟨k0, k1, k2, k3, k4⟩ := lt_n (s := su s 0 0 4 (nI (n4 + 1))) (i := n4) (a := x) (b := y)
          have hS := lt_same (s := su s 0 0 4 (nI (n4 + 1))) (i := n4) (a := x) (b := y)
          have oS : ∀ j k, j ≠ n4 → wrS s n4 x y 5 j k = s 5 j k := fun j k hj => (lt_o hj).trans (su_t (by omega))
          have t04 : wrS s n4 x y 0 0 4 = nI (n4 + 1) := (hS.1 4 (by omega)).trans su_s
          have t0 : ∀ k, k ≠ 0 → k ≠ 4 → wrS s n4 x y 0 0 k = s 0 0 k := fun k h1 h2 => (hS.1 k h1).trans (su_k h2)
          have t00 : wrS s n4 x y 0 0 0 = s 0 0 0 := by
            show ltS _ n4 x y 0 0 0 = _
            rw [lt_T (by omega), su_k (by omega)]
          have tT : ∀ k, k ≠ 0 → k ≠ 5 → wrS s n4 x y k = s k := fun k h1 h2 => (lt_T h2).trans (su_T h1)
          have hcar : ∀ b, b < 6 → car (wrS s n4 x y) b = car s b := fun b hb => by
            rw [car_def t04 (by omega), car_def w4 w5]
            show carF _ b n4 + _ = _
            rw [if_neg (by rw [show wrS s n4 x y 5 n4 2 = -1 from k2]; exact fun q => nI_m1 (by omega) q.symm), Int32.add_zero]
            exact carF_keep fun i hi => oS i 2 (by omega)
          have harr : arr (wrS s n4 x y) = arr s := by
            rw [arr_def t04 (by omega), arr_def w4 w5]
            show arrF _ n4 + _ = _
            rw [if_pos (show wrS s n4 x y 5 n4 3 = -1 from k3), Int32.add_zero]
            exact arrF_keep fun i hi => oS i 3 (by omega)
          have wf : WF (wrS s n4 x y) n1 n2 n3 (n4 + 1) q := by
            refine ⟨(w1.cnt (by omega) (by omega)).same hS, (t0 3 (by omega) (by omega)).trans w2, w3, t04, by omega, t00.trans w6, w7, fun b hb => ⟨?_, by rw [hcar b (by omega)]; exact (w8 b hb).2⟩, fun i hi => ?_⟩
            · have wb := (w8 b hb).1.cnt (k := 4) (v := nI (n4 + 1)) (by omega)
              have h3 : wrS s n4 x y 3 = su s 0 0 4 (nI (n4 + 1)) 3 := lt_T (by omega)
              obtain ⟨z, p, l, st, ho, e1, e2, e3, e4, e5, e6, e7, e8, e9, e10, e11, e12, e13, e14, e15⟩ := wb
              exact WB.keep hS ⟨z, p, l, st, ho, e1, e2, e3, e4, e5, e6, e7, e8, e9, e10, e11, e12, e13, e14, e15⟩ (by rw [h3]) (by rw [h3]) ⟨st, e9, by rw [h3]; exact e8⟩ ⟨ho, e11, by rw [h3]; exact e10⟩ (by rw [h3]; exact e12) (by rw [h3]; exact e13)
            · by_cases e : i = n4
              · subst e
                unfold WL wrS
                rw [k0, k1, k2, k3]
                exact ⟨hy, Or.inr hx, Or.inl rfl, fun q => absurd rfl q, fun q => absurd rfl q, Or.inl rfl⟩
              · unfold WL
                rw [oS i 0 e, oS i 1 e, oS i 2 e, oS i 3 e]
                exact w9 i (by omega)
          obtain ⟨g5, hg5⟩ : ∃ g5, g5 = gPI (gPI (gPI (gPI (gPI g (a0 + 43 + 33 + n4) 0 y) (a0 + 43 + 33 + n4) 1 x) (a0 + 43 + 33 + n4) 2 (-1)) (a0 + 43 + 33 + n4) 3 (-1)) (a0 + 43 + 33 + n4) 4 0 := ⟨_, rfl⟩
          have o5 : ∀ a, a ≠ a0 + 43 + 33 + n4 → gI g5 a = gI g a := fun a ha => by
            rw [hg5]
            exact ((((gU_o ha).trans (gU_o ha)).trans (gU_o ha)).trans (gU_o ha)).trans (gU_o ha)
          have oF : ∀ a, a ≠ a0 + 43 + 33 + n4 → a ≠ a0 + 43 → gI (gPI g5 (a0 + 43) 4 (nI (n4 + 1))) a = gI g a := fun a h1 h2 => (show gI (gPI g5 (a0 + 43) 4 (nI (n4 + 1))) a = gI g5 a from gU_o h2).trans (o5 a h1)
          have gS5 : gS g5 = gS g := by rw [hg5]; rfl
          have gR5 : gR g5 = gR g := by rw [hg5]; rfl
          have gJ5 : gJ g5 = gJ g := by rw [hg5]; rfl
          have gZ5 : gZ g5 = gZ g := by rw [hg5]; rfl
          obtain ⟨d1, d2, d3, d4, d5⟩ := I.1.2.2
          have ci : CI a0 (a0 + 43) (gPI g5 (a0 + 43) 4 (nI (n4 + 1))) (wrS s n4 x y) n1 n2 n3 (n4 + 1) q := by
            have rs : RS a0 (a0 + 43) (gPI g5 (a0 + 43) 4 (nI (n4 + 1))) (su s 0 0 4 (nI (n4 + 1))) n2 n3 := by
              obtain ⟨r0, r1, r2, r3, ⟨q1, q2, q3, q4, q5⟩, r5⟩ := I.1.2.1.cnt (k := 4) (v := nI (n4 + 1)) (by omega) (by omega)
              refine ⟨r0, ?_, ?_, fun b hb => ?_, ⟨?_, ?_, fun h hh => ?_, fun i hi => ?_, fun u v hu hv => ?_⟩, fun b hb => ?_⟩
              · unfold TL; rw [gS_PI, gR_PI, gS5, gR5]; exact r1
              · unfold FL; rw [gS_PI, gR_PI, gS5, gR5]; exact r2
              · unfold RtL; rw [gS_PI, gR_PI, gS5, gR5]; exact r3 b hb
              · rw [oF _ (by omega) (by omega)]; exact q1
              · rw [oF _ (by omega) (by omega)]; exact q2
              · rw [oF _ (by omega) (by omega)]; exact q3 h hh
              · rw [oF (a0 + 4 + i) (by omega) (by omega), show gI (gPI g5 (a0 + 43) 4 (nI (n4 + 1))) (a0 + 43) 7 = gI g (a0 + 43) 7 by rw [gI_PI, if_pos rfl, if_neg (by omega), o5 _ (by omega)]]
                exact q4 i hi
              · rw [oF _ (by omega) (by omega)]; exact q5 u v hu hv
              · rw [oF (a0 + 46 + 5 * b) (by omega) (by omega), oF (a0 + 47 + 5 * b) (by omega) (by omega), oF (a0 + 48 + 5 * b) (by omega) (by omega), oF (a0 + 49 + 5 * b) (by omega) (by omega)]
                exact r5 b hb
            refine ⟨wf, rs.fr Fr.rf hS w3 w1.2.2.2.1, ⟨?_, ?_, ?_⟩, fun b hb => ?_, fun b hb => ?_, ?_, fun i hi k' hk' => ?_⟩
            · rw [t0 3 (by omega) (by omega), gI_PI, if_pos rfl, if_neg (by omega), o5 _ (by omega)]; exact d1.1
            · rw [t04, gI_PI, if_pos rfl, if_pos rfl]
            · rw [t00, gI_PI, if_pos rfl, if_neg (by omega), o5 _ (by omega)]; exact d1.2.2
            · rw [oF (a0 + 43 + 2 + 5 * b) (by omega) (by omega), tT 3 (by omega) (by omega), gR_PI, gR5]; exact d2 b hb
            · rw [oF (a0 + 43 + 2 + 5 * b) (by omega) (by omega), hcar b (by omega)]; exact d3 b hb
            · unfold R5; rw [harr, gI_PI, if_pos rfl, if_neg (by omega), o5 _ (by omega)]; exact d4
            · rw [show gI (gPI g5 (a0 + 43) 4 (nI (n4 + 1))) (a0 + 43 + 33 + i) = gI g5 (a0 + 43 + 33 + i) from gU_o (by omega)]
              by_cases e : i = n4
              · subst e
                rw [hg5]
                match k', hk' with
                | 0, _ => rw [show wrS s i x y 5 i 0 = y from k0]; simp [gI_PI]
                | 1, _ => rw [show wrS s i x y 5 i 1 = x from k1]; simp [gI_PI]
                | 2, _ => rw [show wrS s i x y 5 i 2 = -1 from k2]; simp [gI_PI]
                | 3, _ => rw [show wrS s i x y 5 i 3 = -1 from k3]; simp [gI_PI]
                | 4, _ => rw [show wrS s i x y 5 i 4 = 0 from k4]; simp [gI_PI]
              · rw [o5 _ (by omega), oS i k' e]; exact d5 i (by omega) k' hk'
          have sh : Sh a0 (gPI g5 (a0 + 43) 4 (nI (n4 + 1))) := by
            obtain ⟨t1, t2, t3, t4, t5, t6, t7, t8⟩ := I.2.1
            refine ⟨by rw [gS_PI, gS5]; exact t1, by rw [gR_PI, gR5]; exact t2, by rw [gR_PI, gR5]; exact t3, by rw [gR_PI, gR5]; exact t4, by rw [gR_PI, gR5]; exact t5, ?_, ?_, fun b hb => ?_⟩
            · unfold FL; rw [gS_PI, gR_PI, gS5, gR5]; exact t6
            · unfold RtL; rw [gS_PI, gR_PI, gS5, gR5]; exact t7
            · rw [gR_PI, gR5, oF (a0 + 43 + 2 + 5 * b) (by omega) (by omega), oF (a0 + 96 + 2 + 5 * b) (by omega) (by omega)]; exact t8 b hb
          have I' : ClI a0 (gPI g5 (a0 + 43) 4 (nI (n4 + 1))) (wrS s n4 x y) n1 n2 n3 (n4 + 1) q := by
            refine ⟨ci, sh, by rw [gI_PI, if_pos rfl, if_neg (by omega), o5 _ (by omega)]; exact I.2.2.1, ?_⟩
            obtain ⟨C, la, u1, u2, u3⟩ := I.2.2.2
            exact ⟨C, la, by rw [tT 6 (by omega) (by omega)]; exact u1, by rw [tT 2 (by omega) (by omega)]; exact u2, u3⟩
          refine ⟨0, nI n4, _, _, n1, n2, n3, n4 + 1, q, ?_, by omega, ⟨by show gZ g5 = _; exact gZ5, by rw [gS_PI, gS5], by show gJ g5 = _; exact gJ5, fun a ha => ⟨oF a (by omega) (by omega), by rw [gR_PI, gR5]⟩⟩, I', by omega, fun h m hZ => ?_⟩
          · unfold f6_write f3_begin gLt
            rw [if_pos s1, p_checkHouse I, gB2_some, if_pos hx, if_pos n0e, if_pos s1, p_checkHouse I, gB2_some, if_pos hy, if_pos n0e, if_neg c, if_pos s1, s3, ob_some, if_pos s7, s11, if_pos (h20.mpr k), ob_some, if_pos s7, b7, ob_some, ob_some, if_pos s7, b9, if_pos rfl, s11, if_pos (ixOk (by omega) (by omega)), c4, b10, ob_some, if_pos b11, if_pos b11, ob_some, ← hg5]
            have e43 : gI g5 (a0 + 43) 4 = nI n4 := by rw [o5 _ (by omega)]; exact s11
            rw [if_pos (show (gS g5 a0).fst = 7 by rw [gS5]; exact s1), gR5, s3, ob_some, if_pos (show (gS g5 (a0 + 43)).fst = 2 by rw [gS5]; exact s7)]
            dsimp only
            rw [e43, nI_1]
          · have m' := m.thr (v := 0)
            obtain ⟨zz, hzz⟩ : ∃ zz, zz = gZ (gPI h (a0 + 153) 0 0) := ⟨_, rfl⟩
            have hzM : a0 + 153 + 8 < zz := by rw [hzz]; show _ < gZ h; omega
            obtain ⟨H, hH⟩ : ∃ H, H = gN (gPI h (a0 + 153) 0 0) 11 5 (fun _ => 0) := ⟨_, rfl⟩
            have S : gS H zz = (11, 5) := by rw [hH, hzz]; exact gS_gN rfl
            have mH : MX (a0 + 153) H s n1 n2 n3 n4 := by rw [hH]; exact m'.gN (by rw [← hzz]; exact hzM)
            obtain ⟨H4, hH4⟩ : ∃ H4, H4 = gPI (gPI (gPI (gPI H zz 0 y) zz 1 x) zz 2 (-1)) zz 3 (-1) := ⟨_, rfl⟩
            obtain ⟨H5, hH5⟩ : ∃ H5, H5 = gPI H4 zz 4 0 := ⟨_, rfl⟩
            have S4 : gS H4 = gS H := by rw [hH4]; rfl
            have S5 : gS H5 = gS H := by rw [hH5, gS_PI, S4]
            have m4 : MX (a0 + 153) H4 s n1 n2 n3 n4 := by rw [hH4]; exact (((mH.off hzM).off hzM).off hzM).off hzM
            have m5 : MX (a0 + 153) H5 s n1 n2 n3 n4 := by rw [hH5]; exact m4.off hzM
            have v0 : gI H5 zz 0 = y := by rw [hH5, hH4]; simp [gI_PI]
            have v1 : gI H5 zz 1 = x := by rw [hH5, hH4]; simp [gI_PI]
            have v2 : gI H5 zz 2 = -1 := by rw [hH5, hH4]; simp [gI_PI]
            have v3 : gI H5 zz 3 = -1 := by rw [hH5, hH4]; simp [gI_PI]
            have v4 : gI H5 zz 4 = 0 := by rw [hH5]; simp [gI_PI]
            have g0 : gI H5 (a0 + 153) 0 = 0 := by
              have e : ∀ (g : g_H) (k : Nat) (v : Int32), gI (gPI g zz k v) (a0 + 153) 0 = gI g (a0 + 153) 0 := fun g k v => by rw [gI_PI, if_neg (by omega)]
              rw [hH5, hH4, e, e, e, e, e, hH, show gI (gN (gPI h (a0 + 153) 0 0) 11 5 (fun _ => 0)) (a0 + 153) = gI (gPI h (a0 + 153) 0 0) (a0 + 153) from gW_o (by rw [← hzz]; omega)]
              simp [gI_PI]
            have f1 : Fmm (a0 + 153) h H5 := by
              rw [hH5, hH4]
              have f0 : Fmm (a0 + 153) h H := by rw [hH]; exact (Fmm.put (a := a0 + 153) ⟨by omega, by omega⟩).tr Fmm.gN
              have fz : gZ h ≤ zz := by rw [hzz]; exact Nat.le_refl _
              exact ((((f0.up fz).up fz).up fz).up fz).up fz
            obtain ⟨HW, hHW⟩ : ∃ HW, HW = gPW H5 (a0 + 153 + 6) (va_cpy (gI H5 zz) (gI H5 (a0 + 153 + 6)) 0 (5 * n4) 5) := ⟨_, rfl⟩
            have f2 : Fmm (a0 + 153) H5 HW := by rw [hHW]; exact ⟨Nat.le_refl _, fun a _ => ⟨rfl, rfl, rfl, fun ha => gW_o (by omega)⟩⟩
            have eW : gI HW (a0 + 153) = gI H5 (a0 + 153) := by rw [hHW]; exact gW_o (by omega)
            have mf : MX (a0 + 153) (gPI HW (a0 + 153) 9 (nI (n4 + 1))) (wrS s n4 x y) n1 n2 n3 (n4 + 1) := by
              obtain ⟨L, ⟨y1, y2, y3, y4⟩, ⟨z1, z2, z3, z4⟩, ⟨p1, p2, p3⟩⟩ := m5
              have e : ∀ k, k ≠ 0 → k ≠ 6 → gI (gPI HW (a0 + 153) 9 (nI (n4 + 1))) (a0 + 153 + k) = gI H5 (a0 + 153 + k) := fun k hk hk2 => by
                rw [hHW]
                exact (show _ = gI (gPW H5 (a0 + 153 + 6) _) (a0 + 153 + k) from gU_o (by omega)).trans (gW_o (by omega))
              have eM : ∀ k, k ≠ 9 → gI (gPI HW (a0 + 153) 9 (nI (n4 + 1))) (a0 + 153) k = gI H5 (a0 + 153) k := fun k hk => by
                rw [gI_PI, if_pos rfl, if_neg hk, eW]
              have gSW : gS HW = gS H5 := by rw [hHW]; rfl
              have gRW : gR HW = gR H5 := by rw [hHW]; rfl
              refine ⟨by unfold ML; rw [gS_PI, gR_PI, gSW, gRW]; exact L, ⟨?_, ?_, ?_, ?_⟩, ⟨?_, ?_, ?_, ?_⟩, ?_, fun i hi kk hk => ?_, ?_⟩
              · rw [eM 1 (by omega), t0 1 (by omega) (by omega)]; exact y1
              · rw [eM 3 (by omega), t0 2 (by omega) (by omega)]; exact y2
              · rw [eM 6 (by omega), t0 3 (by omega) (by omega)]; exact y3
              · rw [t04, gI_PI, if_pos rfl, if_pos rfl]
              · rw [e 1 (by omega) (by omega), tT 1 (by omega) (by omega)]; exact z1
              · rw [e 2 (by omega) (by omega), tT 2 (by omega) (by omega)]; exact z2
              · rw [e 3 (by omega) (by omega), tT 6 (by omega) (by omega)]; exact z3
              · rw [e 5 (by omega) (by omega), tT 3 (by omega) (by omega), tT 4 (by omega) (by omega)]; exact z4
              · rw [e 4 (by omega) (by omega), tT 3 (by omega) (by omega)]; exact p1
              · rw [gI_PI, if_neg (by omega), hHW, gI_PW, if_pos rfl]
                unfold va_cpy
                by_cases c : i = n4
                · subst c
                  rw [if_pos (by omega), show 0 + (5 * i + kk - 5 * i) = kk by omega]
                  match kk, hk with
                  | 0, _ => rw [v0]; exact k0.symm
                  | 1, _ => rw [v1]; exact k1.symm
                  | 2, _ => rw [v2]; exact k2.symm
                  | 3, _ => rw [v3]; exact k3.symm
                  | 4, _ => rw [v4]; exact k4.symm
                · rw [if_neg (by omega), oS i kk c]
                  exact p2 i (by omega) kk hk
              · rw [e 7 (by omega) (by omega), t00]; exact p3
            have cc : ¬ (0 : Int32) < 0 ∧ ¬ (5 : Int32) * nI n4 < 0 ∧ ¬ (5 : Int32) < 0 ∧ 0 + Int32.toNatClampNeg (5 : Int32) ≤ 5 ∧ Int32.toNatClampNeg ((5 : Int32) * nI n4) + Int32.toNatClampNeg (5 : Int32) ≤ 100 := by
              rw [show (5 : Int32) * nI n4 = nI (5 * n4) from pk_mul 5 n4, cl_nI (show 5 * n4 < 2 ^ 31 by omega)]
              refine ⟨by decide, nI_pos (by omega), by decide, by decide, ?_⟩
              rw [show Int32.toNatClampNeg (5 : Int32) = 5 from rfl]
              omega
            refine ⟨nI n4, _, ?_, (f1.tr f2).tr (Fmm.put (a := a0 + 153) ⟨by omega, by omega⟩), mf, ?_, fun _ => rfl⟩
            · show f7_write h (a0 + 153) x y = _
              unfold f7_write gNw gLt
              rw [if_pos m.1.1, m_isHouse m' e1 s12, gB2_some, if_pos hx, if_neg n10, if_pos m'.1.1, m_isHouse m' e1 s12, gB2_some, if_pos hy, if_neg n10, if_neg c, if_pos m'.1.1, m'.2.1.2.2.2, e4, if_neg fun w => absurd (q20.mp w) (by omega)]
              rw [← hzz, ← hH]
              dsimp only
              rw [S, if_pos (by decide), if_pos (by decide), if_pos (by decide), if_pos (by decide)]
              rw [show Int32.toNatClampNeg (0 : Int32) = 0 from rfl, show Int32.toNatClampNeg (1 : Int32) = 1 from rfl, show Int32.toNatClampNeg (2 : Int32) = 2 from rfl, show Int32.toNatClampNeg (3 : Int32) = 3 from rfl, show Int32.toNatClampNeg (4 : Int32) = 4 from rfl, ← hH4, S4, S, if_pos (by decide), ← hH5]
              rw [if_pos mH.1.1, m5.1.2.1.2.2.2.2.2.1, ob_some, mH.1.2.2.2.2.2.2.2.1, if_pos rfl, m5.2.1.2.2.2, e4, if_pos cc]
              rw [show (5 : Int32) * nI n4 = nI (5 * n4) from pk_mul 5 n4, cl_nI (show 5 * n4 < 2 ^ 31 by omega), show Int32.toNatClampNeg (5 : Int32) = 5 from rfl, ← hHW, eW, m5.2.1.2.2.2, e4, nI_1, mf.2.1.2.2.2, t04, nI_pred]
            · rw [gI_PI, if_pos rfl, if_neg (by omega), eW, g0]
              rfl
        · refine OpR.thr I 3 (by omega) (by omega) ?_ fun h m => ?_
          · unfold f6_write
            rw [if_pos s1, p_checkHouse I, gB2_some, if_pos hx, if_pos n0e, if_pos s1, p_checkHouse I, gB2_some, if_pos hy, if_pos n0e, if_neg c, if_pos s1, s3, ob_some, if_pos s7, s11, if_neg fun w => k (h20.mp w)]
          · have m' := m.thr (v := 0)
            unfold f7_write
            rw [if_pos m.1.1, m_isHouse m' e1 s12, gB2_some, if_pos hx, if_neg n10, if_pos m'.1.1, m_isHouse m' e1 s12, gB2_some, if_pos hy, if_neg n10, if_neg c, if_pos m'.1.1, m'.2.1.2.2.2, e4, if_pos (q20.mpr (by omega)), m_fail m'.1.1, gB2_some]
            rfl
    · exact no (Or.inr hy)
  · exact no (Or.inl hx)
end
section
/-! PURE: bribe -/
theorem clip_in (y : Int32) : ∃ ho, ho ≤ 20 ∧ clip y = nI ho := by
  unfold clip
  by_cases c : y < (20 : Int32)
  · rw [if_pos c]
    by_cases d : (0 : Int32) < y
    · rw [if_pos d]
      obtain ⟨j, hj, rfl⟩ := nI_of (x := y) (fun k => absurd (Int32.lt_trans d k) Int32.lt_irrefl)
      have := (nI_ltI (b := 20) hj (by omega)).mp c
      exact ⟨j, by omega, rfl⟩
    · rw [if_neg d]; exact ⟨0, by omega, rfl⟩
  · rw [if_neg c, if_pos (by decide)]; exact ⟨20, by omega, rfl⟩
theorem clHon {a0 F n1 n2 n3 n4 q b : Nat} {g : g_H} {s : Sg} (c : CI a0 F g s n1 n2 n3 n4 q) (hb : b < n3) (x : Int32) : f0_addHonour g (F + 2 + 5 * b) x = some (gPI g (F + 2 + 5 * b) 5 (clip (s 3 b 3 + x))) ∧ Fr F g (gPI g (F + 2 + 5 * b) 5 (clip (s 3 b 3 + x))) ∧ CI a0 F (gPI g (F + 2 + 5 * b) 5 (clip (s 3 b 3 + x))) (su s 3 b 3 (clip (s 3 b 3 + x))) n1 n2 n3 n4 q := by
  obtain ⟨b1, b2, b3, b4, b5, b6, b7, b8, b9, b10, b11, b12, b13, b14, b15, b16, b17, b18, b19, b20⟩ := clB c hb
  obtain ⟨x1, x2, x3, x4, x5, x6, x7, x8⟩ := clC c hb
  have hS : Same s (su s 3 b 3 (clip (s 3 b 3 + x))) := Same.b (by omega)
  obtain ⟨ho', h1, h2⟩ := clip_in (s 3 b 3 + x)
  refine ⟨by rw [p_addHonour b11, x4], putB (by omega), c.step (putB (by omega)) hS ?_ (RD.bee c.2.2 hb b18 b19 (show fld 5 3 by unfold fld; omega))⟩
  refine c.1.bee hS su3_5 su3_0 hb (fun b' h' => su3_o h') ?_
  obtain ⟨z, p, l, st, ho, e1, e2, e3, e4, e5, e6, e7, e8, e9, e10, e11, e12, e13, e14, e15⟩ := c.wb hb
  exact WB.keep hS (c.wb hb) (by simp [su]) (by simp [su]) ⟨st, e9, by rw [← e8]; simp [su]⟩ ⟨ho', h1, by rw [su_s]; exact h2⟩ (by simpa [su] using e12) (by simpa [su] using e13)
theorem take_hon {s : Sg} {b i : Nat} {v : Int32} : takeS (su s 3 b 3 v) b i = su (takeS s b i) 3 b 3 v := by
  unfold takeS
  rw [su_t (by omega), su_comm (t := 3) (t' := 5) (Or.inl (by omega)), su_comm (t := 3) (t' := 5) (Or.inl (by omega)), su_comm (t := 3) (t' := 5) (Or.inl (by omega))]
theorem o_bribe {a0 n1 n2 n3 n4 q : Nat} {g : g_H} {s : Sg} (I : ClI a0 g s n1 n2 n3 n4 q) (x y : Int32) : OpR a0 g s n1 n2 n3 n4 q (f6_bribe g a0 x y) (fun h => f7_bribe h (a0 + 153) x y) c2 := by
  obtain ⟨s1, s2, s3, s4, s5, s6, s7, s8, s9, s10, s11, s12, s13, s14, s15⟩ := I.sh
  have e3 := I.1.1.2.1
  have e4 := I.1.1.2.2.2.1
  have fail : ∀ (h : g_H) (a b : Int32) (k : Int32), MX (a0 + 153) h s n1 n2 n3 n4 → k ≠ 0 → f7_bribe_58 h (a0 + 153) a b (a0 + 153) k = some (0, gPI (gPI h (a0 + 153) 0 0) (a0 + 153) 0 k) := fun h a b k m hk => by
    unfold f7_bribe_58
    rw [if_pos m.1.1, if_pos m.1.1, show gI (gPI h (a0 + 153) 0 k) (a0 + 153) 0 = k by simp [gI_PI], if_neg hk, gPI_PI]
  by_cases hx : inR (nI n3) x
  · by_cases hy : inR (nI n4) y
    · obtain ⟨b, hb, rfl⟩ := inR_nat (by omega) hx
      obtain ⟨i, hi, rfl⟩ := inR_nat (by omega) hy
      obtain ⟨b1, b2, b3, b4, b5, b6, b7, b8, b9, b10, b11, b12, b13, b14, b15, b16, b17, b18, b19, b20⟩ := clB I.1 hb
      obtain ⟨x1, x2, x3, x4, x5, x6, x7, x8⟩ := clC I.1 hb
      obtain ⟨l1, l2, l3⟩ := clL I.1 hi
      have cb : Int32.toNatClampNeg (nI b) = b := cl_nI (by omega)
      have ci : Int32.toNatClampNeg (nI i) = i := cl_nI (by omega)
      have v1 : gI g (a0 + 43 + 33 + i) 1 = s 5 i 1 := l3 1 (by omega)
      obtain ⟨cc, hc3, hcc⟩ := (I.1.1.2.2.2.2.2.2.2.1 b hb).2
      have hcar : ∀ k : Int32, (nI cc < (3 : Int32)) ↔ cc < 3 := fun _ => nI_ltI (b := 3) (by omega) (by omega)
      have hcar3 : (nI cc = (3 : Int32)) ↔ cc = 3 := nI_eq (b := 3) (by omega) (by omega)
      have bad : (0 < s 3 b 1 ∨ ¬ s 5 i 1 = s 4 b (cl (s 3 b 0)) ∨ ¬ cc < 3) → OpR a0 g s n1 n2 n3 n4 q (f6_bribe g a0 (nI b) (nI i)) (fun h => f7_bribe h (a0 + 153) (nI b) (nI i)) c2 := by
        intro hbad
        refine OpR.thr I 3 (by omega) (by omega) ?_ fun h m => ?_
        · unfold f6_bribe f6_bribe_58
          rw [if_pos s1, p_checkBee I, gB2_some, if_pos hx, if_pos n0e, if_pos s1, p_checkLetter I, gB2_some, if_pos hy, if_pos n0e, if_pos s1, s3, ob_some, if_pos s7, b6, ob_some, b8, if_pos rfl, if_pos (ixOk (by omega) (by omega)), cb, b10, ob_some, ob_some, if_pos s7, b7, ob_some, b9, if_pos rfl, if_pos (ixOk (by omega) (by omega)), ci, l1, ob_some, if_pos b11, x2]
          by_cases k1 : 0 < s 3 b 1
          · rw [if_pos k1]
          · rw [if_neg k1, if_pos l2, clHouse I.1 hb, gB2_some, v1]
            by_cases k2 : s 5 i 1 = s 4 b (cl (s 3 b 0))
            · rw [if_pos k2, if_pos b11, b14, hcc, if_neg fun w => ((hbad.resolve_left k1).resolve_left fun w => w k2) ((hcar 0).mp w)]
            · rw [if_neg k2]
        · unfold f7_bribe f7_bribe_53
          rw [if_pos m.1.1, m_isBee m e3 s14, gB2_some, if_pos hx, if_neg n10, if_pos m.1.1, m_isLetter m e4 s15, gB2_some, if_pos hy, if_neg n10, if_pos m.1.1, m_be (k := 1) (y := (1 : Int32)) m s14 hb (by omega) rfl rfl, gB2_some]
          by_cases k1 : 0 < s 3 b 1
          · rw [if_pos k1, fail h _ _ 2 m (by decide)]
            rfl
          · rw [if_neg k1, if_pos m.1.1, m_le (k := 1) (y := (1 : Int32)) m s15 hi (by omega) rfl rfl, gB2_some, if_pos m.1.1, m_house m s14 hb (I.1.wb hb) rfl, gB2_some]
            by_cases k2 : s 5 i 1 = s 4 b (cl (s 3 b 0))
            · have k3 : cc = 3 := by have := (hbad.resolve_left k1).resolve_left fun w => w k2; omega
              rw [if_pos k2, if_pos m.1.1, m_carries m s15 e4 rfl, gB2_some, hcc, if_pos (hcar3.mpr k3), fail h _ _ 2 m (by decide)]
              rfl
            · rw [if_neg k2, fail h _ _ 2 m (by decide)]
              rfl
      by_cases k1 : 0 < s 3 b 1
      · exact bad (Or.inl k1)
      · by_cases k2 : s 5 i 1 = s 4 b (cl (s 3 b 0))
        · by_cases k3 : cc < 3
          · have hne : s 5 i 1 ≠ -1 := by rw [k2]; exact m1_ne (I.1.hin hb)
            have h3 : ¬ (3 : Int32) ≤ car s b := by rw [hcc]; exact Int32.not_le.mpr ((hcar 0).mpr k3)
            have start : ∀ h, MX (a0 + 153) h s n1 n2 n3 n4 → f7_bribe h (a0 + 153) (nI b) (nI i) = (if (5 : Int32) ≤ s 3 b 3 then f7_bribe_85 (gPI h (a0 + 153) 0 0) (a0 + 153) (nI b) (nI i) 0 else f7_bribe_85 (gPI h (a0 + 153) 0 0) (a0 + 153) (nI b) (nI i) 1) := fun h m => by
              have m' := m.thr (v := 0)
              unfold f7_bribe f7_bribe_58
              rw [if_pos m.1.1, m_isBee m e3 s14, gB2_some, if_pos hx, if_neg n10, if_pos m.1.1, m_isLetter m e4 s15, gB2_some, if_pos hy, if_neg n10, if_pos m.1.1, m_be (k := 1) (y := (1 : Int32)) m s14 hb (by omega) rfl rfl, gB2_some, if_neg k1, if_pos m.1.1, m_le (k := 1) (y := (1 : Int32)) m s15 hi (by omega) rfl rfl, gB2_some, if_pos m.1.1, m_house m s14 hb (I.1.wb hb) rfl, gB2_some, if_pos k2, if_pos m.1.1, m_carries m s15 e4 rfl, gB2_some, hcc, if_neg fun w => absurd (hcar3.mp w) (by omega), if_pos m.1.1, if_pos m.1.1]
              rw [show gI (gPI h (a0 + 153) 0 0) (a0 + 153) 0 = 0 by simp [gI_PI], if_pos rfl, m_be (k := 3) (y := (3 : Int32)) m' s14 hb (by omega) rfl rfl, gB2_some]
            have cstart : f6_bribe g a0 (nI b) (nI i) = (if s 3 b 3 < (5 : Int32) then f6_bribe_81 g (a0 + 43 + 2 + 5 * b) (a0 + 43 + 33 + i) 0 else f6_bribe_81 g (a0 + 43 + 2 + 5 * b) (a0 + 43 + 33 + i) 1) := by
              unfold f6_bribe
              rw [if_pos s1, p_checkBee I, gB2_some, if_pos hx, if_pos n0e, if_pos s1, p_checkLetter I, gB2_some, if_pos hy, if_pos n0e, if_pos s1, s3, ob_some, if_pos s7, b6, ob_some, b8, if_pos rfl, if_pos (ixOk (by omega) (by omega)), cb, b10, ob_some, ob_some, if_pos s7, b7, ob_some, b9, if_pos rfl, if_pos (ixOk (by omega) (by omega)), ci, l1, ob_some, if_pos b11, x2, if_neg k1, if_pos l2, clHouse I.1 hb, gB2_some, v1, if_pos k2, if_pos b11, b14, hcc, if_pos ((hcar 0).mpr k3), x4]
            by_cases k5 : s 3 b 3 < (5 : Int32)
            · obtain ⟨g1, t1, t2, t3⟩ := clTake I.1 hb hi hne h3
              obtain ⟨u1, u2, u3⟩ := clHon t3 hb (-1)
              have e33 : takeS s b i 3 b 3 = s 3 b 3 := by simp [takeS, su]
              rw [e33] at u1 u2 u3
              have hS : Same s (su (takeS s b i) 3 b 3 (clip (s 3 b 3 + -1))) := takeS_same.tr (Same.b (by omega))
              have gB1 : (gS g1 (a0 + 43 + 2 + 5 * b)).1 = 1 := by rw [t2.1]; exact b11
              refine ⟨0, 1, _, _, n1, n2, n3, n4, q, ?_, by omega, (t2.tr u2).fc (Or.inl rfl), I.fr (t2.tr u2) u3 hS, by omega, fun h m hZ => ?_⟩
              · rw [cstart, if_pos k5]
                unfold f6_bribe_81
                rw [if_pos rfl, if_pos b11, t1, ob_some, if_pos gB1, u1, ob_some, if_pos rfl]
              · have m' := m.thr (v := 0)
                have mh := m'.putB (b := b) (k := 3) (v := clip (s 3 b 3 + -1)) (by omega) (by omega)
                obtain ⟨g2, w1, w2, w3⟩ := m_take mh s15 hi (x := nI b) (y := nI i) rfl rfl
                rw [take_hon] at w3
                refine ⟨1, g2, ?_, ((Fmm.put (a := a0 + 153) ⟨by omega, by omega⟩).tr (Fm.mm fmB)).tr w2.mm, w3, ?_, fun _ => rfl⟩
                · show f7_bribe h (a0 + 153) (nI b) (nI i) = _
                  rw [start h m, if_neg (Int32.not_le.mpr k5)]
                  unfold f7_bribe_85 f7_bribe_97
                  rw [if_neg n10, if_pos m'.1.1, m_honour m' s14 hb rfl, ob_some, if_neg n10, if_pos mh.1.1, w1, ob_some, if_pos (Or.inr rfl)]
                · rw [w2.2.2.2.2 _ (by unfold chm; omega), gI_PI, if_neg (by omega)]
                  simp [gI_PI]
                  rfl
            · obtain ⟨u1, u2, u3⟩ := clHon I.1 hb 1
              have hS : Same s (su s 3 b 3 (clip (s 3 b 3 + 1))) := Same.b (by omega)
              refine ⟨0, 0, _, _, n1, n2, n3, n4, q, ?_, by omega, u2.fc (Or.inl rfl), I.fr u2 u3 hS, by omega, fun h m hZ => ?_⟩
              · rw [cstart, if_neg k5]
                unfold f6_bribe_81
                rw [if_neg n10, if_pos b11, u1, ob_some, if_neg n10]
              · have m' := m.thr (v := 0)
                have mh := m'.putB (b := b) (k := 3) (v := clip (s 3 b 3 + 1)) (by omega) (by omega)
                refine ⟨0, _, ?_, (Fmm.put (a := a0 + 153) ⟨by omega, by omega⟩).tr (Fm.mm fmB), mh, ?_, fun _ => rfl⟩
                · show f7_bribe h (a0 + 153) (nI b) (nI i) = _
                  rw [start h m, if_pos (Int32.not_lt.mp k5)]
                  unfold f7_bribe_85 f7_bribe_97
                  rw [if_pos rfl, if_pos m'.1.1, m_honour m' s14 hb rfl, ob_some, if_pos rfl, if_pos (Or.inl rfl)]
                · rw [gI_PI, if_neg (by omega)]
                  simp [gI_PI]
                  rfl
          · exact bad (Or.inr (Or.inr k3))
        · exact bad (Or.inr (Or.inl k2))
    · refine OpR.thr I 1 (by omega) (by omega) ?_ fun h m => ?_
      · unfold f6_bribe
        rw [if_pos s1, p_checkBee I, gB2_some, if_pos hx, if_pos n0e, if_pos s1, p_checkLetter I, gB2_some, if_neg hy, if_neg n1e]
      · unfold f7_bribe f7_bribe_17
        rw [if_pos m.1.1, m_isBee m e3 s14, gB2_some, if_pos hx, if_neg n10, if_pos m.1.1, m_isLetter m e4 s15, gB2_some, if_neg hy, if_pos rfl, fail h _ _ 1 m (by decide)]
        rfl
  · refine OpR.thr I 1 (by omega) (by omega) ?_ fun h m => ?_
    · unfold f6_bribe
      rw [if_pos s1, p_checkBee I, gB2_some, if_neg hx, if_neg n1e]
    · unfold f7_bribe f7_bribe_17
      rw [if_pos m.1.1, m_isBee m e3 s14, gB2_some, if_neg hx, if_pos rfl, fail h _ _ 1 m (by decide)]
      rfl
end
section
/-! PURE: what is counted -/
def sF (f : Nat → Int32) : Nat → Int32
  | 0 => 0
  | n + 1 => sF f n + f n
theorem sF_add {f g : Nat → Int32} {n : Nat} : sF (fun b => f b + g b) n = sF f n + sF g n := by
  induction n with
  | zero => rfl
  | succ n ih =>
    show sF (fun b => f b + g b) n + (f n + g n) = (sF f n + f n) + (sF g n + g n)
    rw [ih, Int32.add_assoc, Int32.add_assoc, ← Int32.add_assoc (sF g n), Int32.add_comm (sF g n), Int32.add_assoc (f n)]
theorem sF_ext {f g : Nat → Int32} {n : Nat} (h : ∀ b, b < n → f b = g b) : sF f n = sF g n := by
  induction n with
  | zero => rfl
  | succ n ih =>
    show sF f n + f n = sF g n + g n
    rw [ih fun b hb => h b (by omega), h n (by omega)]
theorem sF_0 {n : Nat} : sF (fun _ => 0) n = 0 := by
  induction n with
  | zero => rfl
  | succ n ih =>
    show sF (fun _ => 0) n + 0 = 0
    rw [ih]; rfl
theorem sF_one {v : Int32} {n : Nat} (h6 : n ≤ 6) (h : v = -1 ∨ ∃ j, j < n ∧ v = nI j) : sF (fun b => if v = nI b then 1 else 0) n = if v = -1 then 0 else 1 := by
  rcases h with h | ⟨j, hj, h⟩
  · rw [if_pos h]
    refine (sF_ext fun b hb => if_neg ?_).trans sF_0
    rw [h]
    exact fun q => nI_m1 (by omega) q.symm
  · rw [if_neg (by rw [h]; exact nI_m1 (by omega))]
    have : ∀ m, m ≤ n → sF (fun b => if v = nI b then 1 else 0) m = if j < m then 1 else 0 := by
      intro m hm
      induction m with
      | zero => rfl
      | succ m ih =>
        show sF _ m + (if v = nI m then 1 else 0) = _
        rw [ih (by omega), h]
        by_cases e : j = m
        · subst e
          rw [if_neg (by omega), if_pos rfl, if_pos (by omega)]
          rfl
        · rw [if_neg (c := nI j = nI m) fun q => e (nI_inj (by omega) (by omega) q)]
          by_cases l : j < m
          · rw [if_pos l, if_pos (by omega)]; rfl
          · rw [if_neg l, if_neg (by omega)]; rfl
    rw [this n (Nat.le_refl _), if_pos hj]
/-- letters carried, either way -/
theorem car_sum {s : Sg} {n1 n2 n3 n4 q : Nat} (w : WF s n1 n2 n3 n4 q) : sF (car s) n3 = sF (fun i => if s 5 i 2 = -1 then 0 else 1) n4 := by
  have h4 := w.2.2.2.1
  have h20 := w.2.2.2.2.1
  have h6 := w.2.2.1
  have : ∀ m, m ≤ n4 → sF (fun b => carF s b m) n3 = sF (fun i => if s 5 i 2 = -1 then 0 else 1) m := by
    intro m hm
    induction m with
    | zero => exact sF_0
    | succ m ih =>
      show sF (fun b => carF s b m + (if s 5 m 2 = nI b then 1 else 0)) n3 = sF _ m + _
      rw [sF_add, ih (by omega), sF_one h6 (w.2.2.2.2.2.2.2.2 m (by omega)).2.2.1]
  rw [← this n4 (Nat.le_refl _)]
  exact sF_ext fun b hb => car_def h4 h20 b
theorem arrF_s {s : Sg} {n : Nat} : arrF s n = sF (fun i => if s 5 i 3 = -1 then 0 else 1) n := by
  induction n with
  | zero => rfl
  | succ n ih =>
    show arrF s n + _ = sF _ n + _
    rw [ih]
/-- the gates open now -/
def opI (s : Sg) (i : Nat) : Int32 := if (hourS s < s 2 i 3 ∨ s 2 i 4 ≤ hourS s) then 0 else 1
def cnS (s : Sg) (n2 n3 n4 k : Nat) : Int32 := if k < 5 then s 0 0 k else if k = 5 then arr s else if k = 6 then sF (fun i => if s 5 i 2 = -1 then 0 else 1) n4 else if k = 7 then sF (fun b => s 3 b 4) n3 else sF (opI s) n2
theorem p_carLoop {a0 F n1 n2 n3 n4 q : Nat} {g : g_H} {s : Sg} (c : CI a0 F g s n1 n2 n3 n4 q) : ∀ k b fuel : Nat, b + k = n3 → k < fuel → f1_carriedLetters_4 fuel g F (sF (car s) b) (nI b) = some (sF (car s) n3, g) := by
  intro k
  have h6 := c.1.2.2.1
  have e3 : gI g F 3 = nI n3 := c.2.2.1.1.trans c.1.2.1
  induction k with
  | zero =>
    intro b fuel h hf
    obtain ⟨fu, rfl⟩ : ∃ fu, fuel = fu + 1 := ⟨fuel - 1, by omega⟩
    have : b = n3 := by omega
    subst this
    show f1_carriedLetters_4b _ g F _ (nI b) = _
    unfold f1_carriedLetters_4b
    rw [if_pos c.kF, e3, if_pos (Int32.le_refl _)]
  | succ k ih =>
    intro b fuel h hf
    obtain ⟨fu, rfl⟩ : ∃ fu, fuel = fu + 1 := ⟨fuel - 1, by omega⟩
    obtain ⟨b1, b2, b3, b4, b5, b6, b7, b8, b9, b10, b11, b12, b13, b14, -⟩ := clB c (show b < n3 by omega)
    have cb : Int32.toNatClampNeg (nI b) = b := cl_nI (by omega)
    show f1_carriedLetters_4b (f1_carriedLetters_4 fu) g F _ (nI b) = _
    unfold f1_carriedLetters_4b
    rw [if_pos c.kF, e3, if_neg (nI_ge (by omega) (by omega)), b6, ob_some, b8, if_pos rfl, if_pos (ixOk (by omega) (by omega)), cb, b10, ob_some, if_pos b11, b14, nI_1]
    exact ih (b + 1) fu (by omega) (by omega)
theorem p_restLoop {a0 F n1 n2 n3 n4 q : Nat} {g : g_H} {s : Sg} (c : CI a0 F g s n1 n2 n3 n4 q) : ∀ k b fuel : Nat, b + k = n3 → k < fuel → f1_restingBees_4 fuel g F (sF (fun b => s 3 b 4) b) (nI b) = some (sF (fun b => s 3 b 4) n3, g) := by
  intro k
  have h6 := c.1.2.2.1
  have e3 : gI g F 3 = nI n3 := c.2.2.1.1.trans c.1.2.1
  induction k with
  | zero =>
    intro b fuel h hf
    obtain ⟨fu, rfl⟩ : ∃ fu, fuel = fu + 1 := ⟨fuel - 1, by omega⟩
    have : b = n3 := by omega
    subst this
    show f1_restingBees_4b _ g F _ (nI b) = _
    unfold f1_restingBees_4b
    rw [if_pos c.kF, e3, if_pos (Int32.le_refl _)]
  | succ k ih =>
    intro b fuel h hf
    obtain ⟨fu, rfl⟩ : ∃ fu, fuel = fu + 1 := ⟨fuel - 1, by omega⟩
    obtain ⟨b1, b2, b3, b4, b5, b6, b7, b8, b9, b10, b11, b12, b13, b14, -⟩ := clB c (show b < n3 by omega)
    obtain ⟨x1, x2, x3, x4, x5, x6, x7, x8⟩ := clC c (show b < n3 by omega)
    have cb : Int32.toNatClampNeg (nI b) = b := cl_nI (by omega)
    obtain ⟨z, p, l, st, ho, e1, e2, e3', e4, e5, e6, e7, e8, e9, e10, e11, e12, -⟩ := c.wb (show b < n3 by omega)
    have := ih (b + 1) fu (by omega) (by omega)
    show f1_restingBees_4b (f1_restingBees_4 fu) g F _ (nI b) = _
    unfold f1_restingBees_4b f1_restingBees_27
    rw [if_pos c.kF, e3, if_neg (nI_ge (by omega) (by omega)), b6, ob_some, b8, if_pos rfl, if_pos (ixOk (by omega) (by omega)), cb, b10, ob_some, if_pos b11, x5, nI_1]
    rcases e12 with e | e
    · rw [if_pos e]
      have h2 : sF (fun b => s 3 b 4) (b + 1) = sF (fun b => s 3 b 4) b := by
        show _ + s 3 b 4 = _
        rw [e, Int32.add_zero]
      rw [h2] at this
      exact this
    · rw [if_neg (by rw [e]; exact n10)]
      have h2 : sF (fun b => s 3 b 4) (b + 1) = sF (fun b => s 3 b 4) b + 1 := by
        show _ + s 3 b 4 = _
        rw [e]
      rw [h2] at this
      exact this
theorem p_gateLoop {a0 n1 n2 n3 n4 q : Nat} {g : g_H} {s : Sg} (I : ClI a0 g s n1 n2 n3 n4 q) : ∀ k i fuel : Nat, i + k = n2 → k < fuel → f5_openGates_4 fuel g (a0 + 1) (s 0 0 0) (sF (opI s) i) (nI i) = some (sF (opI s) n2, g) := by
  intro k
  obtain ⟨s1, s2, s3, s4, s5, s6, s7, s8, s9, s10, s11, s12, s13, s14, s15⟩ := I.sh
  induction k with
  | zero =>
    intro i fuel h hf
    obtain ⟨fu, rfl⟩ : ∃ fu, fuel = fu + 1 := ⟨fuel - 1, by omega⟩
    have : i = n2 := by omega
    subst this
    show f5_openGates_4b _ g (a0 + 1) _ _ (nI i) = _
    unfold f5_openGates_4b
    rw [if_pos s6, s9, if_pos (Int32.le_refl _)]
  | succ k ih =>
    intro i fuel h hf
    obtain ⟨fu, rfl⟩ : ∃ fu, fuel = fu + 1 := ⟨fuel - 1, by omega⟩
    obtain ⟨l1, l2, l3, l4, l5, l6, l7, l8⟩ := p_lane I.1 (show i < n2 by omega)
    have ci : Int32.toNatClampNeg (nI i) = i := cl_nI (by omega)
    obtain ⟨g3, g4⟩ := (I.1.2.1.2.2.2.2.1.2.2.2.1 i (by omega)).2.2 (by rw [I.2.2.1]; exact nI_m1 (by omega))
    have := ih (i + 1) fu (by omega) (by omega)
    have hs : sF (opI s) (i + 1) = sF (opI s) i + opI s i := rfl
    rw [hs] at this
    show f5_openGates_4b (f5_openGates_4 fu) g (a0 + 1) _ _ (nI i) = _
    unfold f5_openGates_4b f5_openGates_28 f2_isOpen
    rw [if_pos s6, s9, if_neg (nI_ge (by omega) (by omega)), l1, ob_some, l2, if_pos rfl, if_pos (ixOk (by omega) (by omega)), ci, l3, ob_some, if_pos l4, if_pos l4, g3, g4, nI_1]
    by_cases c1 : s 0 0 0 - s 0 0 0 / (24 : Int32) * (24 : Int32) < s 2 i 3
    · rw [if_pos c1, gB2_some, if_pos rfl]
      have e : opI s i = 0 := if_pos (Or.inl c1)
      rw [e, Int32.add_zero] at this
      exact this
    · rw [if_neg c1]
      by_cases c2 : s 2 i 4 ≤ s 0 0 0 - s 0 0 0 / (24 : Int32) * (24 : Int32)
      · rw [if_pos c2, gB2_some, if_pos rfl]
        have e : opI s i = 0 := if_pos (Or.inr c2)
        rw [e, Int32.add_zero] at this
        exact this
      · rw [if_neg c2, gB2_some, if_neg n10]
        have e : opI s i = 1 := if_neg fun k => k.elim c1 c2
        rw [e] at this
        exact this
theorem p_tellCount {a0 n1 n2 n3 n4 q k : Nat} {g : g_H} {s : Sg} (I : ClI a0 g s n1 n2 n3 n4 q) (hk : k < 9) : f6_tellCount g a0 (nI k) = some (cnS s n2 n3 n4 k, g) := by
  obtain ⟨s1, s2, s3, s4, s5, s6, s7, s8, s9, s10, s11, s12, s13, s14, s15⟩ := I.sh
  have e0 := I.1.2.2.1.2.2
  have w := I.1.1
  unfold f6_tellCount cnS
  match k, hk with
  | 0, _ => rw [if_pos (by decide), if_pos s1, s3, ob_some, if_pos s7, e0, if_pos (by decide)]
  | 1, _ => rw [if_neg (by decide), if_pos (by decide), if_pos s1, s2, ob_some, if_pos s6, s8, if_pos (by decide), w.1.1]
  | 2, _ => rw [if_neg (by decide), if_neg (by decide), if_pos (by decide), if_pos s1, s2, ob_some, if_pos s6, s9, if_pos (by decide), w.1.2.2.1]
  | 3, _ => rw [if_neg (by decide), if_neg (by decide), if_neg (by decide), if_pos (by decide), if_pos s1, s3, ob_some, if_pos s7, s10, if_pos (by decide), w.2.1]
  | 4, _ => rw [if_neg (by decide), if_neg (by decide), if_neg (by decide), if_neg (by decide), if_pos (by decide), if_pos s1, s3, ob_some, if_pos s7, s11, if_pos (by decide), w.2.2.2.1]
  | 5, _ => rw [if_neg (by decide), if_neg (by decide), if_neg (by decide), if_neg (by decide), if_neg (by decide), if_pos (by decide), if_pos s1, s3, ob_some, if_pos s7, I.1.2.2.2.2.2.1, if_neg (by decide), if_pos rfl]
  | 6, _ =>
    rw [if_neg (by decide), if_neg (by decide), if_neg (by decide), if_neg (by decide), if_neg (by decide), if_neg (by decide), if_pos (by decide), if_pos s1, s3, ob_some, if_pos s7]
    unfold f1_carriedLetters
    rw [show (0 : Int32) = nI 0 from rfl, show f1_carriedLetters_4 300 g (a0 + 43) (nI 0) (nI 0) = some (sF (car s) n3, g) from p_carLoop I.1 n3 0 300 (by omega) (by omega), gB2_some, if_neg (by decide), if_neg (by decide), if_pos rfl, car_sum w]
    rfl
  | 7, _ =>
    rw [if_neg (by decide), if_neg (by decide), if_neg (by decide), if_neg (by decide), if_neg (by decide), if_neg (by decide), if_neg (by decide), if_pos (by decide), if_pos s1, s3, ob_some, if_pos s7]
    unfold f1_restingBees
    rw [show (0 : Int32) = nI 0 from rfl, show f1_restingBees_4 300 g (a0 + 43) (nI 0) (nI 0) = some (sF (fun b => s 3 b 4) n3, g) from p_restLoop I.1 n3 0 300 (by omega) (by omega), gB2_some, if_neg (by decide), if_neg (by decide), if_neg (by decide), if_pos rfl]
  | 8, _ =>
    rw [if_neg (by decide), if_neg (by decide), if_neg (by decide), if_neg (by decide), if_neg (by decide), if_neg (by decide), if_neg (by decide), if_neg (by decide), if_pos s1, s2, ob_some, s3, ob_some, if_pos s7, if_pos s6, e0]
    unfold f5_openGates
    rw [show (0 : Int32) = nI 0 from rfl, show f5_openGates_4 300 g (a0 + 1) (s 0 0 0) (nI 0) (nI 0) = some (sF (opI s) n2, g) from p_gateLoop I n2 0 300 (by omega) (by omega), gB2_some, if_neg (by decide), if_neg (by decide), if_neg (by decide), if_neg (by decide)]
end
