/-! PURE: one cell put; handing over -/
theorem CI.step {a0 F n1 n2 n3 n4 q q' : Nat} {g h : g_H} {s t : Sg} (c : CI a0 F g s n1 n2 n3 n4 q) (f : Fr F g h) (hs : Same s t) (w : WF t n1 n2 n3 n4 q') (r : RD a0 F h t n3 n4) : CI a0 F h t n1 n2 n3 n4 q' := ⟨w, c.2.1.fr f hs c.1.2.2.1 c.1.1.2.2.2.1, r⟩
theorem su_T {s : Sg} {t i k t' : Nat} {v : Int32} (h : t' ≠ t) : su s t i k v t' = s t' := funext fun _ => funext fun _ => su_t h
theorem R7.l {F n4 i k : Nat} {g : g_H} {s : Sg} {v : Int32} (r : R7 F g s n4) : R7 F (gPI g (F + 33 + i) k v) (su s 5 i k v) n4 := by
  intro j hj k' hk
  rw [gI_PI]
  by_cases e : j = i
  · subst e
    rw [if_pos rfl]
    by_cases e' : k' = k
    · subst e'; rw [if_pos rfl]; exact su_s.symm
    · rw [if_neg e', su_k e']; exact r j hj k' hk
  · rw [if_neg (by omega), su_i e]; exact r j hj k' hk
theorem R7.o {F n4 a k : Nat} {g : g_H} {s t : Sg} {v : Int32} (r : R7 F g s n4) (h : ∀ j, j < n4 → F + 33 + j ≠ a) (ht : t 5 = s 5) : R7 F (gPI g a k v) t n4 := by
  intro j hj k' hk
  rw [gI_PI, if_neg (h j hj), ht]; exact r j hj k' hk
def fld (k k' : Nat) : Prop := (k = 2 ∧ k' = 0) ∨ (k = 3 ∧ k' = 1) ∨ (k = 4 ∧ k' = 2) ∨ (k = 5 ∧ k' = 3) ∨ (k = 7 ∧ k' = 4) ∨ (k = 8 ∧ k' = 6) ∨ (k = 9 ∧ k' = 7)
theorem R3.b {a0 F n3 b k k' : Nat} {g : g_H} {s : Sg} {v : Int32} (r : R3 a0 F g s n3) (h : fld k k') : R3 a0 F (gPI g (F + 2 + 5 * b) k v) (su s 3 b k' v) n3 := by
  intro b' hb'
  obtain ⟨x1, x2, x3, x4, x5, x6, x7, x8, x9⟩ := r b' hb'
  by_cases e : b' = b
  · subst e
    rcases h with ⟨rfl, rfl⟩ | ⟨rfl, rfl⟩ | ⟨rfl, rfl⟩ | ⟨rfl, rfl⟩ | ⟨rfl, rfl⟩ | ⟨rfl, rfl⟩ | ⟨rfl, rfl⟩ <;> simp [gI_PI, gR_PI, su, x1, x2, x3, x4, x5, x6, x7, x8, x9]
  · have e1 : F + 2 + 5 * b' ≠ F + 2 + 5 * b := by omega
    simp only [gI_PI, gR_PI, if_neg e1, su_i e]
    exact ⟨x1, x2, x3, x4, x5, x6, x7, x8, x9⟩
theorem R3.c {a0 F n3 b : Nat} {g : g_H} {s : Sg} {v : Int32} (r : R3 a0 F g s n3) : R3 a0 F (gPI g (F + 2 + 5 * b) 6 v) s n3 := by
  intro b' hb'
  obtain ⟨x1, x2, x3, x4, x5, x6, x7, x8, x9⟩ := r b' hb'
  simp [gI_PI, gR_PI, x1, x2, x3, x4, x5, x6, x7, x8, x9]
theorem R3.o {a0 F n3 a k : Nat} {g : g_H} {s t : Sg} {v : Int32} (r : R3 a0 F g s n3) (h : ∀ b, b < n3 → F + 2 + 5 * b ≠ a) (ht : t 3 = s 3) : R3 a0 F (gPI g a k v) t n3 := by
  intro b hb
  simp only [gI_PI, gR_PI, if_neg (h b hb), ht]
  exact r b hb
theorem R2.o {F a k : Nat} {g : g_H} {s t : Sg} {v : Int32} (r : R2 F g s) (h : F ≠ a) (ht : t 0 = s 0) : R2 F (gPI g a k v) t := by
  unfold R2
  simp only [gI_PI, if_neg h, ht]
  exact r
theorem R2.c {F : Nat} {g : g_H} {s : Sg} {v : Int32} (r : R2 F g s) : R2 F (gPI g F 6 v) s := by
  unfold R2
  simp only [gI_PI]
  exact r
theorem clE {a0 F n1 n2 n3 n4 q b : Nat} {g : g_H} {s : Sg} (c : CI a0 F g s n1 n2 n3 n4 q) (hb : b < n3) {to : Int32} (ht : inR (nI n1) to) : f4_targetFor g (a0 + 46 + 5 * b) to = some (tg s b to, g) := by
  obtain ⟨⟨⟨w1, w2, -⟩, w3, w4, -⟩, ⟨-, -, -, r3, -, r5⟩, -⟩ := c
  rw [p_targetFor (r3 b (by omega))]
  obtain ⟨j, hj, rfl⟩ := inR_nat (by omega) ht
  have c1 : inR (14 : Int32) (nI j) := inR_of (n := 14) (by omega) (by omega)
  rw [if_pos c1, show cl (nI j) = j from cl_nI (by omega), show a0 + 46 + 5 * b + 3 = a0 + 49 + 5 * b by omega]
  rw [(r5 b hb).2.2.2 j (by omega)]
theorem clB {a0 F n1 n2 n3 n4 q b : Nat} {g : g_H} {s : Sg} (c : CI a0 F g s n1 n2 n3 n4 q) (hb : b < n3) : (gS g F).1 = 2 ∧ gI g F 4 = nI n4 ∧ gI g F 5 = s 0 0 0 ∧ gI g F 6 = arr s ∧ gR g F 0 = some (a0 + 1) ∧ gR g F 1 = some (F + 1) ∧ gR g F 2 = some (F + 32) ∧ gS g (F + 1) = (15, 6) ∧ gS g (F + 32) = (17, 20) ∧ gR g (F + 1) b = some (F + 2 + 5 * b) ∧ (gS g (F + 2 + 5 * b)).1 = 1 ∧
    gR g (F + 2 + 5 * b) 1 = some (a0 + 46 + 5 * b) ∧ gI g (F + 2 + 5 * b) 0 = nI b ∧ gI g (F + 2 + 5 * b) 6 = car s b ∧ RtL (a0 + 46 + 5 * b) g ∧ (gS g (a0 + 46 + 5 * b)).1 = 5 ∧ (gS g (a0 + 1)).1 = 6 ∧ n3 ≤ 6 ∧ n4 ≤ 20 ∧ (F = a0 + 43 ∨ F = a0 + 96) := by
  obtain ⟨⟨w1, w2, w3, w4, w5, w6, w7, w8, w9⟩, ⟨r0, ⟨t1, -⟩, ⟨f1, f2, f3, f4, f5, f6, f7, f8⟩, r3, r4, r5⟩, ⟨d1, d2, d3, d4, d5⟩⟩ := c
  obtain ⟨x1, x2, x3, x4, x5, x6, x7, x8, x9⟩ := d2 b hb
  exact ⟨f1, d1.2.1.trans w4, d1.2.2, d4, f2, f3, f4, f5, f6, (f7 b (by omega)).1, (f7 b (by omega)).2, x1, x2, d3 b hb, r3 b (by omega), (r3 b (by omega)).1, t1, w3, w5, r0⟩
theorem clL {a0 F n1 n2 n3 n4 q i : Nat} {g : g_H} {s : Sg} (c : CI a0 F g s n1 n2 n3 n4 q) (hi : i < n4) : gR g (F + 32) i = some (F + 33 + i) ∧ (gS g (F + 33 + i)).1 = 4 ∧ ∀ k, k < 5 → gI g (F + 33 + i) k = s 5 i k := by
  obtain ⟨⟨w1, w2, w3, w4, w5, w6, w7, w8, w9⟩, ⟨r0, r1, ⟨f1, f2, f3, f4, f5, f6, f7, f8⟩, r3, r4, r5⟩, ⟨d1, d2, d3, d4, d5⟩⟩ := c
  exact ⟨(f8 i (by omega)).1, (f8 i (by omega)).2, d5 i hi⟩
theorem WF.lay {s : Sg} {n1 n2 n3 n4 q b i : Nat} {here : Int32} (w : WF s n1 n2 n3 n4 q) (hb : b < n3) (hi : i < n4) (h : s 5 i 2 = nI b) (hc : ¬ car s b ≤ 0) (hh : inR (nI n1) here) : WF (layS s i here) n1 n2 n3 n4 q := by
  obtain ⟨w1, w2, w3, w4, w5, w6, w7, w8, w9⟩ := w
  have hs := layS_same (s := s) (i := i) (here := here)
  refine ⟨w1.same hs, (hs.1 3 (by omega)).trans w2, w3, (hs.1 4 (by omega)).trans w4, w5, ?_, w7, fun b' hb' => ?_, fun j hj => ?_⟩
  · rw [← w6]; simp [layS, su]
  · obtain ⟨wb, c, hc3, hcc⟩ := w8 b' hb'
    refine ⟨?_, ?_⟩
    · obtain ⟨z, p, l, st, ho, e1, e2, e3, e4, e5, e6, e7, e8, e9, e10, e11, e12, e13, e14, e15⟩ := wb
      refine WB.keep hs ⟨z, p, l, st, ho, e1, e2, e3, e4, e5, e6, e7, e8, e9, e10, e11, e12, e13, e14, e15⟩ (by simp [layS, su]) (by simp [layS, su]) ⟨st, e9, by rw [← e8]; simp [layS, su]⟩ ⟨ho, e11, by rw [← e10]; simp [layS, su]⟩ (by simpa [layS, su] using e12) (by simpa [layS, su] using e13)
    · rw [layS_car w4 w5 (by omega) hi h b' (by omega)]
      by_cases e : b' = b
      · rw [if_pos e, ← e, hcc]
        have : 0 < c := by
          rcases Nat.eq_zero_or_pos c with z | z
          · exfalso; apply hc; rw [← e, hcc, z]; exact Int32.le_refl _
          · exact z
        exact ⟨c - 1, by omega, by rw [show c = (c - 1) + 1 by omega, nI_pred]; rfl⟩
      · rw [if_neg e]; exact ⟨c, hc3, hcc⟩
  · obtain ⟨l1, l2, l3, l4, l5⟩ := w9 j hj
    by_cases e : j = i
    · subst e
      have a1 := l4 (by rw [h]; exact nI_m1 (by omega))
      have x0 : layS s j here 5 j 0 = s 5 j 0 := by simp [layS, su]
      have x1 : layS s j here 5 j 1 = here := by simp [layS, su]
      have x2 : layS s j here 5 j 2 = -1 := by simp [layS, su]
      have x3 : layS s j here 5 j 3 = -1 := by rw [← a1.2]; simp [layS, su]
      unfold WL
      rw [x0, x1, x2, x3]
      exact ⟨l1, Or.inr hh, Or.inl rfl, fun q => absurd rfl q, fun q => absurd rfl q, Or.inl rfl⟩
    · have x : ∀ k, layS s i here 5 j k = s 5 j k := fun k => by simp [layS, su, e]
      unfold WL
      rw [x, x, x, x]
      exact ⟨l1, l2, l3, l4, l5⟩
theorem WF.take {s : Sg} {n1 n2 n3 n4 q b i : Nat} (w : WF s n1 n2 n3 n4 q) (hb : b < n3) (hi : i < n4) (h : s 5 i 1 ≠ -1) (hc : ¬ (3 : Int32) ≤ car s b) : WF (takeS s b i) n1 n2 n3 n4 q := by
  obtain ⟨w1, w2, w3, w4, w5, w6, w7, w8, w9⟩ := w
  have hs := takeS_same (s := s) (b := b) (i := i)
  have h2 : s 5 i 2 = -1 := by
    by_cases e : s 5 i 2 = -1
    · exact e
    · exact absurd ((w9 i hi).2.2.2.1 e).1 h
  have h3 : s 5 i 3 = -1 := by
    by_cases e : s 5 i 3 = -1
    · exact e
    · exact absurd ((w9 i hi).2.2.2.2.1 e).1 h
  refine ⟨w1.same hs, (hs.1 3 (by omega)).trans w2, w3, (hs.1 4 (by omega)).trans w4, w5, ?_, w7, fun b' hb' => ?_, fun j hj => ?_⟩
  · rw [← w6]; simp [takeS, su]
  · obtain ⟨wb, c, hc3, hcc⟩ := w8 b' hb'
    refine ⟨?_, ?_⟩
    · obtain ⟨z, p, l, st, ho, e1, e2, e3, e4, e5, e6, e7, e8, e9, e10, e11, e12, e13, e14, e15⟩ := wb
      refine WB.keep hs ⟨z, p, l, st, ho, e1, e2, e3, e4, e5, e6, e7, e8, e9, e10, e11, e12, e13, e14, e15⟩ (by simp [takeS, su]) (by simp [takeS, su]) ⟨st, e9, by rw [← e8]; simp [takeS, su]⟩ ⟨ho, e11, by rw [← e10]; simp [takeS, su]⟩ (by simpa [takeS, su] using e12) (by simpa [takeS, su] using e13)
    · rw [takeS_car w4 w5 (by omega) hi h2 b' (by omega)]
      by_cases e : b' = b
      · rw [if_pos e, ← e, hcc, nI_1]
        refine ⟨c + 1, ?_, rfl⟩
        rcases Nat.lt_or_ge c 3 with z | z
        · omega
        · exfalso; apply hc; rw [← e, hcc]; exact nI_le (a := 3) z (by omega)
      · rw [if_neg e]; exact ⟨c, hc3, hcc⟩
  · obtain ⟨l1, l2, l3, l4, l5⟩ := w9 j hj
    by_cases e : j = i
    · subst e
      have x0 : takeS s b j 5 j 0 = s 5 j 0 := by simp [takeS, su]
      have x1 : takeS s b j 5 j 1 = -1 := by simp [takeS, su]
      have x2 : takeS s b j 5 j 2 = nI b := by simp [takeS, su]
      have x3 : takeS s b j 5 j 3 = -1 := by rw [← h3]; simp [takeS, su]
      unfold WL
      rw [x0, x1, x2, x3]
      exact ⟨l1, Or.inl rfl, Or.inr ⟨b, hb, rfl⟩, fun _ => ⟨rfl, rfl⟩, fun q => absurd rfl q, Or.inl rfl⟩
    · have x : ∀ k, takeS s b i 5 j k = s 5 j k := fun k => by simp [takeS, su, e]
      unfold WL
      rw [x, x, x, x]
      exact ⟨l1, l2, l3, l4, l5⟩
