/-! PURE: quarters, and the copy of the flight -/
theorem p_quLoop {a0 F n1 n2 n3 n4 q : Nat} {s0 : Sg} :
    ∀ m b fuel : Nat, ∀ g : g_H, b + m = n3 → m < fuel → CI a0 F g (beeF s0 b) n1 n2 n3 n4 q → (gS g F).1 = 2 →
    ∃ g', f1_passQuarter_2 fuel g F (nI b) = some g' ∧ Fr F g g' ∧ CI a0 F g' (su (beeF s0 n3) 0 0 0 (beeF s0 n3 0 0 0 + 1)) n1 n2 n3 n4 (q + 1) ∨ q + 1 ≥ 2 ^ 26 := by
  intro m
  induction m with
  | zero =>
    intro b fuel g him hf c hk
    obtain ⟨fu, rfl⟩ : ∃ fu, fuel = fu + 1 := ⟨fuel - 1, by omega⟩
    have : b = n3 := by omega
    subst this
    by_cases hq : q + 1 ≥ 2 ^ 26
    · exact ⟨g, Or.inr hq⟩
    have e3 : gI g F 3 = nI b := c.2.2.1.1.trans c.1.2.1
    have e5 : gI g F 5 = beeF s0 b 0 0 0 := c.2.2.1.2.2
    have hS : Same (beeF s0 b) (su (beeF s0 b) 0 0 0 (beeF s0 b 0 0 0 + 1)) := Same.q
    have hfr : Fr F g (gPI g F 5 (beeF s0 b 0 0 0 + 1)) := Fr.put (Or.inl rfl) (Or.inr (by omega))
    have h5 : (su (beeF s0 b) 0 0 0 (beeF s0 b 0 0 0 + 1)) 5 = beeF s0 b 5 := su_T (by omega)
    have h3 : (su (beeF s0 b) 0 0 0 (beeF s0 b 0 0 0 + 1)) 3 = beeF s0 b 3 := su_T (by omega)
    have h04 : (su (beeF s0 b) 0 0 0 (beeF s0 b 0 0 0 + 1)) 0 0 4 = beeF s0 b 0 0 4 := su_k (by omega)
    have hcar : ∀ b', car (su (beeF s0 b) 0 0 0 (beeF s0 b 0 0 0 + 1)) b' = car (beeF s0 b) b' := fun b' => by
      unfold car
      rw [h04]; exact carF_5 h5
    refine ⟨_, Or.inl ⟨?_, hfr, c.step hfr hS ?_ ?_⟩⟩
    · show f1_passQuarter_2b _ g F (nI b) = _
      unfold f1_passQuarter_2b
      rw [if_pos hk, e3, if_pos (Int32.le_refl _), e5]
    · obtain ⟨w1, w2, w3, w4, w5, w6, w7, w8, w9⟩ := c.1
      refine ⟨w1.same hS, (hS.1 3 (by omega)).trans w2, w3, (hS.1 4 (by omega)).trans w4, w5, ?_, by omega, fun b' hb' => ?_, fun i hi => ?_⟩
      · rw [su_s, w6, nI_1]
      · obtain ⟨x, y⟩ := w8 b' hb'
        refine ⟨?_, by rw [hcar]; exact y⟩
        obtain ⟨z, p, l, st, ho', e1, e2, e3, e4, e5, e6, e7, e8, e9, e10, e11, e12, e13, e14, e15⟩ := x
        refine WB.keep hS ⟨z, p, l, st, ho', e1, e2, e3, e4, e5, e6, e7, e8, e9, e10, e11, e12, e13, e14, e15⟩ ?_ ?_ ⟨st, e9, ?_⟩ ⟨ho', e11, ?_⟩ ?_ ?_ <;> rw [h3] <;> assumption
      · unfold WL; rw [h5]; exact w9 i hi
    · obtain ⟨d1, d2, d3, d4, d5⟩ := c.2.2
      refine ⟨⟨?_, ?_, ?_⟩, R3.o d2 (fun b' _ => by omega) h3, fun b' hb' => ?_, ?_, R7.o d5 (fun j _ => by omega) h5⟩
      · rw [su_k (by omega)]; simpa [gI_PI] using d1.1
      · rw [su_k (by omega)]; simpa [gI_PI] using d1.2.1
      · rw [su_s]; simp [gI_PI]
      · rw [hcar, gI_PI, if_neg (by omega)]; exact d3 b' hb'
      · unfold R5 arr
        rw [h04, gI_PI, if_pos rfl, if_neg (by omega)]
        refine d4.trans ?_
        exact (arrF_keep fun i _ => by rw [h5]).symm
  | succ m ih =>
    intro b fuel g him hf c hk
    obtain ⟨fu, rfl⟩ : ∃ fu, fuel = fu + 1 := ⟨fuel - 1, by omega⟩
    obtain ⟨g1, x1, x2, x3⟩ := p_beeStep c (show b < n3 by omega)
    obtain ⟨g2, y⟩ := ih (b + 1) fu g1 (by omega) (by omega) x3 (by rw [x2.1]; exact hk)
    rcases y with ⟨y1, y2, y3⟩ | y
    · refine ⟨g2, Or.inl ⟨?_, x2.tr y2, y3⟩⟩
      show f1_passQuarter_2b (f1_passQuarter_2 fu) g F (nI b) = _
      rw [x1, nI_1]
      exact y1
    · exact ⟨g2, Or.inr y⟩
theorem CI.kF {a0 F n1 n2 n3 n4 q : Nat} {g : g_H} {s : Sg} (c : CI a0 F g s n1 n2 n3 n4 q) : (gS g F).1 = 2 := c.2.1.2.2.1.1
theorem p_quarter {a0 F n1 n2 n3 n4 q : Nat} {g : g_H} {s : Sg} (c : CI a0 F g s n1 n2 n3 n4 q) (hq : q + 1 < 2 ^ 26) :
    ∃ g', f1_passQuarter g F = some g' ∧ Fr F g g' ∧ CI a0 F g' (quS s) n1 n2 n3 n4 (q + 1) := by
  have h6 : n3 ≤ 6 := c.1.2.2.1
  have e3 : cl (s 0 0 3) = n3 := by rw [c.1.2.1]; exact cl_nI (by omega)
  obtain ⟨g', h⟩ := p_quLoop (s0 := s) n3 0 300 g (by omega) (by omega) c c.kF
  rcases h with ⟨x1, x2, x3⟩ | h
  · refine ⟨g', x1, x2, ?_⟩
    unfold quS
    simp only [e3]
    exact x3
  · omega
theorem p_qusLoop {a0 F n1 n2 n3 n4 q N : Nat} {s0 : Sg} (x2 : Int32) (hq : q + N < 2 ^ 26) :
    ∀ m k fuel : Nat, ∀ g : g_H, k + m = N → m < fuel → CI a0 F g (quF s0 k) n1 n2 n3 n4 (q + k) →
    ∃ g', f1_passQuarters_7 fuel g F (nI N) x2 (nI k) = some (arr (quF s0 N) - x2, g') ∧ Fr F g g' ∧ CI a0 F g' (quF s0 N) n1 n2 n3 n4 (q + N) := by
  intro m
  induction m with
  | zero =>
    intro k fuel g him hf c
    obtain ⟨fu, rfl⟩ : ∃ fu, fuel = fu + 1 := ⟨fuel - 1, by omega⟩
    have : k = N := by omega
    subst this
    refine ⟨g, ?_, Fr.rf, c⟩
    show f1_passQuarters_7b _ g F (nI k) x2 (nI k) = _
    unfold f1_passQuarters_7b
    have e6 : gI g F 6 = arr (quF s0 k) := c.2.2.2.2.2.1
    rw [if_pos (Int32.le_refl _), if_pos c.kF, e6]
  | succ m ih =>
    intro k fuel g him hf c
    obtain ⟨fu, rfl⟩ : ∃ fu, fuel = fu + 1 := ⟨fuel - 1, by omega⟩
    obtain ⟨g1, y1, y2, y3⟩ := p_quarter c (by omega)
    obtain ⟨g2, z1, z2, z3⟩ := ih (k + 1) fu g1 (by omega) (by omega) y3
    refine ⟨g2, ?_, y2.tr z2, z3⟩
    show f1_passQuarters_7b (f1_passQuarters_7 fu) g F (nI N) x2 (nI k) = _
    unfold f1_passQuarters_7b
    rw [if_neg (nI_ge (by omega) (by omega)), if_pos c.kF, y1, ob_some, nI_1]
    exact z1
theorem p_quarters {a0 F n1 n2 n3 n4 q N : Nat} {g : g_H} {s : Sg} (c : CI a0 F g s n1 n2 n3 n4 q) (hN : N < 300) (hq : q + N < 2 ^ 26) :
    ∃ g', f1_passQuarters g F (nI N) = some (arr (quF s N) - arr s, g') ∧ Fr F g g' ∧ CI a0 F g' (quF s N) n1 n2 n3 n4 (q + N) := by
  unfold f1_passQuarters
  have e6 : gI g F 6 = arr s := c.2.2.2.2.2.1
  rw [if_pos c.kF, e6]
  exact p_qusLoop (arr s) hq N 0 300 g (by omega) (by omega) c
