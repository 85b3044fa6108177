/-! PURE: the step on a lane -/
theorem c_laneP {a0 F n1 n2 n3 n4 q b : Nat} {g : g_H} {s : Sg} (c : CI a0 F g s n1 n2 n3 n4 q) (hb : b < n3) (l : ¬ s 3 b 1 ≤ 0) : CI a0 F (gPI g (F + 2 + 5 * b) 3 (s 3 b 1 - 1)) (su s 3 b 1 (s 3 b 1 - 1)) n1 n2 n3 n4 q := by
  obtain ⟨b1, b2, b3, b4, b5, b6, b7, b8, b9, b10, b11, b12, b13, b14, b15, b16, b17, b18, b19, b20⟩ := clB c hb
  have r1 := RD.bee (v := s 3 b 1 - 1) c.2.2 hb b18 b19 (show fld 3 1 by unfold fld; omega)
  have hS : Same s (su s 3 b 1 (s 3 b 1 - 1)) := Same.b (by omega)
  refine c.step (putB (by omega)) hS ?_ r1
  refine c.1.bee hS su3_5 su3_0 hb (fun b' h' => su3_o h') ?_
  obtain ⟨z, p, l', st, ho, e1, e2, e3, e4, e5, e6, e7, e8, e9, e10, e11, e12, e13, e14, e15⟩ := c.wb hb
  have hl0 : 0 < l' := by
    rcases Nat.eq_zero_or_pos l' with k | k
    · exfalso; apply l; rw [e6, k]; decide
    · exact k
  have s4 : (su s 3 b 1 (s 3 b 1 - 1)) 4 = s 4 := su_T (by omega)
  refine ⟨z, p, l' - 1, st, ho, ?_, e2, e3, ?_, e5, ?_, by omega, ?_, e9, ?_, e11, ?_, ?_, ?_, ?_⟩
  · rw [← e1]; simp [su]
  · rw [← e4]; simp [su]
  · rw [su_s, e6, show (1 : Int32) = nI 1 from rfl, nI_sub hl0]
  · rw [← e8]; simp [su]
  · rw [← e10]; simp [su]
  · simpa [su] using e12
  · simpa [su] using e13
  · rw [s4]; exact e14
  · intro k hk
    rw [s4, hS.slE]
    exact e15 k hk
theorem c_lane {a0 F n1 n2 n3 n4 q b : Nat} {g : g_H} {s : Sg} (c : CI a0 F g s n1 n2 n3 n4 q) (hb : b < n3) (l : ¬ s 3 b 1 ≤ 0) : ∃ g', CI a0 F g' (su s 3 b 1 (s 3 b 1 - 1)) n1 n2 n3 n4 q := ⟨_, c_laneP c hb l⟩
