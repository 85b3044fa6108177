/-! PURE: moving on, a quarter, quarters -/
theorem on_wy {s : Sg} {b k : Nat} {v : Int32} (hk : k ≠ 5) (x y : Int32) : sl (su s 3 b k v) x y = sl s x y := (Same.b (s := s) (i := b) (v := v) hk).slE x y
theorem p_nextLane {a0 F n1 n2 n3 n4 q b z : Nat} {g : g_H} {s : Sg} (c : CI a0 F g (su s 3 b 7 (onS s b)) n1 n2 n3 n4 q) (hb : b < n3) (wb : WB s n1 b) (h5 : s 3 b 5 = nI z) (hz : 2 ≤ z) (hz7 : z ≤ 7) :
    f0_nextLane g (F + 2 + 5 * b) = some (sl s (s 4 b (cl (s 3 b 0))) (s 4 b (cl (nextS s b))), g) ∧ sl s (s 4 b (cl (s 3 b 0))) (s 4 b (cl (nextS s b))) ≠ -1 := by
  obtain ⟨b1, b2, b3, b4, b5, b6, b7, b8, b9, b10, b11, b12, b13, b14, b15, b16, b17, b18, b19, b20⟩ := clB c hb
  obtain ⟨x1, x2, x3, x4, x5, x6, x7, x8⟩ := clC c hb
  obtain ⟨z', p, l, st, ho, e1, e2, e3, e4, e5, e6, e7, e8, e9, e10, e11, e12, e13, e14, e15⟩ := wb
  have hzz : z' = z := nI_inj (by omega) (by omega) (e1.symm.trans h5)
  subst hzz
  have y1 : (su s 3 b 7 (onS s b)) 3 b 0 = s 3 b 0 := su_k (by omega)
  have y5 : (su s 3 b 7 (onS s b)) 3 b 5 = s 3 b 5 := su_k (by omega)
  have y7 : (su s 3 b 7 (onS s b)) 3 b 7 = onS s b := su_s
  have y4 : (su s 3 b 7 (onS s b)) 4 = s 4 := su_T (by omega)
  rw [y1, e4] at x1
  rw [y5, h5] at x8
  rw [y7] at x7
  have r6 := (c.2.1.2.2.2.2.2 b hb).2.2.1
  rw [y5, h5, show cl (nI z') = z' from cl_nI (by omega), y4] at r6
  have sE : ∀ x y, sl (su s 3 b 7 (onS s b)) x y = sl s x y := on_wy (by omega)
  have cp : cl (nI p) = p := cl_nI (by omega)
  unfold f0_nextLane
  rw [if_pos b11, b12, ob_some, x7, x1]
  rcases onS_next h5 hz hz7 e4 e5 e13 with ⟨o1, o2, o3⟩ | ⟨o1, o2, o3⟩
  · obtain ⟨y, rfl⟩ : ∃ y, p = y + 1 := ⟨p - 1, by omega⟩
    have cy : cl (nI y) = y := cl_nI (by omega)
    rw [o1, if_pos rfl, if_pos b16, nI_pred, p_laneAt b15 x8 hz7, if_pos (inR_of (by omega) (by omega)), gB2_some, o3, e4, cp, show y + 1 - 1 = y from rfl, cy, show a0 + 46 + 5 * b + 2 = a0 + 48 + 5 * b by omega, r6 y (by omega), sE, sl_comm]
    exact ⟨rfl, by rw [sl_comm]; exact e15 y (by omega)⟩
  · have cy : cl (nI (p + 1)) = p + 1 := cl_nI (by omega)
    rw [o1, if_neg n10, if_pos b16, p_laneAt b15 x8 hz7, if_pos (inR_of (by omega) (by omega)), gB2_some, o3, e4, cp, cy, show a0 + 46 + 5 * b + 2 = a0 + 48 + 5 * b by omega, r6 p (by omega), sE]
    exact ⟨rfl, e15 p (by omega)⟩
theorem nI_sub {a b : Nat} (h : b ≤ a) : nI a - nI b = nI (a - b) := by
  obtain ⟨c, rfl⟩ : ∃ c, a = c + b := ⟨a - b, by omega⟩
  rw [← nI_add, Int32.add_sub_cancel, show c + b - b = c by omega]
theorem p_fly {a0 F n1 n2 n3 n4 q b z j : Nat} {g : g_H} {s : Sg} (c : CI a0 F g (su s 3 b 7 (onS s b)) n1 n2 n3 n4 q) (hb : b < n3) (wb : WB s n1 b) (h5 : s 3 b 5 = nI z) (hz : 2 ≤ z) (hz7 : z ≤ 7) (hj : j < n2) (hl : sl s (s 4 b (cl (s 3 b 0))) (s 4 b (cl (nextS s b))) = nI j) {op : Int32} (hop : op = 0 ∨ op = 1) (ho : op = 1 ↔ opS s j) :
    ∃ g', f0_flyOrStay g (F + 2 + 5 * b) op (s 2 j 2) = some g' ∧ Fr F g g' ∧ CI a0 F g' (flyS s b (s 4 b (cl (s 3 b 0)))) n1 n2 n3 n4 q := by
  obtain ⟨b1, b2, b3, b4, b5, b6, b7, b8, b9, b10, b11, b12, b13, b14, b15, b16, b17, b18, b19, b20⟩ := clB c hb
  obtain ⟨x1, x2, x3, x4, x5, x6, x7, x8⟩ := clC c hb
  obtain ⟨z', p, l, st, hon, e1, e2, e3, e4, e5, e6, e7, e8, e9, e10, e11, e12, e13, e14, e15⟩ := wb
  have hzz : z' = z := nI_inj (by omega) (by omega) (e1.symm.trans h5)
  subst hzz
  have wt := c.1.1
  have s2 : (su s 3 b 7 (onS s b)) 2 = s 2 := su_T (by omega)
  obtain ⟨-, -, -, -, wl, -⟩ := wt
  rw [s2] at wl
  obtain ⟨-, -, -, ⟨d, d1, d6, hd⟩, -⟩ := wl j hj
  have cj : cl (nI j) = j := cl_nI (by have := c.1.1.2.2.2.1; omega)
  have y1 : (su s 3 b 7 (onS s b)) 3 b 0 = s 3 b 0 := su_k (by omega)
  have y2 : (su s 3 b 7 (onS s b)) 3 b 2 = s 3 b 2 := su_k (by omega)
  have y7 : (su s 3 b 7 (onS s b)) 3 b 7 = onS s b := su_s
  rw [y1] at x1
  rw [y2] at x3
  rw [y7] at x7
  have h01 := onS_01 e13
  have hflyN : (¬ ((¬ hourS s < s 2 j 3 ∧ ¬ s 2 j 4 ≤ hourS s) ∧ ¬ s 3 b 2 < s 2 j 2)) → flyS s b (s 4 b (cl (s 3 b 0))) = su (su s 3 b 7 (onS s b)) 3 b 2 (strong (s 3 b 2 + 1)) := by
    intro h
    unfold flyS
    simp only [hl, cj]
    rw [if_neg h]
  have hflyP : ((¬ hourS s < s 2 j 3 ∧ ¬ s 2 j 4 ≤ hourS s) ∧ ¬ s 3 b 2 < s 2 j 2) → flyS s b (s 4 b (cl (s 3 b 0))) = su (su (su (su s 3 b 7 (onS s b)) 3 b 2 (s 3 b 2 - s 2 j 2)) 3 b 1 (s 2 j 2)) 3 b 0 (nextS s b) := by
    intro h
    unfold flyS
    simp only [hl, cj]
    rw [if_pos h]
  have hstay : flyS s b (s 4 b (cl (s 3 b 0))) = su (su s 3 b 7 (onS s b)) 3 b 2 (strong (s 3 b 2 + 1)) → ∃ g', f0_flyOrStay_51 g (F + 2 + 5 * b) = some g' ∧ Fr F g g' ∧ CI a0 F g' (flyS s b (s 4 b (cl (s 3 b 0)))) n1 n2 n3 n4 q := by
    intro h
    rw [h]
    unfold f0_flyOrStay_51
    rw [if_pos b11, p_addStrength b11, x3, ob_some]
    have hS : Same (su s 3 b 7 (onS s b)) (su (su s 3 b 7 (onS s b)) 3 b 2 (strong (s 3 b 2 + 1))) := Same.b (by omega)
    refine ⟨_, rfl, putB (by omega), c.step (putB (by omega)) hS ?_ (RD.bee c.2.2 hb b18 b19 (show fld 4 2 by unfold fld; omega))⟩
    refine c.1.bee hS su3_5 su3_0 hb (fun b' h' => su3_o h') ?_
    have hst := strong_nI (n := st + 1) (by omega)
    refine WB.keep hS (c.wb hb) (by simp [su]) (by simp [su]) ⟨_, hst.2, ?_⟩ ⟨hon, e11, by rw [← e10]; simp [su]⟩ (by simpa [su] using e12) (by simpa [su] using h01)
    rw [← hst.1, ← nI_1, ← e8]
    simp [su]
  unfold f0_flyOrStay
  by_cases o0 : op = 0
  · rw [if_pos o0]
    exact hstay (hflyN fun h => by
      have := ho.mpr h.1
      rw [o0] at this
      exact absurd this (by decide))
  · rw [if_neg o0, if_pos b11, x3]
    have o1 : op = 1 := hop.resolve_left o0
    have hopen := ho.mp o1
    by_cases hlt : s 3 b 2 < s 2 j 2
    · rw [if_pos hlt]
      exact hstay (hflyN fun h => h.2 hlt)
    · rw [if_neg hlt, hflyP ⟨hopen, hlt⟩]
      have hds : d ≤ st := by
        rcases Nat.lt_or_ge st d with k | k
        · exfalso; apply hlt; rw [e8, hd]; exact nI_lt k (by omega)
        · exact k
      have z9 : gI (gPI (gPI g (F + 2 + 5 * b) 4 (s 3 b 2 - s 2 j 2)) (F + 2 + 5 * b) 3 (s 2 j 2)) (F + 2 + 5 * b) 9 = onS s b := by rw [← x7]; simp [gI_PI]
      have z2 : gI (gPI (gPI g (F + 2 + 5 * b) 4 (s 3 b 2 - s 2 j 2)) (F + 2 + 5 * b) 3 (s 2 j 2)) (F + 2 + 5 * b) 2 = s 3 b 0 := by rw [← x1]; simp [gI_PI]
      rw [z9, z2]
      have hS : Same (su s 3 b 7 (onS s b)) (su (su (su (su s 3 b 7 (onS s b)) 3 b 2 (s 3 b 2 - s 2 j 2)) 3 b 1 (s 2 j 2)) 3 b 0 (nextS s b)) := ((Same.b (by omega)).tr (Same.b (by omega))).tr (Same.b (by omega))
      have r1 := RD.bee (v := s 3 b 2 - s 2 j 2) c.2.2 hb b18 b19 (show fld 4 2 by unfold fld; omega)
      have r2 := RD.bee (v := s 2 j 2) r1 hb b18 b19 (show fld 3 1 by unfold fld; omega)
      have r3 := RD.bee (v := nextS s b) r2 hb b18 b19 (show fld 2 0 by unfold fld; omega)
      have hfr : Fr F g (gPI (gPI (gPI g (F + 2 + 5 * b) 4 (s 3 b 2 - s 2 j 2)) (F + 2 + 5 * b) 3 (s 2 j 2)) (F + 2 + 5 * b) 2 (nextS s b)) := ((putB (by omega)).tr (putB (by omega))).tr (putB (by omega))
      have hw : WF (su (su (su (su s 3 b 7 (onS s b)) 3 b 2 (s 3 b 2 - s 2 j 2)) 3 b 1 (s 2 j 2)) 3 b 0 (nextS s b)) n1 n2 n3 n4 q := by
        refine c.1.bee hS ((su3_5.trans su3_5).trans su3_5) ((su3_0.trans su3_0).trans su3_0) hb (fun b' h' => ((su3_o h').trans (su3_o h')).trans (su3_o h')) ?_
        have hnx : ∃ p', nextS s b = nI p' ∧ p' < z' := by
          rcases onS_next h5 hz hz7 e4 e5 e13 with ⟨o1, o2, o3⟩ | ⟨o1, o2, o3⟩
          · exact ⟨_, o3, by omega⟩
          · exact ⟨_, o3, o2⟩
        obtain ⟨p', hp1, hp2⟩ := hnx
        have s4 : (su (su (su (su s 3 b 7 (onS s b)) 3 b 2 (s 3 b 2 - s 2 j 2)) 3 b 1 (s 2 j 2)) 3 b 0 (nextS s b)) 4 = s 4 := (((su_T (by omega)).trans (su_T (by omega))).trans (su_T (by omega))).trans (su_T (by omega))
        refine ⟨z', p', d, st - d, hon, ?_, e2, e3, ?_, hp2, ?_, d6, ?_, by omega, ?_, e11, ?_, ?_, ?_, ?_⟩
        · rw [← h5]; simp [su]
        · rw [← hp1]; simp [su]
        · rw [← hd]; simp [su]
        · rw [← nI_sub hds, ← hd, ← e8]; simp [su]
        · rw [← e10]; simp [su]
        · simpa [su] using e12
        · simpa [su] using h01
        · rw [s4]; exact e14
        · intro k hk
          rw [s4, hS.slE, on_wy (by omega)]
          exact e15 k hk
      have hfin := c.step hfr hS hw r3
      by_cases on0 : onS s b = 0
      · rw [if_pos on0]
        have : nextS s b = s 3 b 0 + -1 := if_pos on0
        rw [this] at hfr hfin ⊢
        exact ⟨_, rfl, hfr, hfin⟩
      · rw [if_neg on0]
        have : nextS s b = s 3 b 0 + 1 := if_neg on0
        rw [this] at hfr hfin ⊢
        exact ⟨_, rfl, hfr, hfin⟩
