/-! PURE: moving on, the whole -/
theorem CI.wb {a0 F n1 n2 n3 n4 q b : Nat} {g : g_H} {s : Sg} (c : CI a0 F g s n1 n2 n3 n4 q) (hb : b < n3) : WB s n1 b := (c.1.2.2.2.2.2.2.2.1 b hb).1
theorem clC {a0 F n1 n2 n3 n4 q b : Nat} {g : g_H} {s : Sg} (c : CI a0 F g s n1 n2 n3 n4 q) (hb : b < n3) : gI g (F + 2 + 5 * b) 2 = s 3 b 0 ∧ gI g (F + 2 + 5 * b) 3 = s 3 b 1 ∧ gI g (F + 2 + 5 * b) 4 = s 3 b 2 ∧ gI g (F + 2 + 5 * b) 5 = s 3 b 3 ∧ gI g (F + 2 + 5 * b) 7 = s 3 b 4 ∧ gI g (F + 2 + 5 * b) 8 = s 3 b 6 ∧ gI g (F + 2 + 5 * b) 9 = s 3 b 7 ∧ gI g (a0 + 46 + 5 * b) 0 = s 3 b 5 :=
  ⟨(c.2.2.2.1 b hb).2.2.1, (c.2.2.2.1 b hb).2.2.2.1, (c.2.2.2.1 b hb).2.2.2.2.1, (c.2.2.2.1 b hb).2.2.2.2.2.1, (c.2.2.2.1 b hb).2.2.2.2.2.2.1, (c.2.2.2.1 b hb).2.2.2.2.2.2.2.1, (c.2.2.2.1 b hb).2.2.2.2.2.2.2.2, (c.2.1.2.2.2.2.2 b hb).1⟩
theorem su3_5 {s : Sg} {b k : Nat} {v : Int32} : (su s 3 b k v) 5 = s 5 := su_T (by omega)
theorem su3_0 {s : Sg} {b k : Nat} {v : Int32} : (su s 3 b k v) 0 = s 0 := su_T (by omega)
theorem su3_o {s : Sg} {b k b' : Nat} {v : Int32} (h : b' ≠ b) : (su s 3 b k v) 3 b' = s 3 b' := funext fun _ => su_i h
theorem chB {F b : Nat} (h : b < 6) : chg F (F + 2 + 5 * b) := Or.inr (Or.inl ⟨b, h, rfl⟩)
theorem putB {F b k : Nat} {g : g_H} {v : Int32} (h : b < 6) (h0 : k ≠ 0 := by omega) : Fr F g (gPI g (F + 2 + 5 * b) k v) := Fr.put (chB h) (Or.inl (by omega)) h0
theorem p_rest1 {a0 F n1 n2 n3 n4 q b : Nat} {g : g_H} {s : Sg} (c : CI a0 F g s n1 n2 n3 n4 q) (hb : b < n3) (h : ¬ s 3 b 4 = 0) (v : Int32) :
    ∃ g', f0_restsNow g (F + 2 + 5 * b) v = some (1, g') ∧ Fr F g g' ∧ CI a0 F g' (su (su s 3 b 2 (strong (s 3 b 2 + 3))) 3 b 4 (if (20 : Int32) ≤ strong (s 3 b 2 + 3) then 0 else 1)) n1 n2 n3 n4 q := by
  obtain ⟨b1, b2, b3, b4, b5, b6, b7, b8, b9, b10, b11, b12, b13, b14, b15, b16, b17, b18, b19, b20⟩ := clB c hb
  obtain ⟨x1, x2, x3, x4, x5, x6, x7, x8⟩ := clC c hb
  have wb := c.wb hb
  have hw : ∀ v4 : Int32, v4 = 0 ∨ v4 = 1 → WF (su (su s 3 b 2 (strong (s 3 b 2 + 3))) 3 b 4 v4) n1 n2 n3 n4 q := by
    intro v4 hv
    have hs : Same s (su (su s 3 b 2 (strong (s 3 b 2 + 3))) 3 b 4 v4) := (Same.b (by omega)).tr (Same.b (by omega))
    refine c.1.bee hs (su3_5.trans su3_5) (su3_0.trans su3_0) hb (fun b' h' => (su3_o h').trans (su3_o h')) ?_
    obtain ⟨z, p, l, st, ho, e1, e2, e3, e4, e5, e6, e7, e8, e9, e10, e11, e12, e13, e14, e15⟩ := wb
    have hst := strong_nI (n := st + 3) (by omega)
    refine WB.keep hs ⟨z, p, l, st, ho, e1, e2, e3, e4, e5, e6, e7, e8, e9, e10, e11, e12, e13, e14, e15⟩ (by simp [su]) (by simp [su]) ⟨_, hst.2, ?_⟩ ⟨ho, e11, by rw [← e10]; simp [su]⟩ (by simpa [su] using hv) (by simpa [su] using e13)
    rw [← hst.1, ← nI_add, ← e8]
    simp [su]
    rfl
  have r1 := RD.bee (v := strong (s 3 b 2 + 3)) c.2.2 hb b18 b19 (show fld 4 2 by unfold fld; omega)
  unfold f0_restsNow
  rw [if_pos b11, x5, if_neg h, p_addStrength b11, x3, ob_some, gS_PI, if_pos b11]
  have e4 : gI (gPI g (F + 2 + 5 * b) 4 (strong (s 3 b 2 + 3))) (F + 2 + 5 * b) 4 = strong (s 3 b 2 + 3) := by simp [gI_PI]
  rw [e4]
  by_cases k : (20 : Int32) ≤ strong (s 3 b 2 + 3)
  · rw [if_pos k, if_pos k]
    exact ⟨_, rfl, (putB (by omega)).tr (putB (by omega)), c.step ((putB (by omega)).tr (putB (by omega))) ((Same.b (by omega)).tr (Same.b (by omega))) (hw 0 (Or.inl rfl)) (RD.bee r1 hb b18 b19 (show fld 7 4 by unfold fld; omega))⟩
  · rw [if_neg k, if_neg k]
    exact ⟨_, rfl, (putB (by omega)).tr (putB (by omega)), c.step ((putB (by omega)).tr (putB (by omega))) ((Same.b (by omega)).tr (Same.b (by omega))) (hw 1 (Or.inr rfl)) (RD.bee r1 hb b18 b19 (show fld 7 4 by unfold fld; omega))⟩
theorem p_rest2 {a0 F n1 n2 n3 n4 q b : Nat} {g : g_H} {s : Sg} (c : CI a0 F g s n1 n2 n3 n4 q) (hb : b < n3) (h : s 3 b 4 = 0) {v : Int32} (hv : ¬ v = 0) (hs : ¬ (10 : Int32) ≤ s 3 b 2) :
    ∃ g', f0_restsNow g (F + 2 + 5 * b) v = some (1, g') ∧ Fr F g g' ∧ CI a0 F g' (su s 3 b 4 1) n1 n2 n3 n4 q := by
  obtain ⟨b1, b2, b3, b4, b5, b6, b7, b8, b9, b10, b11, b12, b13, b14, b15, b16, b17, b18, b19, b20⟩ := clB c hb
  obtain ⟨x1, x2, x3, x4, x5, x6, x7, x8⟩ := clC c hb
  obtain ⟨z, p, l, st, ho, e1, e2, e3, e4, e5, e6, e7, e8, e9, e10, e11, e12, e13, e14, e15⟩ := c.wb hb
  have hS : Same s (su s 3 b 4 1) := Same.b (by omega)
  have e7 : gI (gPI g (F + 2 + 5 * b) 7 1) (F + 2 + 5 * b) 7 = 1 := by simp [gI_PI]
  unfold f0_restsNow
  rw [if_pos b11, x5, if_pos h, if_neg hv, x3, if_neg hs, e7, if_pos (Or.inr rfl)]
  refine ⟨_, rfl, putB (by omega), c.step (putB (by omega)) hS ?_ (RD.bee c.2.2 hb b18 b19 (show fld 7 4 by unfold fld; omega))⟩
  refine c.1.bee hS su3_5 su3_0 hb (fun b' h' => su3_o h') ?_
  exact WB.keep hS (c.wb hb) (by simp [su]) (by simp [su]) ⟨st, e9, by rw [← e8]; simp [su]⟩ ⟨ho, e11, by rw [← e10]; simp [su]⟩ (by simp [su]) (by simpa [su] using e13)
theorem p_rest3 {a0 F n1 n2 n3 n4 q b : Nat} {g : g_H} {s : Sg} (c : CI a0 F g s n1 n2 n3 n4 q) (hb : b < n3) (h : s 3 b 4 = 0) {v : Int32} (hv : v = 0 ∨ (10 : Int32) ≤ s 3 b 2) :
    ∃ g', f0_restsNow g (F + 2 + 5 * b) v = some (0, g') ∧ Fr F g g' ∧ CI a0 F g' s n1 n2 n3 n4 q := by
  obtain ⟨b1, b2, b3, b4, b5, b6, b7, b8, b9, b10, b11, b12, b13, b14, b15, b16, b17, b18, b19, b20⟩ := clB c hb
  obtain ⟨x1, x2, x3, x4, x5, x6, x7, x8⟩ := clC c hb
  have e7 : gI (gPI g (F + 2 + 5 * b) 7 0) (F + 2 + 5 * b) 7 = 0 := by simp [gI_PI]
  have r1 := RD.bee (v := 0) c.2.2 hb b18 b19 (show fld 7 4 by unfold fld; omega)
  rw [← h, su_self, h] at r1
  refine ⟨gPI g (F + 2 + 5 * b) 7 0, ?_, putB (by omega), c.step (putB (by omega)) Same.rf c.1 r1⟩
  unfold f0_restsNow
  rw [if_pos b11, x5, if_pos h, x3, e7, if_pos (Or.inl rfl)]
  rcases hv with hv | hv
  · rw [if_pos hv]
  · rw [if_pos hv]
    split <;> rfl
theorem onS_01 {s : Sg} {b : Nat} (h : s 3 b 7 = 0 ∨ s 3 b 7 = 1) : onS s b = 0 ∨ onS s b = 1 := by
  unfold onS
  rcases h with h | h
  · rw [h]
    by_cases e : s 3 b 0 = (if (0 : Int32) = 0 then 0 else s 3 b 5 - 1)
    · rw [if_pos e]; exact Or.inr (if_pos rfl)
    · rw [if_neg e]; exact Or.inl rfl
  · rw [h]
    by_cases e : s 3 b 0 = (if (1 : Int32) = 0 then 0 else s 3 b 5 - 1)
    · rw [if_pos e]; exact Or.inl (if_neg n10)
    · rw [if_neg e]; exact Or.inr rfl
theorem p_turn {a0 F n1 n2 n3 n4 q b : Nat} {g : g_H} {s : Sg} (c : CI a0 F g s n1 n2 n3 n4 q) (hb : b < n3) :
    ∃ g', f0_turnAtEnd g (F + 2 + 5 * b) = some g' ∧ Fr F g g' ∧ CI a0 F g' (su s 3 b 7 (onS s b)) n1 n2 n3 n4 q := by
  obtain ⟨b1, b2, b3, b4, b5, b6, b7, b8, b9, b10, b11, b12, b13, b14, b15, b16, b17, b18, b19, b20⟩ := clB c hb
  obtain ⟨x1, x2, x3, x4, x5, x6, x7, x8⟩ := clC c hb
  obtain ⟨z, p, l, st, ho, e1, e2, e3, e4, e5, e6, e7, e8, e9, e10, e11, e12, e13, e14, e15⟩ := c.wb hb
  have hS : ∀ v : Int32, Same s (su s 3 b 7 v) := fun v => Same.b (by omega)
  have hw : ∀ v : Int32, v = 0 ∨ v = 1 → CI a0 F (gPI g (F + 2 + 5 * b) 9 v) (su s 3 b 7 v) n1 n2 n3 n4 q := by
    intro v hv
    refine c.step (putB (by omega)) (hS v) ?_ (RD.bee c.2.2 hb b18 b19 (show fld 9 7 by unfold fld; omega))
    refine c.1.bee (hS v) su3_5 su3_0 hb (fun b' h' => su3_o h') ?_
    exact WB.keep (hS v) (c.wb hb) (by simp [su]) (by simp [su]) ⟨st, e9, by rw [← e8]; simp [su]⟩ ⟨ho, e11, by rw [← e10]; simp [su]⟩ (by simpa [su] using e12) (by simpa [su] using hv)
  unfold f0_turnAtEnd onS
  rw [if_pos b11, x7]
  by_cases h : s 3 b 7 = 0
  · rw [if_pos h, if_pos h, if_pos h]
    unfold f0_turnAtEnd_20
    rw [if_pos b11, x1, x7]
    by_cases h' : s 3 b 0 = 0
    · rw [if_pos h', if_pos h', if_pos h]
      exact ⟨_, rfl, putB (by omega), hw 1 (Or.inr rfl)⟩
    · rw [if_neg h', if_neg h', su_self]
      exact ⟨g, rfl, Fr.rf, c⟩
  · rw [if_neg h, if_neg h, if_neg h, b12, ob_some, if_pos b16, p_length b16, gB2_some]
    unfold f0_turnAtEnd_20
    rw [if_pos b11, x1, x7, x8]
    by_cases h' : s 3 b 0 = s 3 b 5 - 1
    · rw [if_pos h', if_pos h', if_neg h]
      exact ⟨_, rfl, putB (by omega), hw 0 (Or.inl rfl)⟩
    · rw [if_neg h', if_neg h', su_self]
      exact ⟨g, rfl, Fr.rf, c⟩
/-- where it flies next -/
theorem onS_next {s : Sg} {b z p : Nat} (h5 : s 3 b 5 = nI z) (hz : 2 ≤ z) (hz7 : z ≤ 7) (h0 : s 3 b 0 = nI p) (hp : p < z) (h7 : s 3 b 7 = 0 ∨ s 3 b 7 = 1) : (onS s b = 0 ∧ 1 ≤ p ∧ nextS s b = nI (p - 1)) ∨ (onS s b = 1 ∧ p + 1 < z ∧ nextS s b = nI (p + 1)) := by
  have ep : ∀ m, m < 2 ^ 31 → (nI p = nI m ↔ p = m) := fun m hm => nI_eq (by omega) hm
  have ez : nI z - 1 = nI (z - 1) := by
    obtain ⟨y, rfl⟩ : ∃ y, z = y + 1 := ⟨z - 1, by omega⟩
    rw [nI_pred]; rfl
  have m1 : 1 ≤ p → nI p + -1 = nI (p - 1) := by
    intro h
    obtain ⟨y, rfl⟩ : ∃ y, p = y + 1 := ⟨p - 1, by omega⟩
    rw [pk_m1]; rfl
  unfold nextS onS
  rw [h5, h0, ez]
  rcases h7 with h | h
  · rw [h]
    simp only [if_true]
    by_cases e : nI p = 0
    · have hp0 : p = 0 := (ep 0 (by omega)).mp (e.trans nI_0.symm)
      rw [if_pos e, if_neg n10]
      exact Or.inr ⟨rfl, by omega, nI_1 p⟩
    · have hp1 : 1 ≤ p := by
        rcases Nat.eq_zero_or_pos p with q | q
        · exact absurd (by rw [q]; exact nI_0) e
        · exact q
      rw [if_neg e, if_pos rfl]
      exact Or.inl ⟨rfl, hp1, m1 hp1⟩
  · rw [h]
    simp only [if_neg n10]
    by_cases e : nI p = nI (z - 1)
    · have hp0 := (ep (z - 1) (by omega)).mp e
      rw [if_pos e, if_pos rfl]
      exact Or.inl ⟨rfl, by omega, m1 (by omega)⟩
    · have : p ≠ z - 1 := fun q => e (by rw [q])
      rw [if_neg e, if_neg n10]
      exact Or.inr ⟨rfl, by omega, nI_1 p⟩
