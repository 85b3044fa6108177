/-! PURE: the class's flight holds the table; a letter handed over, laid down, taken -/
def CI (a0 F : Nat) (g : g_H) (s : Sg) (n1 n2 n3 n4 q : Nat) : Prop := WF s n1 n2 n3 n4 q ∧ RS a0 F g s n2 n3 ∧ RD a0 F g s n3 n4
theorem clip_nI {n : Nat} (h : n ≤ 21) : clip (nI n) = nI (if n < 20 then n else 20) ∧ (if n < 20 then n else 20) ≤ 20 := by
  refine ⟨?_, by split <;> omega⟩
  unfold clip
  by_cases c : n < 20
  · have c1 : nI n < (20 : Int32) := nI_lt (b := 20) c (by omega)
    rw [if_pos c1, if_pos c]
    by_cases z : (0 : Int32) < nI n
    · rw [if_pos z]
    · rw [if_neg z]
      have : ¬ 0 < n := fun q => z (nI_lt (a := 0) q (by omega))
      rw [show n = 0 by omega]
      rfl
  · have c1 : ¬ nI n < (20 : Int32) := nI_nlt (a := n) (b := 20) (by omega) (by omega)
    rw [if_neg c1, if_neg c]
    rfl
theorem strong_nI {n : Nat} (h : n ≤ 40) : strong (nI n) = nI (if n < 30 then n else 30) ∧ (if n < 30 then n else 30) ≤ 30 := by
  refine ⟨?_, by split <;> omega⟩
  unfold strong
  by_cases c : n < 30
  · have c1 : nI n < (30 : Int32) := nI_lt (b := 30) c (by omega)
    rw [if_pos c1, if_pos c]
  · have c1 : ¬ nI n < (30 : Int32) := nI_nlt (a := n) (b := 30) (by omega) (by omega)
    rw [if_neg c1, if_neg c]
    rfl
theorem car_def {s : Sg} {n4 : Nat} (h : s 0 0 4 = nI n4) (h2 : n4 ≤ 20) (b : Nat) : car s b = carF s b n4 := by
  unfold car
  rw [h, show cl (nI n4) = n4 from cl_nI (by omega)]
theorem arr_def {s : Sg} {n4 : Nat} (h : s 0 0 4 = nI n4) (h2 : n4 ≤ 20) : arr s = arrF s n4 := by
  unfold arr
  rw [h, show cl (nI n4) = n4 from cl_nI (by omega)]
/-- what of a bee stays when its route and place stay -/
theorem WB.keep {s t : Sg} {n1 b : Nat} (h : Same s t) (w : WB s n1 b) (h0 : t 3 b 0 = s 3 b 0) (h1 : t 3 b 1 = s 3 b 1) (h2 : ∃ st, st ≤ 30 ∧ t 3 b 2 = nI st) (h3 : ∃ ho, ho ≤ 20 ∧ t 3 b 3 = nI ho) (h4 : t 3 b 4 = 0 ∨ t 3 b 4 = 1) (h7 : t 3 b 7 = 0 ∨ t 3 b 7 = 1) : WB t n1 b := by
  obtain ⟨z, p, l, st, ho, w1, w2, w3, w4, w5, w6, w7, w8, w9, w10, w11, w12, w13, w14, w15⟩ := w
  obtain ⟨st', q1, q2⟩ := h2
  obtain ⟨ho', q3, q4⟩ := h3
  refine ⟨z, p, l, st', ho', (h.2.2.2.2.2 b).trans w1, w2, w3, h0.trans w4, w5, h1.trans w6, w7, q2, q1, q4, q3, h4, h7, ?_, ?_⟩
  · rw [h.2.2.2.1]; exact w14
  · rw [h.2.2.2.1]
    intro k hk
    rw [h.slE]
    exact w15 k hk
def delS (s : Sg) (b i : Nat) : Sg := su (su (su (su s 5 i 2 (-1)) 5 i 3 (s 0 0 0)) 3 b 6 (s 3 b 6 + 1)) 3 b 3 (clip (s 3 b 3 + 1))
theorem delS_same {s : Sg} {b i : Nat} : Same s (delS s b i) := ((Same.l.tr Same.l).tr (Same.b (by omega))).tr (Same.b (by omega))
def layS (s : Sg) (i : Nat) (here : Int32) : Sg := su (su s 5 i 2 (-1)) 5 i 1 here
theorem layS_same {s : Sg} {i : Nat} {here : Int32} : Same s (layS s i here) := Same.l.tr Same.l
theorem takeS_same {s : Sg} {b i : Nat} : Same s (takeS s b i) := (Same.l.tr Same.l).tr Same.l
theorem delS_car {s : Sg} {b i n4 : Nat} (hn4 : s 0 0 4 = nI n4) (h20 : n4 ≤ 20) (hb : b < 6) (hi : i < n4) (h : s 5 i 2 = nI b) (b' : Nat) (hb' : b' < 6) : car (delS s b i) b' = if b' = b then car s b - 1 else car s b' := by
  have e4 : (delS s b i) 0 0 4 = nI n4 := (delS_same.1 4 (by omega)).trans hn4
  rw [car_def e4 h20, car_def hn4 h20, car_def hn4 h20]
  have ho : ∀ j, j ≠ i → (delS s b i) 5 j 2 = s 5 j 2 := fun j hj => by simp [delS, su, hj]
  have hs : (delS s b i) 5 i 2 = -1 := by simp [delS, su]
  by_cases e : b' = b
  · rw [if_pos e, e]
    exact carF_less hi h (by rw [hs]; exact (nI_m1 (by omega)).symm) (fun j _ hj => ho j hj)
  · rw [if_neg e]
    refine carF_iff fun j hj => ?_
    by_cases ej : j = i
    · rw [ej, hs, h]
      exact ⟨fun q => absurd q.symm (nI_m1 (by omega)), fun q => absurd (nI_inj (by omega) (by omega) q).symm e⟩
    · rw [ho j ej]
theorem layS_car {s : Sg} {b i n4 : Nat} {here : Int32} (hn4 : s 0 0 4 = nI n4) (h20 : n4 ≤ 20) (hb : b < 6) (hi : i < n4) (h : s 5 i 2 = nI b) (b' : Nat) (hb' : b' < 6) : car (layS s i here) b' = if b' = b then car s b - 1 else car s b' := by
  have e4 : (layS s i here) 0 0 4 = nI n4 := (layS_same.1 4 (by omega)).trans hn4
  rw [car_def e4 h20, car_def hn4 h20, car_def hn4 h20]
  have ho : ∀ j, j ≠ i → (layS s i here) 5 j 2 = s 5 j 2 := fun j hj => by simp [layS, su, hj]
  have hs : (layS s i here) 5 i 2 = -1 := by simp [layS, su]
  by_cases e : b' = b
  · rw [if_pos e, e]
    exact carF_less hi h (by rw [hs]; exact (nI_m1 (by omega)).symm) (fun j _ hj => ho j hj)
  · rw [if_neg e]
    refine carF_iff fun j hj => ?_
    by_cases ej : j = i
    · rw [ej, hs, h]
      exact ⟨fun q => absurd q.symm (nI_m1 (by omega)), fun q => absurd (nI_inj (by omega) (by omega) q).symm e⟩
    · rw [ho j ej]
theorem takeS_car {s : Sg} {b i n4 : Nat} (hn4 : s 0 0 4 = nI n4) (h20 : n4 ≤ 20) (hb : b < 6) (hi : i < n4) (h : s 5 i 2 = -1) (b' : Nat) (hb' : b' < 6) : car (takeS s b i) b' = if b' = b then car s b + 1 else car s b' := by
  have e4 : (takeS s b i) 0 0 4 = nI n4 := (takeS_same.1 4 (by omega)).trans hn4
  rw [car_def e4 h20, car_def hn4 h20, car_def hn4 h20]
  have ho : ∀ j, j ≠ i → (takeS s b i) 5 j 2 = s 5 j 2 := fun j hj => by simp [takeS, su, hj]
  have hs : (takeS s b i) 5 i 2 = nI b := by simp [takeS, su]
  by_cases e : b' = b
  · rw [if_pos e, e]
    exact carF_more hi (by rw [h]; exact (nI_m1 (by omega)).symm) hs (fun j _ hj => ho j hj)
  · rw [if_neg e]
    refine carF_iff fun j hj => ?_
    by_cases ej : j = i
    · rw [ej, hs, h]
      exact ⟨fun q => absurd (nI_inj (by omega) (by omega) q).symm e, fun q => absurd q.symm (nI_m1 (by omega))⟩
    · rw [ho j ej]
theorem WF.del {s : Sg} {n1 n2 n3 n4 q b i : Nat} (w : WF s n1 n2 n3 n4 q) (hb : b < n3) (hi : i < n4) (h : s 5 i 2 = nI b) (hc : ¬ car s b ≤ 0) : WF (delS s b i) n1 n2 n3 n4 q := by
  obtain ⟨w1, w2, w3, w4, w5, w6, w7, w8, w9⟩ := w
  have hs := delS_same (s := s) (b := b) (i := i)
  refine ⟨w1.same hs, (hs.1 3 (by omega)).trans w2, w3, (hs.1 4 (by omega)).trans w4, w5, ?_, w7, fun b' hb' => ?_, fun j hj => ?_⟩
  · rw [← w6]; simp [delS, su]
  · obtain ⟨wb, c, hc3, hcc⟩ := w8 b' hb'
    refine ⟨?_, ?_⟩
    · obtain ⟨z, p, l, st, ho, e1, e2, e3, e4, e5, e6, e7, e8, e9, e10, e11, e12, e13, e14, e15⟩ := wb
      refine WB.keep hs ⟨z, p, l, st, ho, e1, e2, e3, e4, e5, e6, e7, e8, e9, e10, e11, e12, e13, e14, e15⟩ (by simp [delS, su]) (by simp [delS, su]) ⟨st, e9, by rw [← e8]; simp [delS, su]⟩ ?_ (by simpa [delS, su] using e12) (by simpa [delS, su] using e13)
      by_cases e : b' = b
      · have e0 : delS s b i 3 b' 3 = clip (s 3 b 3 + 1) := by rw [e]; simp [delS, su]
        rw [e0, ← e, e10, nI_1]
        obtain ⟨x1, x2⟩ := clip_nI (n := ho + 1) (by omega)
        exact ⟨_, x2, x1⟩
      · exact ⟨ho, e11, by rw [← e10]; simp [delS, su, e]⟩
    · rw [delS_car w4 w5 (by omega) hi h b' (by omega)]
      by_cases e : b' = b
      · rw [if_pos e, ← e, hcc]
        have : 0 < c := by
          rcases Nat.eq_zero_or_pos c with z | z
          · exfalso; apply hc; rw [← e, hcc, z]; exact Int32.le_refl _
          · exact z
        exact ⟨c - 1, by omega, by rw [show c = (c - 1) + 1 by omega, nI_pred]; rfl⟩
      · rw [if_neg e]; exact ⟨c, hc3, hcc⟩
  · obtain ⟨l1, l2, l3, l4, l5⟩ := w9 j hj
    by_cases e : j = i
    · subst e
      have a1 := l4 (by rw [h]; exact nI_m1 (by omega))
      have x0 : delS s b j 5 j 0 = s 5 j 0 := by simp [delS, su]
      have x1 : delS s b j 5 j 1 = -1 := by rw [← a1.1]; simp [delS, su]
      have x2 : delS s b j 5 j 2 = -1 := by simp [delS, su]
      have x3 : delS s b j 5 j 3 = nI q := by rw [← w6]; simp [delS, su]
      unfold WL
      rw [x0, x1, x2, x3]
      exact ⟨l1, Or.inl rfl, Or.inl rfl, fun q => absurd rfl q, fun _ => ⟨rfl, rfl⟩, Or.inr ⟨q, w7, rfl⟩⟩
    · have x : ∀ k, delS s b i 5 j k = s 5 j k := fun k => by simp [delS, su, e]
      unfold WL
      rw [x, x, x, x]
      exact ⟨l1, l2, l3, l4, l5⟩
