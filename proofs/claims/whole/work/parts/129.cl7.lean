/-! PURE: moving on -/
theorem gB2_some {α β : Type} {v : α} {g : g_H} {k : α → g_H → Option β} : gB2 (some (v, g)) k = k v g := rfl
theorem ob_some {α β : Type} {v : α} {k : α → Option β} : (some v).bind k = k v := rfl
theorem n10 : ¬ (1 : Int32) = 0 := by decide
theorem slF_comm {s : Sg} {a b : Int32} {k : Nat} : slF s a b k = slF s b a k := by
  induction k with
  | zero => rfl
  | succ k ih =>
    show (if _ then _ else _) = (if _ then _ else _)
    rw [ih]
    by_cases h : ((s 2 k 0 = a ∧ s 2 k 1 = b) ∨ (s 2 k 0 = b ∧ s 2 k 1 = a)) ∧ (slF s b a k = -1 ∨ s 2 k 2 < s 2 (cl (slF s b a k)) 2)
    · rw [if_pos h, if_pos ⟨h.1.symm, h.2⟩]
    · rw [if_neg h, if_neg fun q => h ⟨q.1.symm, q.2⟩]
theorem sl_comm {s : Sg} {a b : Int32} : sl s a b = sl s b a := slF_comm
theorem slF_in {s : Sg} {a b : Int32} {k : Nat} : slF s a b k = -1 ∨ ∃ j, j < k ∧ slF s a b k = nI j := by
  induction k with
  | zero => exact Or.inl rfl
  | succ k ih =>
    unfold slF
    by_cases h : ((s 2 k 0 = a ∧ s 2 k 1 = b) ∨ (s 2 k 0 = b ∧ s 2 k 1 = a)) ∧ (slF s a b k = -1 ∨ s 2 k 2 < s 2 (cl (slF s a b k)) 2)
    · rw [if_pos h]; exact Or.inr ⟨k, by omega, rfl⟩
    · rw [if_neg h]
      rcases ih with q | ⟨j, h1, h2⟩
      · exact Or.inl q
      · exact Or.inr ⟨j, by omega, h2⟩
theorem sl_in {s : Sg} {a b : Int32} {n2 : Nat} (h : s 0 0 2 = nI n2) (h2 : n2 ≤ 24) (hn : sl s a b ≠ -1) : ∃ j, j < n2 ∧ sl s a b = nI j := by
  unfold sl at hn ⊢
  rw [h, show cl (nI n2) = n2 from cl_nI (by omega)] at hn ⊢
  exact (slF_in (s := s) (a := a) (b := b) (k := n2)).resolve_left hn
theorem p_hasHive {a0 F n1 n2 n3 n4 q : Nat} {g : g_H} {s : Sg} (c : CI a0 F g s n1 n2 n3 n4 q) {x : Int32} (hx : inR (nI n1) x) : f5_hasHive g (a0 + 1) x = some (if s 1 (cl x) 0 = 0 then 0 else 1, g) := by
  obtain ⟨⟨⟨w1, w2, -⟩, -⟩, ⟨-, r1, -, -, r4, -⟩, -⟩ := c
  obtain ⟨q1, -, q3, -⟩ := r4
  obtain ⟨t1, t2, t3, t4, t5, -⟩ := r1
  obtain ⟨j, hj, rfl⟩ := inR_nat (by omega) hx
  have cj : Int32.toNatClampNeg (nI j) = j := cl_nI (by omega)
  have hix : ¬ (nI j < 0 ∨ 14 ≤ Int32.toNatClampNeg (nI j)) := nI_in (by omega) (by omega)
  unfold f5_hasHive
  rw [if_pos t1, p_hasHouse t1, q1, w1, if_pos hx]
  rw [gB2_some, if_neg n10, if_pos t1, t2, ob_some, t5, if_pos rfl, if_pos hix, cj, q3 j (by omega)]
  show _ = some (if s 1 (Int32.toNatClampNeg (nI j)) 0 = 0 then 0 else 1, g)
  rw [cj]
  split <;> rfl
theorem hour_nat {q : Nat} (h : q < 2 ^ 26) : nI q - nI q / (24 : Int32) * (24 : Int32) = nI (q % 24) := by
  apply Int32.toInt_inj.mp
  have h1 : (nI q).toInt = q := nI_toInt (by omega)
  have h24 : (24 : Int32).toInt = 24 := rfl
  have hd : (nI q / (24 : Int32)).toInt = (q / 24 : Nat) := by
    rw [Int32.toInt_div, h1, h24]
    rw [show ((q : Int).tdiv 24) = ((q / 24 : Nat) : Int) from rfl]
    exact Int.bmod_eq_of_le (by omega) (by omega)
  have hm : (nI q / (24 : Int32) * (24 : Int32)).toInt = ((q / 24 * 24 : Nat) : Int) := by
    rw [Int32.toInt_mul, hd, h24]
    rw [Int.bmod_eq_of_le (by omega) (by omega)]
    rfl
  rw [Int32.toInt_sub, h1, hm, nI_toInt (by omega)]
  rw [Int.bmod_eq_of_le (by omega) (by omega)]
  omega
theorem p_lane {a0 F n1 n2 n3 n4 q : Nat} {g : g_H} {s : Sg} (c : CI a0 F g s n1 n2 n3 n4 q) {j : Nat} (hj : j < n2) : gR g (a0 + 1) 3 = some (a0 + 3) ∧ gS g (a0 + 3) = (16, 24) ∧ gR g (a0 + 3) j = some (a0 + 4 + j) ∧ (gS g (a0 + 4 + j)).1 = 3 ∧ gI g (a0 + 1) 1 = nI n2 ∧ j < 24 ∧ (gS g (a0 + 1)).1 = 6 ∧ n2 < 2 ^ 31 := by
  obtain ⟨⟨⟨w1, w2, w3, w4, -⟩, -⟩, ⟨-, r1, -, -, r4, -⟩, -⟩ := c
  obtain ⟨q1, q2, q3, -⟩ := r4
  obtain ⟨t1, t2, t3, t4, t5, t6, t7, t8, -⟩ := r1
  exact ⟨t3, t6, (t8 j (by omega)).1, (t8 j (by omega)).2, q2.trans w3, by omega, t1, by omega⟩
theorem p_lengthOf {a0 F n1 n2 n3 n4 q : Nat} {g : g_H} {s : Sg} (c : CI a0 F g s n1 n2 n3 n4 q) {j : Nat} (hj : j < n2) : f5_lengthOf g (a0 + 1) (nI j) = some (s 2 j 2, g) := by
  obtain ⟨e1, e2, e3, e4, e5, e6, e7, e8⟩ := p_lane c hj
  obtain ⟨-, ⟨-, -, -, -, r4, -⟩, -⟩ := c
  have cj : Int32.toNatClampNeg (nI j) = j := cl_nI (by omega)
  have hix : ¬ (nI j < 0 ∨ 24 ≤ Int32.toNatClampNeg (nI j)) := nI_in (by omega) (by omega)
  have h2 : gI g (a0 + 4 + j) 2 = s 2 j 2 := (r4.2.2.2.1 j hj).1 2 (by omega)
  unfold f5_lengthOf
  rw [if_pos e7, p_hasLane e7, e5, if_pos (inR_of e8 hj), gB2_some, if_neg n10, if_pos e7, e1, ob_some, e2, if_pos rfl, if_pos hix, cj, e3, ob_some, if_pos e4, h2]
/-- the gate as the flight sees it -/
theorem p_isOpen {a0 F n1 n2 n3 n4 q : Nat} {g : g_H} {s : Sg} (c : CI a0 F g s n1 n2 n3 n4 q) {j : Nat} (hj : j < n2) :
    (nI j = gI g F 7 → opS s j) ∧ (nI j ≠ gI g F 7 → ∃ v, f5_isOpen g (a0 + 1) (nI j) (s 0 0 0) = some (v, g) ∧ (v = 0 ∨ v = 1) ∧ (v = 1 ↔ opS s j)) := by
  obtain ⟨e1, e2, e3, e4, e5, e6, e7, e8⟩ := p_lane c hj
  obtain ⟨w, ⟨-, -, -, -, r4, -⟩, -⟩ := c
  have cj : Int32.toNatClampNeg (nI j) = j := cl_nI (by omega)
  have hix : ¬ (nI j < 0 ∨ 24 ≤ Int32.toNatClampNeg (nI j)) := nI_in (by omega) (by omega)
  obtain ⟨-, h1, h2⟩ := r4.2.2.2.1 j hj
  constructor
  · intro h
    obtain ⟨x, y⟩ := h1 h
    unfold opS hourS
    rw [x, y, w.2.2.2.2.2.1, hour_nat w.2.2.2.2.2.2.1]
    exact ⟨nI_pos (by omega), nI_ge (b := 24) (by omega) (by omega)⟩
  · intro h
    obtain ⟨x, y⟩ := h2 h
    unfold f5_isOpen
    rw [if_pos e7, p_hasLane e7, e5, if_pos (inR_of e8 hj), gB2_some, if_neg n10, if_pos e7, e1, ob_some, e2, if_pos rfl, if_pos hix, cj, e3, ob_some]
    unfold f2_isOpen
    rw [if_pos e4, if_pos e4, x, y]
    unfold opS hourS
    by_cases c1 : s 0 0 0 - s 0 0 0 / (24 : Int32) * (24 : Int32) < s 2 j 3
    · rw [if_pos c1]
      refine ⟨0, rfl, Or.inl rfl, ?_⟩
      exact ⟨fun q => absurd q (by decide), fun q => absurd c1 q.1⟩
    · rw [if_neg c1]
      by_cases c2 : s 2 j 4 ≤ s 0 0 0 - s 0 0 0 / (24 : Int32) * (24 : Int32)
      · rw [if_pos c2]
        refine ⟨0, rfl, Or.inl rfl, ?_⟩
        exact ⟨fun q => absurd q (by decide), fun q => absurd c2 q.2⟩
      · rw [if_neg c2]
        refine ⟨1, rfl, Or.inr rfl, ?_⟩
        exact ⟨fun _ => ⟨c1, c2⟩, fun _ => rfl⟩
theorem p_length {g : g_H} {r : Nat} (h : (gS g r).1 = 5) : f4_length g r = some (gI g r 0, g) := if_pos h
