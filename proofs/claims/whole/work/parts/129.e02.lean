/-! PURE: the model's small methods -/
theorem m_house {M n1 n2 n3 n4 b : Nat} {g : g_H} {s : Sg} {x : Int32} (m : MX M g s n1 n2 n3 n4) (h6 : n3 ≤ 6) (hb : b < n3) (wb : WB s n1 b) (hx : x = nI b) : f7_house g M x = some (s 4 b (cl (s 3 b 0)), g) := by
  have hbe := m_be (k := 0) (y := 0) m h6 hb (by omega) hx rfl
  obtain ⟨⟨l1, ⟨l2, l3, l4, l5, l6, l7, l8, l9⟩, k1, k2, k3, k4, k5, k6, k7, k8⟩, m2, m3, m4⟩ := m
  obtain ⟨z, p, l, st, ho, e1, e2, e3, e4, e5, -⟩ := wb
  subst hx
  have c1 : Int32.toNatClampNeg (nI (7 * b + p)) = 7 * b + p := cl_nI (by omega)
  have cp : cl (nI p) = p := cl_nI (by omega)
  have cz : cl (nI z) = z := cl_nI (by omega)
  have hr := m3.2.2.2 b hb p (by rw [e1, cz]; exact e5)
  unfold f7_house
  rw [if_pos l1, l6, ob_some, hbe, gB2_some, e4, k5, if_pos rfl, ix7, if_pos (ixOk (by omega) (by omega)), c1, hr, cp]
theorem m_carLoop {M n1 n2 n3 n4 : Nat} {g : g_H} {s : Sg} {b : Nat} (m : MX M g s n1 n2 n3 n4) (h20 : n4 ≤ 20) (e4 : s 0 0 4 = nI n4) :
    ∀ k i fuel : Nat, i + k = n4 → k < fuel → f7_carries_4 fuel g M (nI b) (carF s b i) (nI i) = some (carF s b n4, g) := by
  intro k
  induction k with
  | zero =>
    intro i fuel h hf
    obtain ⟨fu, rfl⟩ : ∃ fu, fuel = fu + 1 := ⟨fuel - 1, by omega⟩
    have : i = n4 := by omega
    subst this
    show f7_carries_4b _ g M (nI b) (carF s b i) (nI i) = _
    unfold f7_carries_4b
    rw [if_pos m.1.1, m.2.1.2.2.2, e4, if_pos (Int32.le_refl _)]
  | succ k ih =>
    intro i fuel h hf
    obtain ⟨fu, rfl⟩ : ∃ fu, fuel = fu + 1 := ⟨fuel - 1, by omega⟩
    show f7_carries_4b (f7_carries_4 fu) g M (nI b) (carF s b i) (nI i) = _
    unfold f7_carries_4b f7_carries_28
    rw [if_pos m.1.1, m.2.1.2.2.2, e4, if_neg (nI_ge (by omega) (by omega)), m_le (i := i) (k := 2) (y := 2) m h20 (by omega) (by omega) rfl rfl, gB2_some, nI_1]
    have := ih (i + 1) fu (by omega) (by omega)
    by_cases e : s 5 i 2 = nI b
    · rw [if_pos e]
      have e' : carF s b (i + 1) = carF s b i + 1 := by show carF s b i + _ = _; rw [if_pos e]
      rw [← e']; exact this
    · rw [if_neg e]
      have e' : carF s b (i + 1) = carF s b i + 0 := by show carF s b i + _ = _; rw [if_neg e]
      rw [← e']; exact this
theorem m_carries {M n1 n2 n3 n4 b : Nat} {g : g_H} {s : Sg} {x : Int32} (m : MX M g s n1 n2 n3 n4) (h20 : n4 ≤ 20) (e4 : s 0 0 4 = nI n4) (hx : x = nI b) : f7_carries g M x = some (car s b, g) := by
  subst hx
  rw [car_def e4 h20]
  exact m_carLoop m h20 e4 n4 0 300 (by omega) (by omega)
theorem tgF_in {s : Sg} {b n1 : Nat} {to : Int32} {k : Nat} (h : ∀ j, j < k → inR (nI n1) (s 4 b j)) : ((tgF s b to k).1 = -1 ∧ (tgF s b to k).2 = 1000) ∨ (inR (nI n1) (tgF s b to k).1 ∧ (tgF s b to k).2 = wy s (tgF s b to k).1 to) := by
  induction k with
  | zero => exact Or.inl ⟨rfl, rfl⟩
  | succ k ih =>
    unfold tgF
    by_cases c : wy s (s 4 b k) to < (tgF s b to k).2
    · rw [if_pos c]; exact Or.inr ⟨h k (by omega), rfl⟩
    · rw [if_neg c]; exact ih fun j hj => h j (by omega)
theorem wy_nat {s : Sg} {n1 n2 : Nat} (wt : WT s n1 n2) (x y : Int32) : ∃ d, d ≤ 1000 ∧ wy s x y = nI d := by
  obtain ⟨w1, w2, w3, w4, w5, w6, w7⟩ := wt
  unfold wy
  rw [w1]
  by_cases h : inR (nI n1) x ∧ inR (nI n1) y
  · rw [if_pos h]
    obtain ⟨i, hi, rfl⟩ := inR_nat (by omega) h.1
    obtain ⟨j, hj, rfl⟩ := inR_nat (by omega) h.2
    rw [show cl (nI i) = i from cl_nI (by omega), show cl (nI j) = j from cl_nI (by omega)]
    exact w7 i j hi hj
  · rw [if_neg h]; exact ⟨1000, by omega, rfl⟩
theorem m1_ne {n : Nat} {x : Int32} (h : inR (nI n) x) : x ≠ -1 := fun e => by
  rw [e] at h
  exact h.1 (by decide)
theorem m_tgLoop {M n1 n2 n3 n4 b z y : Nat} {g : g_H} {s : Sg} (m : MX M g s n1 n2 n3 n4) (wt : WT s n1 n2) (h6 : n3 ≤ 6) (hb : b < n3) (h5 : s 3 b 5 = nI z) (hz : z ≤ 7) (hin : ∀ j, j < z → inR (nI n1) (s 4 b j)) (hy : y < n1) :
    ∀ k i fuel : Nat, i + k = z → k < fuel → f7_targetOf_5 fuel g M (nI b) (nI y) (tgF s b (nI y) i).1 (nI i) = some ((tgF s b (nI y) z).1, g) := by
  intro k
  have h14 : n1 ≤ 14 := wt.2.1
  induction k with
  | zero =>
    intro i fuel h hf
    obtain ⟨fu, rfl⟩ : ∃ fu, fuel = fu + 1 := ⟨fuel - 1, by omega⟩
    have : i = z := by omega
    subst this
    show f7_targetOf_5b _ g M (nI b) (nI y) _ (nI i) = _
    unfold f7_targetOf_5b
    rw [if_pos m.1.1, m_be (i := b) (k := 5) (y := (5 : Int32)) m h6 hb (by omega) rfl rfl, gB2_some, h5, if_pos (Int32.le_refl _)]
  | succ k ih =>
    intro i fuel h hf
    obtain ⟨fu, rfl⟩ : ∃ fu, fuel = fu + 1 := ⟨fuel - 1, by omega⟩
    have hrec := ih (i + 1) fu (by omega) (by omega)
    obtain ⟨x, hx1, hx2⟩ := inR_nat (by omega) (hin i (by omega))
    have cz : cl (nI z) = z := cl_nI (by omega)
    have c1 : Int32.toNatClampNeg (nI (7 * b + i)) = 7 * b + i := cl_nI (by omega)
    have hr := m.2.2.1.2.2.2 b hb i (by rw [h5, cz]; omega)
    obtain ⟨da, hda, ha⟩ := wy_nat wt (s 4 b i) (nI y)
    show f7_targetOf_5b (f7_targetOf_5 fu) g M (nI b) (nI y) _ (nI i) = _
    unfold f7_targetOf_5b f7_targetOf_54 f7_targetOf_60
    rw [if_pos m.1.1, m_be (i := b) (k := 5) (y := 5) m h6 hb (by omega) rfl rfl, gB2_some, h5, if_neg (nI_ge (by omega) (by omega)), if_pos m.1.1, m.1.2.1.2.2.2.2.1, ob_some, m.1.2.2.2.2.2.2.1, if_pos rfl, ix7, if_pos (ixOk (by omega) (by omega)), c1, hr, m_away m wt hx1 hy hx2 rfl, gB2_some, nI_1]
    rcases tgF_in (s := s) (b := b) (to := nI y) (k := i) (fun j hj => hin j (by omega)) with ⟨q1, q2⟩ | ⟨q1, q2⟩
    · rw [if_pos q1]
      have h9 : (9999 : Int32) = fi (nI 1000) := (if_pos (show nI 1000 = (1000 : Int32) from rfl)).symm
      by_cases c : wy s (s 4 b i) (nI y) < (tgF s b (nI y) i).2
      · have e : tgF s b (nI y) (i + 1) = (s 4 b i, wy s (s 4 b i) (nI y)) := if_pos c
        rw [if_neg, show s 4 b i = (tgF s b (nI y) (i + 1)).1 by rw [e]]
        · exact hrec
        · rw [q2, ha] at c
          have c' := (fi_lt hda (Nat.le_refl 1000)).mpr c
          rw [ha, h9]
          exact Int32.not_le.mpr c'
      · have e : tgF s b (nI y) (i + 1) = tgF s b (nI y) i := if_neg c
        rw [if_pos, ← e]
        · exact hrec
        · rw [q2, ha] at c
          rw [ha, h9]
          exact Int32.not_lt.mp fun k => c ((fi_lt hda (Nat.le_refl 1000)).mp k)
    · rw [if_neg (m1_ne q1), if_pos m.1.1]
      obtain ⟨x', hx1', hx2'⟩ := inR_nat (by omega) q1
      rw [m_away m wt hx1' hy hx2' rfl, gB2_some]
      obtain ⟨db, hdb, hb'⟩ := wy_nat wt (tgF s b (nI y) i).1 (nI y)
      by_cases c : wy s (s 4 b i) (nI y) < (tgF s b (nI y) i).2
      · have e : tgF s b (nI y) (i + 1) = (s 4 b i, wy s (s 4 b i) (nI y)) := if_pos c
        rw [if_neg, show s 4 b i = (tgF s b (nI y) (i + 1)).1 by rw [e]]
        · exact hrec
        · rw [q2, ha, hb'] at c
          have c' := (fi_lt hda hdb).mpr c
          rw [ha, hb']
          exact Int32.not_le.mpr c'
      · have e : tgF s b (nI y) (i + 1) = tgF s b (nI y) i := if_neg c
        rw [if_pos, ← e]
        · exact hrec
        · rw [q2, ha, hb'] at c
          rw [ha, hb']
          exact Int32.not_lt.mp fun k => c ((fi_lt hda hdb).mp k)
theorem m_targetOf {M n1 n2 n3 n4 b : Nat} {g : g_H} {s : Sg} {x to : Int32} (m : MX M g s n1 n2 n3 n4) (wt : WT s n1 n2) (h6 : n3 ≤ 6) (hb : b < n3) (wb : WB s n1 b) (ht : inR (nI n1) to) (hx : x = nI b) : f7_targetOf g M x to = some (tg s b to, g) := by
  subst hx
  have h14 : n1 ≤ 14 := wt.2.1
  obtain ⟨y, hy, rfl⟩ := inR_nat (by omega) ht
  obtain ⟨z, p, l, st, ho, e1, e2, e3, e4, e5, e6, e7, e8, e9, e10, e11, e12, e13, e14, e15⟩ := wb
  have := m_tgLoop m wt h6 hb e1 e3 e14 hy z 0 300 (by omega) (by omega)
  unfold tg
  rw [e1, show cl (nI z) = z from cl_nI (by omega)]
  exact this
theorem tg_in {s : Sg} {b n1 : Nat} {to : Int32} (wb : WB s n1 b) : (tg s b to = -1) ∨ inR (nI n1) (tg s b to) := by
  obtain ⟨z, p, l, st, ho, e1, e2, e3, e4, e5, e6, e7, e8, e9, e10, e11, e12, e13, e14, e15⟩ := wb
  unfold tg
  rw [e1, show cl (nI z) = z from cl_nI (by omega)]
  rcases tgF_in (s := s) (b := b) (to := to) (k := z) e14 with ⟨q1, -⟩ | ⟨q1, -⟩
  · exact Or.inl q1
  · exact Or.inr q1
theorem m_slLoop {M n1 n2 n3 n4 : Nat} {g : g_H} {s : Sg} {a b : Int32} (m : MX M g s n1 n2 n3 n4) (wt : WT s n1 n2) :
    ∀ k i fuel : Nat, i + k = n2 → k < fuel → f7_lane_5 fuel g M a b (slF s a b i) (nI i) = some (slF s a b n2, g) := by
  intro k
  have h24 : n2 ≤ 24 := wt.2.2.2.1
  induction k with
  | zero =>
    intro i fuel h hf
    obtain ⟨fu, rfl⟩ : ∃ fu, fuel = fu + 1 := ⟨fuel - 1, by omega⟩
    have : i = n2 := by omega
    subst this
    show f7_lane_5b _ g M a b _ (nI i) = _
    unfold f7_lane_5b
    rw [if_pos m.1.1, m.2.1.2.1, wt.2.2.1, if_pos (Int32.le_refl _)]
  | succ k ih =>
    intro i fuel h hf
    obtain ⟨fu, rfl⟩ : ∃ fu, fuel = fu + 1 := ⟨fuel - 1, by omega⟩
    have hrec := ih (i + 1) fu (by omega) (by omega)
    have r0 := m_ro (i := i) (k := 0) (y := 0) m h24 (by omega) (by omega) rfl rfl
    have r1 := m_ro (i := i) (k := 1) (y := 1) m h24 (by omega) (by omega) rfl rfl
    have r2 := m_ro (i := i) (k := 2) (y := 2) m h24 (by omega) (by omega) rfl rfl
    -- joined: take it if it is shorter
    have yes : ((s 2 i 0 = a ∧ s 2 i 1 = b) ∨ (s 2 i 0 = b ∧ s 2 i 1 = a)) → f7_lane_58 (f7_lane_5 fu) g M a b (slF s a b i) (nI i) = some (slF s a b n2, g) := by
      intro hj
      unfold f7_lane_58 f7_lane_63 f7_lane_91 f7_lane_94
      rw [if_neg n10, nI_1]
      rcases slF_in (s := s) (a := a) (b := b) (k := i) with q | ⟨j, hj2, q⟩
      · have e : slF s a b (i + 1) = nI i := if_pos ⟨hj, Or.inl q⟩
        rw [if_pos q, ← e]
        exact hrec
      · have qn : slF s a b i ≠ -1 := by rw [q]; exact nI_m1 (by omega)
        rw [if_neg qn, if_pos m.1.1, r2, gB2_some, if_pos m.1.1, m_ro (i := j) (k := 2) (y := 2) m h24 (by omega) (by omega) q rfl, gB2_some]
        have cj : cl (slF s a b i) = j := by rw [q]; exact cl_nI (by omega)
        by_cases c : s 2 j 2 ≤ s 2 i 2
        · have e : slF s a b (i + 1) = slF s a b i := if_neg fun k => by
            rcases k.2 with k2 | k2
            · exact qn k2
            · rw [cj] at k2; exact Int32.not_lt.mpr c k2
          rw [if_pos c, ← e]
          exact hrec
        · have e : slF s a b (i + 1) = nI i := if_pos ⟨hj, Or.inr (by rw [cj]; exact Int32.not_le.mp c)⟩
          rw [if_neg c, ← e]
          exact hrec
    have no : ¬ ((s 2 i 0 = a ∧ s 2 i 1 = b) ∨ (s 2 i 0 = b ∧ s 2 i 1 = a)) → f7_lane_62 (f7_lane_5 fu) g M a b (slF s a b i) (nI i) = some (slF s a b n2, g) := by
      intro hj
      have e : slF s a b (i + 1) = slF s a b i := if_neg fun k => hj k.1
      unfold f7_lane_62 f7_lane_63 f7_lane_94
      rw [if_pos rfl, nI_1, ← e]
      exact hrec
    have second : ¬ (s 2 i 0 = a ∧ s 2 i 1 = b) → f7_lane_36 (f7_lane_5 fu) g M a b (slF s a b i) (nI i) = some (slF s a b n2, g) := by
      intro hn
      unfold f7_lane_36
      rw [if_pos m.1.1, r0, gB2_some]
      by_cases c1 : s 2 i 0 = b
      · rw [if_pos c1, if_pos m.1.1, r1, gB2_some]
        by_cases c2 : s 2 i 1 = a
        · rw [if_pos c2]; exact yes (Or.inr ⟨c1, c2⟩)
        · rw [if_neg c2]; exact no fun k => k.elim hn fun k => c2 k.2
      · rw [if_neg c1]; exact no fun k => k.elim hn fun k => c1 k.1
    show f7_lane_5b (f7_lane_5 fu) g M a b _ (nI i) = _
    unfold f7_lane_5b
    rw [if_pos m.1.1, m.2.1.2.1, wt.2.2.1, if_neg (nI_ge (by omega) (by omega)), r0, gB2_some]
    by_cases c1 : s 2 i 0 = a
    · rw [if_pos c1, if_pos m.1.1, r1, gB2_some]
      by_cases c2 : s 2 i 1 = b
      · rw [if_pos c2]; exact yes (Or.inl ⟨c1, c2⟩)
      · rw [if_neg c2]; exact second fun k => c2 k.2
    · rw [if_neg c1]; exact second fun k => c1 k.1
theorem m_lane {M n1 n2 n3 n4 : Nat} {g : g_H} {s : Sg} (m : MX M g s n1 n2 n3 n4) (wt : WT s n1 n2) (a b : Int32) : f7_lane g M a b = some (sl s a b, g) := by
  have h24 : n2 ≤ 24 := wt.2.2.2.1
  have := m_slLoop (a := a) (b := b) m wt n2 0 300 (by omega) (by omega)
  unfold sl
  rw [wt.2.2.1, show cl (nI n2) = n2 from cl_nI (by omega)]
  exact this
