/-! PURE: the model's quarters -/
theorem i_tel (a b c : Int32) : a - c + (b - a) = b - c := by
  rw [Int32.sub_eq_add_neg, Int32.sub_eq_add_neg, Int32.sub_eq_add_neg, Int32.add_comm (a + -c), Int32.add_assoc b, ← Int32.add_assoc (-a), Int32.add_left_neg, Int32.zero_add]
theorem m_beeStep {M a0 F n1 n2 n3 n4 q b : Nat} {g g0 : g_H} {s : Sg} {x1 : Int32} (c : CI a0 F g0 s n1 n2 n3 n4 q) (m : MX M g s n1 n2 n3 n4) (hb : b < n3) :
    ∃ g', (∀ K, f7_quarterOn_4b K g M x1 (nI b) = K g' M (x1 + (arr (beeS s b) - arr s)) (nI b + 1)) ∧ Fm M g g' ∧ MX M g' (beeS s b) n1 n2 n3 n4 := by
  have h6 := c.1.2.2.1
  have e6 : gI g M 6 = nI n3 := m.2.1.2.2.1.trans c.1.2.1
  -- behind the step on the lane
  have main : ∀ g1 s1 a0' F' g0', CI a0' F' g0' s1 n1 n2 n3 n4 q → MX M g1 s1 n1 n2 n3 n4 → ∃ g', (∀ K, f7_quarterOn_35 K g1 M x1 (nI b) = K g' M (x1 + (arr (if s1 3 b 1 = 0 then mvS (coF (hoF s1 b (s1 4 b (cl (s1 3 b 0))) n4) b (s1 4 b (cl (s1 3 b 0))) n4) b (s1 4 b (cl (s1 3 b 0))) else s1) - arr s1)) (nI b + 1)) ∧ Fm M g1 g' ∧ MX M g' (if s1 3 b 1 = 0 then mvS (coF (hoF s1 b (s1 4 b (cl (s1 3 b 0))) n4) b (s1 4 b (cl (s1 3 b 0))) n4) b (s1 4 b (cl (s1 3 b 0))) else s1) n1 n2 n3 n4 := by
    intro g1 s1 a0' F' g0' c1 m1
    have be1 := m_be (k := 1) (y := (1 : Int32)) m1 h6 hb (by omega) rfl rfl
    obtain ⟨z, p, l, st, ho, e1, e2, e3, e4, e5, e6', e7, -⟩ := c1.wb hb
    unfold f7_quarterOn_35 f7_quarterOn_60
    by_cases l0 : s1 3 b 1 = 0
    · have hle : s1 3 b 1 ≤ 0 := by rw [l0]; exact Int32.le_refl _
      rw [if_pos l0]
      obtain ⟨g2, x1', x2, x3⟩ := m_deal (x := nI b) c1 m1 hb rfl
      obtain ⟨ga, ca⟩ := c_ho c1 hb n4 (Nat.le_refl _)
      obtain ⟨gb, cb⟩ := c_co ca hb (m1_ne (c1.hin hb)) n4 (Nat.le_refl _)
      obtain ⟨g3, y1, y2, y3⟩ := m_fly cb.1 x3 hb (cb.wb hb)
      have h0 : (coF (hoF s1 b (s1 4 b (cl (s1 3 b 0))) n4) b (s1 4 b (cl (s1 3 b 0))) n4) 4 b (cl ((coF (hoF s1 b (s1 4 b (cl (s1 3 b 0))) n4) b (s1 4 b (cl (s1 3 b 0))) n4) 3 b 0)) = s1 4 b (cl (s1 3 b 0)) := by
        rw [coF_3, hoF_p.1, coF_same.2.2.2.1, hoF_same.2.2.2.1]
      rw [h0] at y3
      refine ⟨g3, fun K => ?_, x2.tr y2, y3⟩
      rw [if_pos m1.1.1, be1, gB2_some, if_pos hle, if_pos m1.1.1, x1', gB2_some, if_pos x3.1.1, y1, ob_some, arr_mv]
    · have hle : ¬ s1 3 b 1 ≤ 0 := by
        rw [e6'] at l0 ⊢
        have : 0 < l := by
          rcases Nat.eq_zero_or_pos l with k | k
          · exfalso; apply l0; rw [k]; rfl
          · exact k
        exact nI_nle this (by omega)
      rw [if_neg l0, Int32.sub_self, Int32.add_zero]
      refine ⟨g1, fun K => ?_, Fm.rf, m1⟩
      rw [if_pos m1.1.1, be1, gB2_some, if_neg hle]
  have be1 := m_be (k := 1) (y := (1 : Int32)) m h6 hb (by omega) rfl rfl
  have hn4 : ∀ t : Sg, Same s t → cl (t 0 0 4) = n4 := fun t ht => by
    rw [ht.1 4 (by omega), c.1.2.2.2.1]
    exact cl_nI (by have := c.1.2.2.2.2.1; omega)
  by_cases l : s 3 b 1 ≤ 0
  · obtain ⟨g', x1', x2, x3⟩ := main g s _ _ _ c m
    have e : beeS s b = (if s 3 b 1 = 0 then mvS (coF (hoF s b (s 4 b (cl (s 3 b 0))) n4) b (s 4 b (cl (s 3 b 0))) n4) b (s 4 b (cl (s 3 b 0))) else s) := by
      unfold beeS
      rw [if_neg (Int32.not_lt.mpr l)]
      simp only [hn4 s Same.rf, hn4 _ hoF_same]
    refine ⟨g', fun K => ?_, x2, by rw [e]; exact x3⟩
    unfold f7_quarterOn_4b
    rw [if_pos m.1.1, e6, if_neg (nI_ge hb (by omega)), be1, gB2_some, if_pos l, x1', e]
  · obtain ⟨g2, c2⟩ := c_lane c hb l
    have m2 := m.putB (b := b) (k := 1) (v := s 3 b 1 - 1) (by omega) (by omega)
    obtain ⟨g', x1', x2, x3⟩ := main _ _ _ _ _ c2 m2
    have e : beeS s b = (if (su s 3 b 1 (s 3 b 1 - 1)) 3 b 1 = 0 then mvS (coF (hoF (su s 3 b 1 (s 3 b 1 - 1)) b ((su s 3 b 1 (s 3 b 1 - 1)) 4 b (cl ((su s 3 b 1 (s 3 b 1 - 1)) 3 b 0))) n4) b ((su s 3 b 1 (s 3 b 1 - 1)) 4 b (cl ((su s 3 b 1 (s 3 b 1 - 1)) 3 b 0))) n4) b ((su s 3 b 1 (s 3 b 1 - 1)) 4 b (cl ((su s 3 b 1 (s 3 b 1 - 1)) 3 b 0))) else su s 3 b 1 (s 3 b 1 - 1)) := by
      unfold beeS
      rw [if_pos (Int32.not_le.mp l)]
      simp only [hn4 _ (Same.b (s := s) (i := b) (k := 1) (v := s 3 b 1 - 1) (by omega)), hn4 _ ((Same.b (s := s) (i := b) (k := 1) (v := s 3 b 1 - 1) (by omega)).tr hoF_same)]
    have ea : arr (su s 3 b 1 (s 3 b 1 - 1)) = arr s := arr_5 su3_5 su3_0
    refine ⟨g', fun K => ?_, fmB.tr x2, by rw [e]; exact x3⟩
    unfold f7_quarterOn_4b
    rw [if_pos m.1.1, e6, if_neg (nI_ge hb (by omega)), be1, gB2_some, if_neg l, if_pos m.1.1, be1, gB2_some, if_pos m.1.1, m_setBe (k := 1) (y := (1 : Int32)) m h6 hb (by omega) rfl rfl, ob_some, x1', e, ea]
theorem m_quLoop {M a0 F n1 n2 n3 n4 q : Nat} {g0 : g_H} {s0 : Sg} (c : CI a0 F g0 s0 n1 n2 n3 n4 q) :
    ∀ k b fuel : Nat, ∀ (g : g_H), b + k = n3 → k < fuel → MX M g (beeF s0 b) n1 n2 n3 n4 →
    ∃ g', f7_quarterOn_4 fuel g M (arr (beeF s0 b) - arr s0) (nI b) = some (arr (quS s0) - arr s0, g') ∧ Fm M g g' ∧ MX M g' (quS s0) n1 n2 n3 n4 := by
  intro k
  have h6 := c.1.2.2.1
  have e3 : cl (s0 0 0 3) = n3 := by rw [c.1.2.1]; exact cl_nI (by omega)
  have hsame : ∀ b, b ≤ n3 → beeF s0 b 0 0 3 = nI n3 := fun b hb => by
    obtain ⟨g1, c1⟩ := c_bee c b hb
    exact c1.1.2.1
  have hq : quS s0 = su (beeF s0 n3) 0 0 0 (beeF s0 n3 0 0 0 + 1) := by
    unfold quS
    simp only [e3]
  induction k with
  | zero =>
    intro b fuel g h hf m
    obtain ⟨fu, rfl⟩ : ∃ fu, fuel = fu + 1 := ⟨fuel - 1, by omega⟩
    have : b = n3 := by omega
    subst this
    have ea : arr (quS s0) = arr (beeF s0 b) := by
      rw [hq]
      exact arr_keep (su_k (by omega)) fun i => by rw [su_t (by omega)]
    refine ⟨_, ?_, Fm.put (Or.inr (Or.inr rfl)), by rw [hq]; exact m.putQ⟩
    show f7_quarterOn_4b _ g M _ (nI b) = _
    unfold f7_quarterOn_4b gLt
    rw [if_pos m.1.1, m.2.1.2.2.1, hsame b (Nat.le_refl _), if_pos (Int32.le_refl _), m.1.2.1.2.2.2.2.2.2.1, ob_some, m.1.2.2.2.2.2.2.2.2.1, if_pos rfl, if_pos (by decide)]
    dsimp only
    rw [if_pos (by decide), ea]
    rw [show Int32.toNatClampNeg (0 : Int32) = 0 from rfl, m.2.2.2.2.2]
  | succ k ih =>
    intro b fuel g h hf m
    obtain ⟨fu, rfl⟩ : ∃ fu, fuel = fu + 1 := ⟨fuel - 1, by omega⟩
    obtain ⟨g0', c'⟩ := c_bee c b (by omega)
    obtain ⟨g1, x1, x2, x3⟩ := m_beeStep (x1 := arr (beeF s0 b) - arr s0) c' m (show b < n3 by omega)
    obtain ⟨g2, y1, y2, y3⟩ := ih (b + 1) fu g1 (by omega) (by omega) x3
    refine ⟨g2, ?_, x2.tr y2, y3⟩
    show f7_quarterOn_4b (f7_quarterOn_4 fu) g M _ (nI b) = _
    have e : arr (beeF s0 b) - arr s0 + (arr (beeS (beeF s0 b) b) - arr (beeF s0 b)) = arr (beeF s0 (b + 1)) - arr s0 := by
      show _ = arr (beeS (beeF s0 b) b) - arr s0
      exact i_tel _ _ _
    rw [x1, nI_1, e]
    exact y1
theorem m_quarterOn {M a0 F n1 n2 n3 n4 q : Nat} {g g0 : g_H} {s : Sg} (c : CI a0 F g0 s n1 n2 n3 n4 q) (m : MX M g s n1 n2 n3 n4) :
    ∃ g', f7_quarterOn g M = some (arr (quS s) - arr s, g') ∧ Fm M g g' ∧ MX M g' (quS s) n1 n2 n3 n4 := by
  have h6 := c.1.2.2.1
  obtain ⟨g', x1, x2, x3⟩ := m_quLoop c n3 0 300 g (by omega) (by omega) m
  refine ⟨g', ?_, x2, x3⟩
  rw [show arr (beeF s 0) - arr s = 0 from Int32.sub_self _] at x1
  exact x1
theorem c_qus {a0 F n1 n2 n3 n4 q : Nat} {g : g_H} {s : Sg} (c : CI a0 F g s n1 n2 n3 n4 q) (k : Nat) (hk : q + k < 2 ^ 26) : ∃ g', CI a0 F g' (quF s k) n1 n2 n3 n4 (q + k) := by
  induction k with
  | zero => exact ⟨g, c⟩
  | succ k ih =>
    obtain ⟨g1, c1⟩ := ih (by omega)
    obtain ⟨g2, -, -, x⟩ := p_quarter c1 (by omega)
    exact ⟨g2, x⟩
theorem m_passLoop {M a0 F n1 n2 n3 n4 q N : Nat} {g0 : g_H} {s0 : Sg} (c : CI a0 F g0 s0 n1 n2 n3 n4 q) (hq : q + N < 2 ^ 26) :
    ∀ m k fuel : Nat, ∀ g : g_H, k + m = N → m < fuel → MX M g (quF s0 k) n1 n2 n3 n4 →
    ∃ g', f7_pass_26 fuel g M (nI N) (arr (quF s0 k) - arr s0) (nI k) = some (arr (quF s0 N) - arr s0, g') ∧ Fm M g g' ∧ MX M g' (quF s0 N) n1 n2 n3 n4 := by
  intro m
  induction m with
  | zero =>
    intro k fuel g him hf mx
    obtain ⟨fu, rfl⟩ : ∃ fu, fuel = fu + 1 := ⟨fuel - 1, by omega⟩
    have : k = N := by omega
    subst this
    refine ⟨g, ?_, Fm.rf, mx⟩
    show f7_pass_26b _ g M (nI k) _ (nI k) = _
    unfold f7_pass_26b
    rw [if_pos (Int32.le_refl _)]
  | succ m ih =>
    intro k fuel g him hf mx
    obtain ⟨fu, rfl⟩ : ∃ fu, fuel = fu + 1 := ⟨fuel - 1, by omega⟩
    obtain ⟨gk, ck⟩ := c_qus c k (by omega)
    obtain ⟨g1, y1, y2, y3⟩ := m_quarterOn ck mx
    obtain ⟨g2, z1, z2, z3⟩ := ih (k + 1) fu g1 (by omega) (by omega) y3
    refine ⟨g2, ?_, y2.tr z2, z3⟩
    show f7_pass_26b (f7_pass_26 fu) g M (nI N) _ (nI k) = _
    have e : arr (quF s0 k) - arr s0 + (arr (quS (quF s0 k)) - arr (quF s0 k)) = arr (quF s0 (k + 1)) - arr s0 := by
      show _ = arr (quS (quF s0 k)) - arr s0
      exact i_tel _ _ _
    unfold f7_pass_26b
    rw [if_neg (nI_ge (by omega) (by omega)), if_pos mx.1.1, y1, gB2_some, nI_1, e]
    exact z1
