/-! PURE: the model deals, the loops -/
theorem c_ho {a0 F n1 n2 n3 n4 q b : Nat} {g : g_H} {s : Sg} (c : CI a0 F g s n1 n2 n3 n4 q) (hb : b < n3) (i : Nat) (hi : i ≤ n4) : ∃ g', CI a0 F g' (hoF s b (s 4 b (cl (s 3 b 0))) i) n1 n2 n3 n4 q := by
  induction i with
  | zero => exact ⟨g, c⟩
  | succ i ih =>
    obtain ⟨g1, c1⟩ := ih (by omega)
    by_cases hc : car (hoF s b (s 4 b (cl (s 3 b 0))) i) b ≤ 0
    · have h0 := car0 c1.1.2.2.2.1 c1.1.2.2.2.2.1 hc
      rw [hoF_none (i := i) (n := i + 1) (fun j _ h2 => h0 j (by omega)) (by omega)]
      exact ⟨g1, c1⟩
    · obtain ⟨g2, -, -, x⟩ := p_hoStep c1 hb (show i < n4 by omega) hc
      rw [hoF_p.1, hoF_same.2.2.2.1] at x
      exact ⟨g2, x⟩
theorem c_co {a0 F n1 n2 n3 n4 q b : Nat} {g : g_H} {s : Sg} (c : CI a0 F g s n1 n2 n3 n4 q) (hb : b < n3) {here : Int32} (hh : here ≠ -1) (i : Nat) (hi : i ≤ n4) : ∃ g', CI a0 F g' (coF s b here i) n1 n2 n3 n4 q := by
  induction i with
  | zero => exact ⟨g, c⟩
  | succ i ih =>
    obtain ⟨g1, c1⟩ := ih (by omega)
    by_cases hc : (3 : Int32) ≤ car (coF s b here i) b
    · rw [coF_none (i := i) (n := i + 1) hc (by omega)]
      exact ⟨g1, c1⟩
    · obtain ⟨g2, -, -, x⟩ := p_coStep c1 hb (show i < n4 by omega) hc hh
      exact ⟨g2, x⟩
theorem m_coStep {M a0 F n1 n2 n3 n4 q b i : Nat} {g g0 : g_H} {s : Sg} {x2 : Int32} (c : CI a0 F g0 s n1 n2 n3 n4 q) (m : MX M g s n1 n2 n3 n4) (hb : b < n3) (hi : i < n4) {here : Int32} (hh : inR (nI n1) here) :
    ∃ g', (∀ K, f7_deal_147b K g M (nI b) x2 here (nI i) = K g' M (nI b) x2 here (nI i + 1)) ∧ Fm M g g' ∧ MX M g' (coS s b here i) n1 n2 n3 n4 ∧ arr (coS s b here i) = arr s := by
  have w := c.1
  have h6 := w.2.2.1
  have h20 := w.2.2.2.2.1
  have w4 := w.2.2.2.1
  have h14 := w.1.2.1
  have e9 : gI g M 9 = nI n4 := m.2.1.2.2.2.trans w4
  have l1 := m_le (k := 1) (y := (1 : Int32)) m h20 hi (by omega) rfl rfl
  have l0 := m_le (k := 0) (y := (0 : Int32)) m h20 hi (by omega) rfl rfl
  have hto : inR (nI n1) (s 5 i 0) := (w.2.2.2.2.2.2.2.2 i hi).1
  obtain ⟨cc, hc3, hcc⟩ := (w.2.2.2.2.2.2.2.1 b hb).2
  have hskip : ¬ (s 5 i 1 = here ∧ ¬ (3 : Int32) ≤ car s b ∧ wy s (tg s b (s 5 i 0)) (s 5 i 0) < wy s here (s 5 i 0)) → coS s b here i = s := fun h => if_neg h
  by_cases h : s 5 i 1 = here
  · by_cases h3 : car s b = 3
    · have e := hskip fun k => k.2.1 (by rw [h3]; exact Int32.le_refl _)
      refine ⟨g, fun K => ?_, Fm.rf, by rw [e]; exact m, by rw [e]⟩
      unfold f7_deal_147b f7_deal_234
      rw [if_pos m.1.1, e9, if_neg (nI_ge hi (by omega)), l1, gB2_some, if_pos h, if_pos m.1.1, m_carries m h20 w4 rfl, gB2_some, if_pos h3]
    · have h3' : ¬ (3 : Int32) ≤ car s b := by
        intro k
        apply h3
        rw [hcc] at k ⊢
        have : 3 ≤ cc := (nI_leI (a := 3) (by omega) (by omega)).mp k
        rw [show cc = 3 by omega]
        rfl
      have e0 := m_targetOf (to := s 5 i 0) m w.1 h6 hb (c.wb hb) hto rfl
      obtain ⟨y, hy, hy2⟩ := inR_nat (by omega) hto
      rcases tg_in (to := s 5 i 0) (c.wb hb) with ht | ht
      · have e := hskip fun k => by
          have k2 := k.2.2
          rw [ht] at k2
          have : wy s (-1) (s 5 i 0) = 1000 := if_neg fun q => q.1.1 (by decide)
          rw [this] at k2
          obtain ⟨d, hd, hd2⟩ := wy_nat w.1 here (s 5 i 0)
          rw [hd2] at k2
          exact nI_nlt (a := 1000) hd (by omega) k2
        refine ⟨g, fun K => ?_, Fm.rf, by rw [e]; exact m, by rw [e]⟩
        unfold f7_deal_147b f7_deal_234
        rw [if_pos m.1.1, e9, if_neg (nI_ge hi (by omega)), l1, gB2_some, if_pos h, if_pos m.1.1, m_carries m h20 w4 rfl, gB2_some, if_neg h3, if_pos m.1.1, l0, gB2_some, if_pos m.1.1, e0, gB2_some, if_pos ht]
      · obtain ⟨x, hx, hx2⟩ := inR_nat (by omega) ht
        obtain ⟨x', hx', hx2'⟩ := inR_nat (by omega) hh
        obtain ⟨d, hd, hd2⟩ := wy_nat w.1 here (s 5 i 0)
        obtain ⟨d', hd', hd2'⟩ := wy_nat w.1 (tg s b (s 5 i 0)) (s 5 i 0)
        have a1 := m_away m w.1 hx hy hx2 hy2
        have a2 := m_away m w.1 hx' hy hx2' hy2
        by_cases k : wy s (tg s b (s 5 i 0)) (s 5 i 0) < wy s here (s 5 i 0)
        · obtain ⟨g', t1, t2, t3⟩ := m_take m h20 hi rfl rfl
          have e : coS s b here i = takeS s b i := if_pos ⟨h, h3', k⟩
          have kk : ¬ fi (wy s here (s 5 i 0)) ≤ fi (wy s (tg s b (s 5 i 0)) (s 5 i 0)) := by
            rw [hd2, hd2'] at k ⊢
            exact Int32.not_le.mpr ((fi_lt hd' hd).mpr k)
          refine ⟨g', fun K => ?_, t2, by rw [e]; exact t3, by rw [e, arr_take]⟩
          unfold f7_deal_147b f7_deal_234
          rw [if_pos m.1.1, e9, if_neg (nI_ge hi (by omega)), l1, gB2_some, if_pos h, if_pos m.1.1, m_carries m h20 w4 rfl, gB2_some, if_neg h3, if_pos m.1.1, l0, gB2_some, if_pos m.1.1, e0, gB2_some, if_neg (m1_ne ht), if_pos m.1.1, l0, gB2_some, if_pos m.1.1, a1, gB2_some, if_pos m.1.1, l0, gB2_some, if_pos m.1.1, a2, gB2_some, if_neg kk, if_pos m.1.1, t1, ob_some]
        · have e := hskip fun q => k q.2.2
          have kk : fi (wy s here (s 5 i 0)) ≤ fi (wy s (tg s b (s 5 i 0)) (s 5 i 0)) := by
            rw [hd2, hd2'] at k ⊢
            exact Int32.not_lt.mp fun q => k ((fi_lt hd' hd).mp q)
          refine ⟨g, fun K => ?_, Fm.rf, by rw [e]; exact m, by rw [e]⟩
          unfold f7_deal_147b f7_deal_234
          rw [if_pos m.1.1, e9, if_neg (nI_ge hi (by omega)), l1, gB2_some, if_pos h, if_pos m.1.1, m_carries m h20 w4 rfl, gB2_some, if_neg h3, if_pos m.1.1, l0, gB2_some, if_pos m.1.1, e0, gB2_some, if_neg (m1_ne ht), if_pos m.1.1, l0, gB2_some, if_pos m.1.1, a1, gB2_some, if_pos m.1.1, l0, gB2_some, if_pos m.1.1, a2, gB2_some, if_pos kk]
  · have e := hskip fun q => h q.1
    refine ⟨g, fun K => ?_, Fm.rf, by rw [e]; exact m, by rw [e]⟩
    unfold f7_deal_147b f7_deal_234
    rw [if_pos m.1.1, e9, if_neg (nI_ge hi (by omega)), l1, gB2_some, if_neg h]
theorem m_coLoop {M a0 F n1 n2 n3 n4 q b : Nat} {g0 : g_H} {s0 : Sg} {x2 : Int32} (c : CI a0 F g0 s0 n1 n2 n3 n4 q) (hb : b < n3) {here : Int32} (hh : inR (nI n1) here) :
    ∀ k i fuel : Nat, ∀ g : g_H, i + k = n4 → k < fuel → MX M g (coF s0 b here i) n1 n2 n3 n4 →
    ∃ g', f7_deal_147 fuel g M (nI b) x2 here (nI i) = some (x2, g') ∧ Fm M g g' ∧ MX M g' (coF s0 b here n4) n1 n2 n3 n4 ∧ arr (coF s0 b here n4) = arr (coF s0 b here i) := by
  intro k
  have h20 := c.1.2.2.2.2.1
  induction k with
  | zero =>
    intro i fuel g h hf m
    obtain ⟨fu, rfl⟩ : ∃ fu, fuel = fu + 1 := ⟨fuel - 1, by omega⟩
    have : i = n4 := by omega
    subst this
    refine ⟨g, ?_, Fm.rf, m, rfl⟩
    show f7_deal_147b _ g M (nI b) x2 here (nI i) = _
    unfold f7_deal_147b
    rw [if_pos m.1.1, m.2.1.2.2.2, coF_same.1 4 (by omega), c.1.2.2.2.1, if_pos (Int32.le_refl _)]
  | succ k ih =>
    intro i fuel g h hf m
    obtain ⟨fu, rfl⟩ : ∃ fu, fuel = fu + 1 := ⟨fuel - 1, by omega⟩
    obtain ⟨g0', c'⟩ := c_co c hb (m1_ne hh) i (by omega)
    obtain ⟨g1, x1, x2', x3, x4⟩ := m_coStep (x2 := x2) c' m hb (show i < n4 by omega) hh
    obtain ⟨g2, y1, y2, y3, y4⟩ := ih (i + 1) fu g1 (by omega) (by omega) x3
    refine ⟨g2, ?_, x2'.tr y2, y3, y4.trans x4⟩
    show f7_deal_147b (f7_deal_147 fu) g M (nI b) x2 here (nI i) = _
    rw [x1, nI_1]
    exact y1
theorem su_v6 {s : Sg} {b : Nat} {v0 x : Int32} (h : v0 + x = s 3 b 6) : su (su s 3 b 6 v0) 3 b 6 (v0 + x) = s := by rw [su_su, h, su_self]
theorem m_hoLoop {M a0 F n1 n2 n3 n4 q b : Nat} {g0 : g_H} {s0 : Sg} (c : CI a0 F g0 s0 n1 n2 n3 n4 q) (hb : b < n3) {here : Int32} (hq : here = s0 4 b (cl (s0 3 b 0))) (hh : inR (nI n1) here) :
    ∀ k i fuel : Nat, ∀ (g : g_H) (x2 : Int32), i + k = n4 → k < fuel → MX M g (su (hoF s0 b here i) 3 b 6 (s0 3 b 6)) n1 n2 n3 n4 → x2 = hoF s0 b here i 3 b 6 - s0 3 b 6 → x2 = arr (hoF s0 b here i) - arr s0 →
    ∃ g', f7_deal_11 fuel g M (nI b) x2 here (nI i) = some (arr (coF (hoF s0 b here n4) b here n4) - arr s0, g') ∧ Fm M g g' ∧ MX M g' (coF (hoF s0 b here n4) b here n4) n1 n2 n3 n4 := by
  intro k
  have h20 := c.1.2.2.2.2.1
  have h6 := c.1.2.2.1
  induction k with
  | zero =>
    intro i fuel g x2 h hf m hx hA
    obtain ⟨fu, rfl⟩ : ∃ fu, fuel = fu + 1 := ⟨fuel - 1, by omega⟩
    have : i = n4 := by omega
    subst this
    obtain ⟨g0', c'⟩ := c_ho c hb i (by omega)
    rw [← hq] at c'
    have hv : s0 3 b 6 + x2 = hoF s0 b here i 3 b 6 := by
      rw [hx, Int32.add_comm, Int32.sub_add_cancel]
    have m1 := m.putB (b := b) (k := 6) (v := s0 3 b 6 + x2) (by omega) (by omega)
    rw [su_v6 hv] at m1
    obtain ⟨g2, y1, y2, y3, y4⟩ := m_coLoop (x2 := x2) c' hb hh i 0 300 _ (by omega) (by omega) m1
    refine ⟨g2, ?_, fmB.tr y2, y3⟩
    show f7_deal_11b _ g M (nI b) x2 here (nI i) = _
    have e9 : gI g M 9 = nI i := m.2.1.2.2.2.trans ((su_t (by omega)).trans ((hoF_same.1 4 (by omega)).trans c.1.2.2.2.1))
    unfold f7_deal_11b
    rw [if_pos m.1.1, e9, if_pos (Int32.le_refl _), m_be (k := 6) (y := (6 : Int32)) m h6 hb (by omega) rfl rfl, gB2_some, su_s, if_pos m.1.1, m_setBe (k := 6) (y := (6 : Int32)) m h6 hb (by omega) rfl rfl, ob_some, y4]
    rw [show arr (coF (hoF s0 b here i) b here 0) = arr (hoF s0 b here i) from rfl, ← hA]
    exact y1
  | succ k ih =>
    intro i fuel g x2 h hf m hx hA
    obtain ⟨fu, rfl⟩ : ∃ fu, fuel = fu + 1 := ⟨fuel - 1, by omega⟩
    obtain ⟨g0', c'⟩ := c_ho c hb i (by omega)
    rw [← hq] at c'
    obtain ⟨g1, x2', x1, x3, x4, x5, x6⟩ := m_hoStep (x2 := x2) (here := here) c' m hb (show i < n4 by omega)
    obtain ⟨g2, y1, y2, y3⟩ := ih (i + 1) fu g1 x2' (by omega) (by omega) x4 (x5 hx) (x6 _ hA)
    refine ⟨g2, ?_, x3.tr y2, y3⟩
    show f7_deal_11b (f7_deal_11 fu) g M (nI b) x2 here (nI i) = _
    rw [x1, nI_1]
    exact y1
theorem CI.hin {a0 F n1 n2 n3 n4 q b : Nat} {g : g_H} {s : Sg} (c : CI a0 F g s n1 n2 n3 n4 q) (hb : b < n3) : inR (nI n1) (s 4 b (cl (s 3 b 0))) := by
  obtain ⟨z, p, h1, h2, h3, h4, h5, h6, h7, h8⟩ := c.house hb
  rw [h3, show cl (nI p) = p from cl_nI (by omega)]
  exact h8
theorem m_deal {M a0 F n1 n2 n3 n4 q b : Nat} {g g0 : g_H} {s : Sg} {x : Int32} (c : CI a0 F g0 s n1 n2 n3 n4 q) (m : MX M g s n1 n2 n3 n4) (hb : b < n3) (hx : x = nI b) :
    ∃ g', f7_deal g M x = some (arr (coF (hoF s b (s 4 b (cl (s 3 b 0))) n4) b (s 4 b (cl (s 3 b 0))) n4) - arr s, g') ∧ Fm M g g' ∧ MX M g' (coF (hoF s b (s 4 b (cl (s 3 b 0))) n4) b (s 4 b (cl (s 3 b 0))) n4) n1 n2 n3 n4 := by
  subst hx
  have h20 := c.1.2.2.2.2.1
  have e : su (hoF s b (s 4 b (cl (s 3 b 0))) 0) 3 b 6 (s 3 b 6) = s := su_self
  obtain ⟨g', x1, x2, x3⟩ := m_hoLoop (M := M) c hb rfl (c.hin hb) n4 0 300 g 0 (by omega) (by omega) (by rw [e]; exact m) (Int32.sub_self _).symm (Int32.sub_self _).symm
  refine ⟨g', ?_, x2, x3⟩
  unfold f7_deal
  rw [if_pos m.1.1, m_house m c.1.2.2.1 hb (c.wb hb) rfl, gB2_some]
  exact x1
