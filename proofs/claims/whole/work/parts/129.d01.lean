/-! PURE: a quarter, quarters -/
theorem p_move65 {a0 F n1 n2 n3 n4 q b z j : Nat} {g : g_H} {s : Sg} (c : CI a0 F g (su s 3 b 7 (onS s b)) n1 n2 n3 n4 q) (hb : b < n3) (wb : WB s n1 b) (h5 : s 3 b 5 = nI z) (hz : 2 ≤ z) (hz7 : z ≤ 7) (hj : j < n2) (hl : sl s (s 4 b (cl (s 3 b 0))) (s 4 b (cl (nextS s b))) = nI j) {op : Int32} (hop : op = 0 ∨ op = 1) (ho : op = 1 ↔ opS s j) :
    ∃ g', f1_moveOn_65 g F (nI j) (F + 2 + 5 * b) op = some g' ∧ Fr F g g' ∧ CI a0 F g' (flyS s b (s 4 b (cl (s 3 b 0)))) n1 n2 n3 n4 q := by
  obtain ⟨b1, b2, b3, b4, b5, b6, b7, b8, b9, b10, b11, b12, b13, b14, b15, b16, b17, b18, b19, b20⟩ := clB c hb
  obtain ⟨g', x1, x2, x3⟩ := p_fly c hb wb h5 hz hz7 hj hl hop ho
  refine ⟨g', ?_, x2, x3⟩
  have s2 : (su s 3 b 7 (onS s b)) 2 j 2 = s 2 j 2 := su_t (by omega)
  unfold f1_moveOn_65
  rw [if_pos b1, b5, ob_some, if_pos b17, p_lengthOf c hj, gB2_some, if_pos b11, s2, x1, ob_some]
theorem p_moveOn {a0 F n1 n2 n3 n4 q b : Nat} {g : g_H} {s : Sg} (c : CI a0 F g s n1 n2 n3 n4 q) (hb : b < n3) {here : Int32} (hh : here = s 4 b (cl (s 3 b 0))) :
    ∃ g', f1_moveOn g F (F + 2 + 5 * b) here = some g' ∧ Fr F g g' ∧ CI a0 F g' (mvS s b here) n1 n2 n3 n4 q := by
  obtain ⟨b1, b2, b3, b4, b5, b6, b7, b8, b9, b10, b11, b12, b13, b14, b15, b16, b17, b18, b19, b20⟩ := clB c hb
  obtain ⟨z, p, h1, h2, h3, h4, h5, h6, h7, h8⟩ := c.house hb
  have cp : cl (nI p) = p := cl_nI (by omega)
  have hin : inR (nI n1) here := by rw [hh, h3, cp]; exact h8
  unfold f1_moveOn mvS
  rw [if_pos b1, b5, ob_some, if_pos b17, p_hasHive c hin, gB2_some, if_pos b11]
  by_cases r : s 3 b 4 = 0
  · rw [if_neg (c := ¬ s 3 b 4 = 0) (fun k => k r)]
    by_cases hv : ¬ s 1 (cl here) 0 = 0 ∧ ¬ (10 : Int32) ≤ s 3 b 2
    · rw [if_pos hv, if_neg hv.1]
      obtain ⟨g', x1, x2, x3⟩ := p_rest2 c hb r (v := 1) n10 hv.2
      rw [x1, gB2_some, if_neg n10]
      exact ⟨g', rfl, x2, x3⟩
    · rw [if_neg hv]
      obtain ⟨g1, x1, x2, x3⟩ := p_rest3 c hb r (v := if s 1 (cl here) 0 = 0 then 0 else 1) (by
        by_cases k : s 1 (cl here) 0 = 0
        · exact Or.inl (if_pos k)
        · refine Or.inr ?_
          by_cases k2 : (10 : Int32) ≤ s 3 b 2
          · exact k2
          · exact absurd ⟨k, k2⟩ hv)
      obtain ⟨c1, c2, c3, c4, c5, c6, c7, c8, c9, c10, c11, c12, c13, c14, c15, c16, c17, c18, c19, c20⟩ := clB x3 hb
      obtain ⟨z1, p1, i1, i2, i3, i4, i5, i6, i7, i8⟩ := x3.house hb
      rw [x1, gB2_some, if_pos rfl, if_pos c11, c12, ob_some, if_pos c16, p_length c16, gB2_some, i6]
      have z7 : z1 < 2 ^ 31 := by omega
      by_cases hz : s 3 b 5 = 1
      · rw [if_pos hz]
        have e : z1 = 1 := nI_inj (by omega) (by omega) (i1.symm.trans hz)
        subst e
        rw [if_neg (show ¬ (1 : Int32) < nI 1 by decide)]
        exact ⟨g1, rfl, x2, x3⟩
      · rw [if_neg hz]
        have hz2 : 2 ≤ z1 := by
          rcases Nat.lt_or_ge z1 2 with k | k
          · exfalso
            have : z1 = 1 := by omega
            subst this
            exact hz i1
          · exact k
        have hlt : (1 : Int32) < nI z1 := nI_lt (a := 1) (by omega) (by omega)
        obtain ⟨g2, y1, y2, y3⟩ := p_turn x3 hb
        obtain ⟨d1, d2, d3, d4, d5, d6, d7, d8, d9, d10, d11, d12, d13, d14, d15, d16, d17, d18, d19, d20⟩ := clB y3 hb
        obtain ⟨w1, w2⟩ := p_nextLane y3 hb (x3.wb hb) i1 hz2 i2
        rw [if_pos hlt, if_pos c11, y1, ob_some, if_pos d11, w1, gB2_some, if_pos d1, hh]
        obtain ⟨j, hj, hl⟩ := sl_in (by exact x3.1.1.2.2.1) x3.1.1.2.2.2.1 w2
        rw [hl]
        obtain ⟨v1, v2⟩ := p_isOpen y3 hj
        have e2 : (su s 3 b 7 (onS s b)) 2 = s 2 := su_T (by omega)
        have e0 : (su s 3 b 7 (onS s b)) 0 = s 0 := su_T (by omega)
        have eo : opS (su s 3 b 7 (onS s b)) j ↔ opS s j := by unfold opS hourS; rw [e2, e0]
        by_cases k : nI j = gI g2 F 7
        · rw [if_pos k]
          unfold f1_moveOn_60
          obtain ⟨g3, u1, u2, u3⟩ := p_move65 y3 hb (x3.wb hb) i1 hz2 i2 hj hl (op := 1) (Or.inr rfl) ⟨fun _ => eo.mp (v1 k), fun _ => rfl⟩
          exact ⟨g3, u1, (x2.tr y2).tr u2, u3⟩
        · rw [if_neg k, d5, ob_some, if_pos d17, d3]
          obtain ⟨v, v3, v4, v5⟩ := v2 k
          rw [v3, gB2_some]
          obtain ⟨g3, u1, u2, u3⟩ := p_move65 y3 hb (x3.wb hb) i1 hz2 i2 hj hl v4 (v5.trans eo)
          refine ⟨g3, ?_, (x2.tr y2).tr u2, u3⟩
          rcases v4 with q | q
          · rw [q] at u1 ⊢
            rw [if_pos rfl]; exact u1
          · rw [q] at u1 ⊢
            rw [if_neg n10]; exact u1
  · rw [if_pos r]
    obtain ⟨g', x1, x2, x3⟩ := p_rest1 c hb r (if s 1 (cl here) 0 = 0 then 0 else 1)
    rw [x1, gB2_some, if_neg n10]
    exact ⟨g', rfl, x2, x3⟩
theorem p_beeStep {a0 F n1 n2 n3 n4 q b : Nat} {g : g_H} {s : Sg} (c : CI a0 F g s n1 n2 n3 n4 q) (hb : b < n3) :
    ∃ g', (∀ K, f1_passQuarter_2b K g F (nI b) = K g' F (nI b + 1)) ∧ Fr F g g' ∧ CI a0 F g' (beeS s b) n1 n2 n3 n4 q := by
  obtain ⟨b1, b2, b3, b4, b5, b6, b7, b8, b9, b10, b11, b12, b13, b14, b15, b16, b17, b18, b19, b20⟩ := clB c hb
  obtain ⟨x1, x2, x3, x4, x5, x6, x7, x8⟩ := clC c hb
  have e3 : gI g F 3 = nI n3 := c.2.2.1.1.trans c.1.2.1
  have hix : ¬ (nI b < 0 ∨ 6 ≤ Int32.toNatClampNeg (nI b)) := nI_in (by omega) (by omega)
  have cb : Int32.toNatClampNeg (nI b) = b := cl_nI (by omega)
  -- behind the step on the lane
  have main : ∀ g1 s1, CI a0 F g1 s1 n1 n2 n3 n4 q → ∃ g', (∀ K, f1_passQuarter_34 K g1 F (nI b) (F + 2 + 5 * b) = K g' F (nI b + 1)) ∧ Fr F g1 g' ∧ CI a0 F g' (if s1 3 b 1 = 0 then mvS (coF (hoF s1 b (s1 4 b (cl (s1 3 b 0))) n4) b (s1 4 b (cl (s1 3 b 0))) n4) b (s1 4 b (cl (s1 3 b 0))) else s1) n1 n2 n3 n4 q := by
    intro g1 s1 c1
    obtain ⟨d1, d2, d3, d4, d5, d6, d7, d8, d9, d10, d11, d12, d13, d14, d15, d16, d17, d18, d19, d20⟩ := clB c1 hb
    obtain ⟨y1, y2, y3, y4, y5, y6, y7, y8⟩ := clC c1 hb
    unfold f1_passQuarter_34 f1_passQuarter_64
    by_cases l : s1 3 b 1 = 0
    · rw [if_pos l]
      obtain ⟨z, p, h1, h2, h3, h4, h5, h6, h7, h8⟩ := c1.house hb
      have cp : cl (nI p) = p := cl_nI (by omega)
      have hin : inR (nI n1) (s1 4 b (cl (s1 3 b 0))) := by rw [h3, cp]; exact h8
      have hne : s1 4 b (cl (s1 3 b 0)) ≠ -1 := by
        intro e
        rw [e] at hin
        exact hin.1 (by decide)
      obtain ⟨g2, p1, p2, p3⟩ := p_handOver c1 hb rfl
      obtain ⟨g3, q1, q2, q3⟩ := p_collect p3 hb hne
      have h0 : s1 4 b (cl (s1 3 b 0)) = (coF (hoF s1 b (s1 4 b (cl (s1 3 b 0))) n4) b (s1 4 b (cl (s1 3 b 0))) n4) 4 b (cl ((coF (hoF s1 b (s1 4 b (cl (s1 3 b 0))) n4) b (s1 4 b (cl (s1 3 b 0))) n4) 3 b 0)) := by
        rw [coF_3, hoF_p.1, coF_same.2.2.2.1, hoF_same.2.2.2.1]
      obtain ⟨g4, r1, r2, r3⟩ := p_moveOn q3 hb h0
      refine ⟨g4, fun K => ?_, (p2.tr q2).tr r2, r3⟩
      have f2 : (gS g2 F).1 = 2 := (clB p3 hb).1
      have f3 : (gS g3 F).1 = 2 := (clB q3 hb).1
      rw [if_pos d11, y2, if_pos l, clHouse c1 hb, gB2_some, if_pos d1, p1, ob_some, if_pos f2, q1, ob_some, if_pos f3, r1, ob_some]
    · rw [if_neg l]
      refine ⟨g1, fun K => ?_, Fr.rf, c1⟩
      rw [if_pos d11, y2, if_neg l]
  have hn4 : cl ((if 0 < s 3 b 1 then su s 3 b 1 (s 3 b 1 - 1) else s) 0 0 4) = n4 := by
    have : (if 0 < s 3 b 1 then su s 3 b 1 (s 3 b 1 - 1) else s) 0 0 4 = nI n4 := by
      split
      · rw [su3_0]; exact c.1.2.2.2.1
      · exact c.1.2.2.2.1
    rw [this]
    exact cl_nI (by omega)
  by_cases l : s 3 b 1 ≤ 0
  · obtain ⟨g', m1, m2, m3⟩ := main g s c
    refine ⟨g', fun K => ?_, m2, ?_⟩
    · unfold f1_passQuarter_2b
      rw [if_pos b1, e3, if_neg (nI_ge hb (by omega)), b6, ob_some, b8, if_pos rfl, if_pos hix, cb, b10, ob_some, if_pos b11, x2, if_pos l]
      exact m1 K
    · unfold beeS
      rw [if_neg (Int32.not_lt.mpr l)]
      rw [if_neg (Int32.not_lt.mpr l)] at hn4
      simp only [hn4]
      exact m3
  · have r1 := RD.bee (v := s 3 b 1 - 1) c.2.2 hb b18 b19 (show fld 3 1 by unfold fld; omega)
    have hS : Same s (su s 3 b 1 (s 3 b 1 - 1)) := Same.b (by omega)
    have c1 : CI a0 F (gPI g (F + 2 + 5 * b) 3 (s 3 b 1 - 1)) (su s 3 b 1 (s 3 b 1 - 1)) n1 n2 n3 n4 q := by
      refine c.step (putB (by omega)) hS ?_ r1
      refine c.1.bee hS su3_5 su3_0 hb (fun b' h' => su3_o h') ?_
      obtain ⟨z, p, l', st, ho, e1, e2, e3, e4, e5, e6, e7, e8, e9, e10, e11, e12, e13, e14, e15⟩ := c.wb hb
      have hl0 : 0 < l' := by
        rcases Nat.eq_zero_or_pos l' with k | k
        · exfalso; apply l; rw [e6, k]; decide
        · exact k
      have s4 : (su s 3 b 1 (s 3 b 1 - 1)) 4 = s 4 := su_T (by omega)
      refine ⟨z, p, l' - 1, st, ho, ?_, e2, e3, ?_, e5, ?_, by omega, ?_, e9, ?_, e11, ?_, ?_, ?_, ?_⟩
      · rw [← e1]; simp [su]
      · rw [← e4]; simp [su]
      · rw [su_s, e6, show (1 : Int32) = nI 1 from rfl, nI_sub hl0]
      · rw [← e8]; simp [su]
      · rw [← e10]; simp [su]
      · simpa [su] using e12
      · simpa [su] using e13
      · rw [s4]; exact e14
      · intro k hk
        rw [s4, hS.slE]
        exact e15 k hk
    obtain ⟨g', m1, m2, m3⟩ := main _ _ c1
    refine ⟨g', fun K => ?_, (putB (by omega)).tr m2, ?_⟩
    · unfold f1_passQuarter_2b
      rw [if_pos b1, e3, if_neg (nI_ge hb (by omega)), b6, ob_some, b8, if_pos rfl, if_pos hix, cb, b10, ob_some, if_pos b11, x2, if_neg l]
      exact m1 K
    · unfold beeS
      rw [if_pos (Int32.not_le.mp l)]
      rw [if_pos (Int32.not_le.mp l)] at hn4
      simp only [hn4]
      exact m3
