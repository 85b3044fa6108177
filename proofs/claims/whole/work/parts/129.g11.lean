/-! PURE: bribe -/
theorem clip_in (y : Int32) : ∃ ho, ho ≤ 20 ∧ clip y = nI ho := by
  unfold clip
  by_cases c : y < (20 : Int32)
  · rw [if_pos c]
    by_cases d : (0 : Int32) < y
    · rw [if_pos d]
      obtain ⟨j, hj, rfl⟩ := nI_of (x := y) (fun k => absurd (Int32.lt_trans d k) Int32.lt_irrefl)
      have := (nI_ltI (b := 20) hj (by omega)).mp c
      exact ⟨j, by omega, rfl⟩
    · rw [if_neg d]; exact ⟨0, by omega, rfl⟩
  · rw [if_neg c, if_pos (by decide)]; exact ⟨20, by omega, rfl⟩
theorem clHon {a0 F n1 n2 n3 n4 q b : Nat} {g : g_H} {s : Sg} (c : CI a0 F g s n1 n2 n3 n4 q) (hb : b < n3) (x : Int32) : f0_addHonour g (F + 2 + 5 * b) x = some (gPI g (F + 2 + 5 * b) 5 (clip (s 3 b 3 + x))) ∧ Fr F g (gPI g (F + 2 + 5 * b) 5 (clip (s 3 b 3 + x))) ∧ CI a0 F (gPI g (F + 2 + 5 * b) 5 (clip (s 3 b 3 + x))) (su s 3 b 3 (clip (s 3 b 3 + x))) n1 n2 n3 n4 q := by
  obtain ⟨b1, b2, b3, b4, b5, b6, b7, b8, b9, b10, b11, b12, b13, b14, b15, b16, b17, b18, b19, b20⟩ := clB c hb
  obtain ⟨x1, x2, x3, x4, x5, x6, x7, x8⟩ := clC c hb
  have hS : Same s (su s 3 b 3 (clip (s 3 b 3 + x))) := Same.b (by omega)
  obtain ⟨ho', h1, h2⟩ := clip_in (s 3 b 3 + x)
  refine ⟨by rw [p_addHonour b11, x4], putB (by omega), c.step (putB (by omega)) hS ?_ (RD.bee c.2.2 hb b18 b19 (show fld 5 3 by unfold fld; omega))⟩
  refine c.1.bee hS su3_5 su3_0 hb (fun b' h' => su3_o h') ?_
  obtain ⟨z, p, l, st, ho, e1, e2, e3, e4, e5, e6, e7, e8, e9, e10, e11, e12, e13, e14, e15⟩ := c.wb hb
  exact WB.keep hS (c.wb hb) (by simp [su]) (by simp [su]) ⟨st, e9, by rw [← e8]; simp [su]⟩ ⟨ho', h1, by rw [su_s]; exact h2⟩ (by simpa [su] using e12) (by simpa [su] using e13)
theorem take_hon {s : Sg} {b i : Nat} {v : Int32} : takeS (su s 3 b 3 v) b i = su (takeS s b i) 3 b 3 v := by
  unfold takeS
  rw [su_t (by omega), su_comm (t := 3) (t' := 5) (Or.inl (by omega)), su_comm (t := 3) (t' := 5) (Or.inl (by omega)), su_comm (t := 3) (t' := 5) (Or.inl (by omega))]
theorem o_bribe {a0 n1 n2 n3 n4 q : Nat} {g : g_H} {s : Sg} (I : ClI a0 g s n1 n2 n3 n4 q) (x y : Int32) : OpR a0 g s n1 n2 n3 n4 q (f6_bribe g a0 x y) (fun h => f7_bribe h (a0 + 153) x y) c2 := by
  obtain ⟨s1, s2, s3, s4, s5, s6, s7, s8, s9, s10, s11, s12, s13, s14, s15⟩ := I.sh
  have e3 := I.1.1.2.1
  have e4 := I.1.1.2.2.2.1
  have fail : ∀ (h : g_H) (a b : Int32) (k : Int32), MX (a0 + 153) h s n1 n2 n3 n4 → k ≠ 0 → f7_bribe_58 h (a0 + 153) a b (a0 + 153) k = some (0, gPI (gPI h (a0 + 153) 0 0) (a0 + 153) 0 k) := fun h a b k m hk => by
    unfold f7_bribe_58
    rw [if_pos m.1.1, if_pos m.1.1, show gI (gPI h (a0 + 153) 0 k) (a0 + 153) 0 = k by simp [gI_PI], if_neg hk, gPI_PI]
  by_cases hx : inR (nI n3) x
  · by_cases hy : inR (nI n4) y
    · obtain ⟨b, hb, rfl⟩ := inR_nat (by omega) hx
      obtain ⟨i, hi, rfl⟩ := inR_nat (by omega) hy
      obtain ⟨b1, b2, b3, b4, b5, b6, b7, b8, b9, b10, b11, b12, b13, b14, b15, b16, b17, b18, b19, b20⟩ := clB I.1 hb
      obtain ⟨x1, x2, x3, x4, x5, x6, x7, x8⟩ := clC I.1 hb
      obtain ⟨l1, l2, l3⟩ := clL I.1 hi
      have cb : Int32.toNatClampNeg (nI b) = b := cl_nI (by omega)
      have ci : Int32.toNatClampNeg (nI i) = i := cl_nI (by omega)
      have v1 : gI g (a0 + 43 + 33 + i) 1 = s 5 i 1 := l3 1 (by omega)
      obtain ⟨cc, hc3, hcc⟩ := (I.1.1.2.2.2.2.2.2.2.1 b hb).2
      have hcar : ∀ k : Int32, (nI cc < (3 : Int32)) ↔ cc < 3 := fun _ => nI_ltI (b := 3) (by omega) (by omega)
      have hcar3 : (nI cc = (3 : Int32)) ↔ cc = 3 := nI_eq (b := 3) (by omega) (by omega)
      have bad : (0 < s 3 b 1 ∨ ¬ s 5 i 1 = s 4 b (cl (s 3 b 0)) ∨ ¬ cc < 3) → OpR a0 g s n1 n2 n3 n4 q (f6_bribe g a0 (nI b) (nI i)) (fun h => f7_bribe h (a0 + 153) (nI b) (nI i)) c2 := by
        intro hbad
        refine OpR.thr I 3 (by omega) (by omega) ?_ fun h m => ?_
        · unfold f6_bribe f6_bribe_58
          rw [if_pos s1, p_checkBee I, gB2_some, if_pos hx, if_pos n0e, if_pos s1, p_checkLetter I, gB2_some, if_pos hy, if_pos n0e, if_pos s1, s3, ob_some, if_pos s7, b6, ob_some, b8, if_pos rfl, if_pos (ixOk (by omega) (by omega)), cb, b10, ob_some, ob_some, if_pos s7, b7, ob_some, b9, if_pos rfl, if_pos (ixOk (by omega) (by omega)), ci, l1, ob_some, if_pos b11, x2]
          by_cases k1 : 0 < s 3 b 1
          · rw [if_pos k1]
          · rw [if_neg k1, if_pos l2, clHouse I.1 hb, gB2_some, v1]
            by_cases k2 : s 5 i 1 = s 4 b (cl (s 3 b 0))
            · rw [if_pos k2, if_pos b11, b14, hcc, if_neg fun w => ((hbad.resolve_left k1).resolve_left fun w => w k2) ((hcar 0).mp w)]
            · rw [if_neg k2]
        · unfold f7_bribe f7_bribe_53
          rw [if_pos m.1.1, m_isBee m e3 s14, gB2_some, if_pos hx, if_neg n10, if_pos m.1.1, m_isLetter m e4 s15, gB2_some, if_pos hy, if_neg n10, if_pos m.1.1, m_be (k := 1) (y := (1 : Int32)) m s14 hb (by omega) rfl rfl, gB2_some]
          by_cases k1 : 0 < s 3 b 1
          · rw [if_pos k1, fail h _ _ 2 m (by decide)]
            rfl
          · rw [if_neg k1, if_pos m.1.1, m_le (k := 1) (y := (1 : Int32)) m s15 hi (by omega) rfl rfl, gB2_some, if_pos m.1.1, m_house m s14 hb (I.1.wb hb) rfl, gB2_some]
            by_cases k2 : s 5 i 1 = s 4 b (cl (s 3 b 0))
            · have k3 : cc = 3 := by have := (hbad.resolve_left k1).resolve_left fun w => w k2; omega
              rw [if_pos k2, if_pos m.1.1, m_carries m s15 e4 rfl, gB2_some, hcc, if_pos (hcar3.mpr k3), fail h _ _ 2 m (by decide)]
              rfl
            · rw [if_neg k2, fail h _ _ 2 m (by decide)]
              rfl
      by_cases k1 : 0 < s 3 b 1
      · exact bad (Or.inl k1)
      · by_cases k2 : s 5 i 1 = s 4 b (cl (s 3 b 0))
        · by_cases k3 : cc < 3
          · have hne : s 5 i 1 ≠ -1 := by rw [k2]; exact m1_ne (I.1.hin hb)
            have h3 : ¬ (3 : Int32) ≤ car s b := by rw [hcc]; exact Int32.not_le.mpr ((hcar 0).mpr k3)
            have start : ∀ h, MX (a0 + 153) h s n1 n2 n3 n4 → f7_bribe h (a0 + 153) (nI b) (nI i) = (if (5 : Int32) ≤ s 3 b 3 then f7_bribe_85 (gPI h (a0 + 153) 0 0) (a0 + 153) (nI b) (nI i) 0 else f7_bribe_85 (gPI h (a0 + 153) 0 0) (a0 + 153) (nI b) (nI i) 1) := fun h m => by
              have m' := m.thr (v := 0)
              unfold f7_bribe f7_bribe_58
              rw [if_pos m.1.1, m_isBee m e3 s14, gB2_some, if_pos hx, if_neg n10, if_pos m.1.1, m_isLetter m e4 s15, gB2_some, if_pos hy, if_neg n10, if_pos m.1.1, m_be (k := 1) (y := (1 : Int32)) m s14 hb (by omega) rfl rfl, gB2_some, if_neg k1, if_pos m.1.1, m_le (k := 1) (y := (1 : Int32)) m s15 hi (by omega) rfl rfl, gB2_some, if_pos m.1.1, m_house m s14 hb (I.1.wb hb) rfl, gB2_some, if_pos k2, if_pos m.1.1, m_carries m s15 e4 rfl, gB2_some, hcc, if_neg fun w => absurd (hcar3.mp w) (by omega), if_pos m.1.1, if_pos m.1.1]
              rw [show gI (gPI h (a0 + 153) 0 0) (a0 + 153) 0 = 0 by simp [gI_PI], if_pos rfl, m_be (k := 3) (y := (3 : Int32)) m' s14 hb (by omega) rfl rfl, gB2_some]
            have cstart : f6_bribe g a0 (nI b) (nI i) = (if s 3 b 3 < (5 : Int32) then f6_bribe_81 g (a0 + 43 + 2 + 5 * b) (a0 + 43 + 33 + i) 0 else f6_bribe_81 g (a0 + 43 + 2 + 5 * b) (a0 + 43 + 33 + i) 1) := by
              unfold f6_bribe
              rw [if_pos s1, p_checkBee I, gB2_some, if_pos hx, if_pos n0e, if_pos s1, p_checkLetter I, gB2_some, if_pos hy, if_pos n0e, if_pos s1, s3, ob_some, if_pos s7, b6, ob_some, b8, if_pos rfl, if_pos (ixOk (by omega) (by omega)), cb, b10, ob_some, ob_some, if_pos s7, b7, ob_some, b9, if_pos rfl, if_pos (ixOk (by omega) (by omega)), ci, l1, ob_some, if_pos b11, x2, if_neg k1, if_pos l2, clHouse I.1 hb, gB2_some, v1, if_pos k2, if_pos b11, b14, hcc, if_pos ((hcar 0).mpr k3), x4]
            by_cases k5 : s 3 b 3 < (5 : Int32)
            · obtain ⟨g1, t1, t2, t3⟩ := clTake I.1 hb hi hne h3
              obtain ⟨u1, u2, u3⟩ := clHon t3 hb (-1)
              have e33 : takeS s b i 3 b 3 = s 3 b 3 := by simp [takeS, su]
              rw [e33] at u1 u2 u3
              have hS : Same s (su (takeS s b i) 3 b 3 (clip (s 3 b 3 + -1))) := takeS_same.tr (Same.b (by omega))
              have gB1 : (gS g1 (a0 + 43 + 2 + 5 * b)).1 = 1 := by rw [t2.1]; exact b11
              refine ⟨0, 1, _, _, n1, n2, n3, n4, q, ?_, by omega, (t2.tr u2).fc (Or.inl rfl), I.fr (t2.tr u2) u3 hS, by omega, fun h m hZ => ?_⟩
              · rw [cstart, if_pos k5]
                unfold f6_bribe_81
                rw [if_pos rfl, if_pos b11, t1, ob_some, if_pos gB1, u1, ob_some, if_pos rfl]
              · have m' := m.thr (v := 0)
                have mh := m'.putB (b := b) (k := 3) (v := clip (s 3 b 3 + -1)) (by omega) (by omega)
                obtain ⟨g2, w1, w2, w3⟩ := m_take mh s15 hi (x := nI b) (y := nI i) rfl rfl
                rw [take_hon] at w3
                refine ⟨1, g2, ?_, ((Fmm.put (a := a0 + 153) ⟨by omega, by omega⟩).tr (Fm.mm fmB)).tr w2.mm, w3, ?_, fun _ => rfl⟩
                · show f7_bribe h (a0 + 153) (nI b) (nI i) = _
                  rw [start h m, if_neg (Int32.not_le.mpr k5)]
                  unfold f7_bribe_85 f7_bribe_97
                  rw [if_neg n10, if_pos m'.1.1, m_honour m' s14 hb rfl, ob_some, if_neg n10, if_pos mh.1.1, w1, ob_some, if_pos (Or.inr rfl)]
                · rw [w2.2.2.2.2 _ (by unfold chm; omega), gI_PI, if_neg (by omega)]
                  simp [gI_PI]
                  rfl
            · obtain ⟨u1, u2, u3⟩ := clHon I.1 hb 1
              have hS : Same s (su s 3 b 3 (clip (s 3 b 3 + 1))) := Same.b (by omega)
              refine ⟨0, 0, _, _, n1, n2, n3, n4, q, ?_, by omega, u2.fc (Or.inl rfl), I.fr u2 u3 hS, by omega, fun h m hZ => ?_⟩
              · rw [cstart, if_neg k5]
                unfold f6_bribe_81
                rw [if_neg n10, if_pos b11, u1, ob_some, if_neg n10]
              · have m' := m.thr (v := 0)
                have mh := m'.putB (b := b) (k := 3) (v := clip (s 3 b 3 + 1)) (by omega) (by omega)
                refine ⟨0, _, ?_, (Fmm.put (a := a0 + 153) ⟨by omega, by omega⟩).tr (Fm.mm fmB), mh, ?_, fun _ => rfl⟩
                · show f7_bribe h (a0 + 153) (nI b) (nI i) = _
                  rw [start h m, if_pos (Int32.not_lt.mp k5)]
                  unfold f7_bribe_85 f7_bribe_97
                  rw [if_pos rfl, if_pos m'.1.1, m_honour m' s14 hb rfl, ob_some, if_pos rfl, if_pos (Or.inl rfl)]
                · rw [gI_PI, if_neg (by omega)]
                  simp [gI_PI]
                  rfl
          · exact bad (Or.inr (Or.inr k3))
        · exact bad (Or.inr (Or.inl k2))
    · refine OpR.thr I 1 (by omega) (by omega) ?_ fun h m => ?_
      · unfold f6_bribe
        rw [if_pos s1, p_checkBee I, gB2_some, if_pos hx, if_pos n0e, if_pos s1, p_checkLetter I, gB2_some, if_neg hy, if_neg n1e]
      · unfold f7_bribe f7_bribe_17
        rw [if_pos m.1.1, m_isBee m e3 s14, gB2_some, if_pos hx, if_neg n10, if_pos m.1.1, m_isLetter m e4 s15, gB2_some, if_neg hy, if_pos rfl, fail h _ _ 1 m (by decide)]
        rfl
  · refine OpR.thr I 1 (by omega) (by omega) ?_ fun h m => ?_
    · unfold f6_bribe
      rw [if_pos s1, p_checkBee I, gB2_some, if_neg hx, if_neg n1e]
    · unfold f7_bribe f7_bribe_17
      rw [if_pos m.1.1, m_isBee m e3 s14, gB2_some, if_neg hx, if_pos rfl, fail h _ _ 1 m (by decide)]
      rfl
