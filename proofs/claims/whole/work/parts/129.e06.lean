/-! PURE: the model's quarter, quarters -/
theorem m_fly {M n1 n2 n3 n4 q b : Nat} {g : g_H} {s : Sg} (w : WF s n1 n2 n3 n4 q) (m : MX M g s n1 n2 n3 n4) (hb : b < n3) (wb : WB s n1 b) :
    ∃ g', f7_fly g M (nI b) = some g' ∧ Fm M g g' ∧ MX M g' (mvS s b (s 4 b (cl (s 3 b 0)))) n1 n2 n3 n4 := by
  have h6 := w.2.2.1
  have h14 := w.1.2.1
  have wb' := wb
  obtain ⟨z, p, l, st, hon, e1, e2, e3, e4, e5, e6, e7, e8, e9, e10, e11, e12, e13, e14, e15⟩ := wb
  have be4 := m_be (k := 4) (y := (4 : Int32)) m h6 hb (by omega) rfl rfl
  have be2 := m_be (k := 2) (y := (2 : Int32)) m h6 hb (by omega) rfl rfl
  have be5 := m_be (k := 5) (y := (5 : Int32)) m h6 hb (by omega) rfl rfl
  have be0 := m_be (k := 0) (y := (0 : Int32)) m h6 hb (by omega) rfl rfl
  have be7 := m_be (k := 7) (y := (7 : Int32)) m h6 hb (by omega) rfl rfl
  unfold f7_fly mvS
  rw [if_pos m.1.1, be4, gB2_some]
  rcases e12 with r | r
  · rw [if_neg (by rw [r]; decide), if_pos m.1.1, m.1.2.1.1, ob_some, m_house m h6 hb wb' rfl, gB2_some, m.1.2.2.1, if_pos rfl]
    have cp : cl (nI p) = p := cl_nI (by omega)
    have hin : inR (nI n1) (s 4 b (cl (s 3 b 0))) := by rw [e4, cp]; exact e14 p e5
    obtain ⟨h, hh, hh2⟩ := inR_nat (by omega) hin
    have hhive := m.2.2.1.1 h (by omega)
    have ch : Int32.toNatClampNeg (nI h) = h := cl_nI (by omega)
    -- it flies on
    have fly : ∃ g', f7_fly_67 g M (nI b) = some g' ∧ Fm M g g' ∧ MX M g' (if s 3 b 5 = 1 then s else flyS s b (s 4 b (cl (s 3 b 0)))) n1 n2 n3 n4 := by
      unfold f7_fly_67
      rw [if_pos m.1.1, be5, gB2_some]
      by_cases hz : s 3 b 5 = 1
      · rw [if_pos hz, if_pos hz]
        exact ⟨g, rfl, Fm.rf, m⟩
      · rw [if_neg hz, if_neg hz, if_pos m.1.1, be0, gB2_some, if_pos m.1.1, be7, gB2_some]
        have hz2 : 2 ≤ z := by
          rcases Nat.lt_or_ge z 2 with k | k
          · exfalso
            have : z = 1 := by omega
            subst this
            exact hz e1
          · exact k
        have m7 : ∀ v : Int32, MX M (gPI g (M + 4) (8 * b + 7) v) (su s 3 b 7 v) n1 n2 n3 n4 := fun v => m.putB (by omega) (by omega)
        -- turned, or not
        have go : ∀ (s1 : Int32) (g1 : g_H), Fm M g g1 → MX M g1 (su s 3 b 7 (onS s b)) n1 n2 n3 n4 → ∃ g', f7_fly_126 g1 M (nI b) = some g' ∧ Fm M g g' ∧ MX M g' (flyS s b (s 4 b (cl (s 3 b 0)))) n1 n2 n3 n4 := by
          intro s1 g1 hf m1
          have b0 := m_be (k := 0) (y := (0 : Int32)) m1 h6 hb (by omega) rfl rfl
          have b7 := m_be (k := 7) (y := (7 : Int32)) m1 h6 hb (by omega) rfl rfl
          rw [su_k (by omega)] at b0
          rw [su_s] at b7
          unfold f7_fly_126
          rw [if_pos m1.1.1, b0, gB2_some, if_pos m1.1.1, b7, gB2_some]
          rcases onS_01 e13 with o | o
          · rw [if_neg (by rw [o]; decide)]
            obtain ⟨g', x1, x2, x3⟩ := m_fly148 (s1 := -1) w m1 hb wb' e1 hz2 e3 (if_pos o)
            exact ⟨g', x1, hf.tr x2, x3⟩
          · rw [if_pos o]
            obtain ⟨g', x1, x2, x3⟩ := m_fly148 (s1 := 1) w m1 hb wb' e1 hz2 e3 (if_neg (by rw [o]; exact n10))
            exact ⟨g', x1, hf.tr x2, x3⟩
        have turn : ∀ v : Int32, v = (if s 3 b 7 = 0 then 0 else s 3 b 5 - 1) → ∃ g', f7_fly_107 g M (nI b) (s 3 b 0) v = some g' ∧ Fm M g g' ∧ MX M g' (flyS s b (s 4 b (cl (s 3 b 0)))) n1 n2 n3 n4 := by
          intro v hv
          unfold f7_fly_107
          by_cases k : s 3 b 0 = v
          · have ho : onS s b = 1 - s 3 b 7 := by
              unfold onS
              rw [← hv, if_pos k]
              rcases e13 with q | q
              · rw [q]; decide
              · rw [q]; decide
            rw [if_pos k, if_pos m.1.1, be7, gB2_some, if_pos m.1.1, m_setBe (k := 7) (y := (7 : Int32)) m h6 hb (by omega) rfl rfl, ob_some]
            refine go 0 _ fmB ?_
            rw [ho]
            exact m7 _
          · have ho : onS s b = s 3 b 7 := by
              unfold onS
              rw [← hv, if_neg k]
            rw [if_neg k]
            refine go 0 g Fm.rf ?_
            rw [ho, su_self]
            exact m
        rcases e13 with q | q
        · rw [if_neg (by rw [q]; decide)]
          exact turn 0 (by rw [if_pos q])
        · rw [if_pos q, if_pos m.1.1, be5, gB2_some]
          exact turn _ (by rw [if_neg (by rw [q]; decide)])
    rw [if_neg (c := ¬ s 3 b 4 = 0) (fun k => k r)]
    have hcl : cl (s 4 b (cl (s 3 b 0))) = h := by rw [hh2]; exact ch
    have hcl' : Int32.toNatClampNeg (s 4 b (cl (s 3 b 0))) = h := hcl
    have hix : ¬ (s 4 b (cl (s 3 b 0)) < 0 ∨ 14 ≤ Int32.toNatClampNeg (s 4 b (cl (s 3 b 0)))) := by rw [hh2]; exact ixOk (by omega) (by omega)
    rw [if_pos hix, hcl', hhive, hcl]
    by_cases k1 : s 1 h 0 = 0
    · rw [if_pos k1, if_neg (fun k => k.1 k1)]
      exact fly
    · rw [if_neg k1, if_pos m.1.1, be2, gB2_some]
      by_cases k2 : (10 : Int32) ≤ s 3 b 2
      · rw [if_pos k2, if_neg (fun k => k.2 k2)]
        exact fly
      · have hc : ¬ s 1 h 0 = 0 ∧ ¬ (10 : Int32) ≤ s 3 b 2 := ⟨k1, k2⟩
        rw [if_neg k2, if_pos hc, if_pos m.1.1, m_setBe (k := 4) (y := (4 : Int32)) m h6 hb (by omega) rfl rfl, ob_some]
        exact ⟨_, rfl, fmB, m.putB (by omega) (by omega)⟩
  · have r' : ¬ s 3 b 4 = 0 := by rw [r]; decide
    rw [if_pos r, if_pos r', if_pos m.1.1, m_strengthen m h6 hb rfl, ob_some]
    have m1 := m.putB (b := b) (k := 2) (v := strong (s 3 b 2 + 3)) (by omega) (by omega)
    have b2 := m_be (k := 2) (y := (2 : Int32)) m1 h6 hb (by omega) rfl rfl
    rw [su_s] at b2
    rw [if_pos m1.1.1, b2, gB2_some]
    by_cases k : strong (s 3 b 2 + 3) < (20 : Int32)
    · rw [if_pos k, if_neg (Int32.not_le.mpr k)]
      refine ⟨_, rfl, fmB, ?_⟩
      have e : (su s 3 b 2 (strong (s 3 b 2 + 3))) 3 b 4 = 1 := by rw [su_k (by omega)]; exact r
      rw [← e, su_self]
      exact m1
    · rw [if_neg k, if_pos (Int32.not_lt.mp k), if_pos m1.1.1, m_setBe (k := 4) (y := (4 : Int32)) m1 h6 hb (by omega) rfl rfl, ob_some]
      exact ⟨_, rfl, fmB.tr fmB, m1.putB (by omega) (by omega)⟩
theorem arr_mv {s : Sg} {b : Nat} {here : Int32} : arr (mvS s b here) = arr s := by
  have h5 : (mvS s b here) 5 = s 5 := by
    unfold mvS flyS
    split
    · exact su3_5.trans su3_5
    · split
      · exact su3_5
      · split
        · rfl
        · dsimp only
          split
          · exact ((su3_5.trans su3_5).trans su3_5).trans su3_5
          · exact su3_5.trans su3_5
  have h0 : (mvS s b here) 0 = s 0 := by
    unfold mvS flyS
    split
    · exact su3_0.trans su3_0
    · split
      · exact su3_0
      · split
        · rfl
        · dsimp only
          split
          · exact ((su3_0.trans su3_0).trans su3_0).trans su3_0
          · exact su3_0.trans su3_0
  exact arr_5 h5 h0
theorem c_bee {a0 F n1 n2 n3 n4 q : Nat} {g : g_H} {s : Sg} (c : CI a0 F g s n1 n2 n3 n4 q) (b : Nat) (hb : b ≤ n3) : ∃ g', CI a0 F g' (beeF s b) n1 n2 n3 n4 q := by
  induction b with
  | zero => exact ⟨g, c⟩
  | succ b ih =>
    obtain ⟨g1, c1⟩ := ih (by omega)
    obtain ⟨g2, -, -, x⟩ := p_beeStep c1 (show b < n3 by omega)
    exact ⟨g2, x⟩
