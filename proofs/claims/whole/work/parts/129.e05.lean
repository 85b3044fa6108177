/-! PURE: the model flies, a quarter, quarters -/
theorem m_isOpen {M n1 n2 n3 n4 q j : Nat} {g : g_H} {s : Sg} {x : Int32} (m : MX M g s n1 n2 n3 n4) (wt : WT s n1 n2) (h0 : s 0 0 0 = nI q) (hq : q < 2 ^ 26) (hj : j < n2) (hx : x = nI j) : ∃ v, f7_isOpen g M x = some (v, g) ∧ (v = 0 ∨ v = 1) ∧ (v = 1 ↔ opS s j) := by
  have h24 : n2 ≤ 24 := wt.2.2.2.1
  obtain ⟨-, -, -, -, f, t, hf, hft, ht, ef, et⟩ := wt.2.2.2.2.1 j hj
  have hr := hour_nat hq
  have hlt : q % 24 < 24 := Nat.mod_lt _ (by omega)
  unfold f7_isOpen
  rw [if_pos m.1.1, m.1.2.1.2.2.2.2.2.2.1, ob_some, m.1.2.2.2.2.2.2.2.2.1, if_pos rfl, if_pos (by decide), m_ro (k := 3) (y := (3 : Int32)) m h24 hj (by omega) hx rfl, gB2_some, if_pos m.1.1, m_ro (k := 4) (y := (4 : Int32)) m h24 hj (by omega) hx rfl, gB2_some]
  rw [show Int32.toNatClampNeg (0 : Int32) = 0 from rfl, m.2.2.2.2.2, h0, hr, ef, et]
  unfold f7_isIn
  have e1 : opS s j ↔ (¬ nI (q % 24) < nI f ∧ ¬ nI t ≤ nI (q % 24)) := by
    unfold opS hourS
    rw [h0, hr, ef, et]
  by_cases c1 : nI (q % 24) < nI f
  · rw [if_pos c1, gB2_some, if_pos (Or.inl rfl)]
    exact ⟨0, rfl, Or.inl rfl, fun k => absurd k (by decide), fun k => absurd c1 (e1.mp k).1⟩
  · rw [if_neg c1]
    have hk : nI t - 1 < nI (q % 24) ↔ nI t ≤ nI (q % 24) := by
      rcases Nat.eq_zero_or_pos t with z | z
      · subst z
        refine ⟨fun _ => nI_le (by omega) (by omega), fun _ => ?_⟩
        have e : nI 0 - 1 = (-1 : Int32) := by decide
        rw [e]
        apply Int32.lt_iff_toInt_lt.mpr
        rw [nI_toInt (by omega)]
        have : (-1 : Int32).toInt = -1 := rfl
        omega
      · obtain ⟨u, rfl⟩ : ∃ u, t = u + 1 := ⟨t - 1, by omega⟩
        rw [nI_pred]
        exact (nI_ltI (by omega) (by omega)).trans (Iff.trans (by omega) (nI_leI (a := u + 1) (b := q % 24) (by omega) (by omega)).symm)
    by_cases c2 : nI t - 1 < nI (q % 24)
    · rw [if_pos c2, gB2_some, if_pos (Or.inl rfl)]
      exact ⟨0, rfl, Or.inl rfl, fun k => absurd k (by decide), fun k => absurd (hk.mp c2) (e1.mp k).2⟩
    · rw [if_neg c2, gB2_some, if_pos (Or.inr rfl)]
      exact ⟨1, rfl, Or.inr rfl, fun _ => e1.mpr ⟨c1, fun k => c2 (hk.mpr k)⟩, fun _ => rfl⟩
theorem WB.v7 {s : Sg} {n1 b : Nat} {v : Int32} (w : WB s n1 b) (hv : v = 0 ∨ v = 1) : WB (su s 3 b 7 v) n1 b := by
  have hs : Same s (su s 3 b 7 v) := Same.b (by omega)
  have w' := w
  obtain ⟨z, p, l, st, ho, e1, e2, e3, e4, e5, e6, e7, e8, e9, e10, e11, e12, e13, e14, e15⟩ := w
  exact WB.keep hs w' (by simp [su]) (by simp [su]) ⟨st, e9, by rw [← e8]; simp [su]⟩ ⟨ho, e11, by rw [← e10]; simp [su]⟩ (by simpa [su] using e12) (by simpa [su] using hv)
theorem m_fly148 {M n1 n2 n3 n4 q b z : Nat} {g : g_H} {s : Sg} {s1 : Int32} (w : WF s n1 n2 n3 n4 q) (m : MX M g (su s 3 b 7 (onS s b)) n1 n2 n3 n4) (hb : b < n3) (wb : WB s n1 b) (h5 : s 3 b 5 = nI z) (hz : 2 ≤ z) (hz7 : z ≤ 7) (hn : nextS s b = s 3 b 0 + s1) :
    ∃ g', f7_fly_148 g M (nI b) (s 3 b 0) s1 = some g' ∧ Fm M g g' ∧ MX M g' (flyS s b (s 4 b (cl (s 3 b 0)))) n1 n2 n3 n4 := by
  have h6 := w.2.2.1
  have h24 := w.1.2.2.2.1
  have wb' := wb
  obtain ⟨z', p, l, st, hon, e1, e2, e3, e4, e5, e6, e7, e8, e9, e10, e11, e12, e13, e14, e15⟩ := wb
  have hzz : z' = z := nI_inj (by omega) (by omega) (e1.symm.trans h5)
  subst hzz
  have hS : Same s (su s 3 b 7 (onS s b)) := Same.b (by omega)
  have wV := wb'.v7 (onS_01 e13)
  have y0 : (su s 3 b 7 (onS s b)) 3 b 0 = s 3 b 0 := su_k (by omega)
  have y2 : (su s 3 b 7 (onS s b)) 3 b 2 = s 3 b 2 := su_k (by omega)
  have y5 : (su s 3 b 7 (onS s b)) 3 b 5 = s 3 b 5 := su_k (by omega)
  have y4 : (su s 3 b 7 (onS s b)) 4 = s 4 := su_T (by omega)
  have y22 : (su s 3 b 7 (onS s b)) 2 = s 2 := su_T (by omega)
  have y00 : (su s 3 b 7 (onS s b)) 0 = s 0 := su_T (by omega)
  have hhouse := m_house m h6 hb wV rfl
  rw [y0, y4] at hhouse
  have hnx : ∃ p', nextS s b = nI p' ∧ p' < z' ∧ sl s (s 4 b (cl (s 3 b 0))) (s 4 b (cl (nextS s b))) ≠ -1 := by
    have cp : cl (nI p) = p := cl_nI (by omega)
    rcases onS_next h5 hz hz7 e4 e5 e13 with ⟨o1, o2, o3⟩ | ⟨o1, o2, o3⟩
    · refine ⟨_, o3, by omega, ?_⟩
      obtain ⟨y, rfl⟩ : ∃ y, p = y + 1 := ⟨p - 1, by omega⟩
      rw [o3, e4, cp, show cl (nI (y + 1 - 1)) = y from cl_nI (by omega), sl_comm]
      exact e15 y (by omega)
    · refine ⟨_, o3, o2, ?_⟩
      rw [o3, e4, cp, show cl (nI (p + 1)) = p + 1 from cl_nI (by omega)]
      exact e15 p (by omega)
  obtain ⟨p', hp1, hp2, hsl⟩ := hnx
  obtain ⟨j, hj, hl⟩ := sl_in w.1.2.2.1 h24 hsl
  have cj : cl (nI j) = j := cl_nI (by omega)
  obtain ⟨-, -, -, ⟨d, d1, d6, hd⟩, -⟩ := w.1.2.2.2.2.1 j hj
  have c1 : Int32.toNatClampNeg (nI (7 * b + p')) = 7 * b + p' := cl_nI (by omega)
  have cp' : cl (nI p') = p' := cl_nI (by omega)
  have hr := m.2.2.1.2.2.2 b hb p' (by rw [y5, e1, show cl (nI z') = z' from cl_nI (by omega)]; exact hp2)
  rw [y4] at hr
  have hlane := m_lane m (w.1.same hS) (s 4 b (cl (s 3 b 0))) (s 4 b p')
  rw [hS.slE] at hlane
  rw [hp1, cp'] at hl
  rw [hl] at hlane
  have h0 : (su s 3 b 7 (onS s b)) 0 0 0 = nI q := (su_t (by omega)).trans w.2.2.2.2.2.1
  obtain ⟨v, v1, v2, v3⟩ := m_isOpen m (w.1.same hS) h0 w.2.2.2.2.2.2.1 hj rfl
  have eo : opS (su s 3 b 7 (onS s b)) j ↔ opS s j := by unfold opS hourS; rw [y22, y00]
  have hfS : flyS s b (s 4 b (cl (s 3 b 0))) = if (¬ hourS s < s 2 j 3 ∧ ¬ s 2 j 4 ≤ hourS s) ∧ ¬ s 3 b 2 < s 2 j 2 then su (su (su (su s 3 b 7 (onS s b)) 3 b 2 (s 3 b 2 - s 2 j 2)) 3 b 1 (s 2 j 2)) 3 b 0 (nextS s b) else su (su s 3 b 7 (onS s b)) 3 b 2 (strong (s 3 b 2 + 1)) := by
    unfold flyS
    simp only [hp1, cp', hl, cj]
  have ms := m.putB (b := b) (k := 2) (v := strong (s 3 b 2 + 1)) (by omega) (by omega)
  have hstay : f7_fly_194 g M (nI b) = some (gPI g (M + 4) (8 * b + 2) (strong (s 3 b 2 + 1))) := by
    unfold f7_fly_194
    rw [if_pos m.1.1, m_strengthen m h6 hb rfl, ob_some, y2]
  unfold f7_fly_148
  rw [if_pos m.1.1, hhouse, gB2_some, if_pos m.1.1, m.1.2.1.2.2.2.2.1, ob_some, m.1.2.2.2.2.2.2.1, if_pos rfl, ← hn, hp1, ix7, if_pos (ixOk (by omega) (by omega)), c1, hr, hlane, gB2_some, if_pos m.1.1, v1, gB2_some, hfS]
  have be2 := m_be (k := 2) (y := (2 : Int32)) m h6 hb (by omega) rfl rfl
  have ro2 := m_ro (k := 2) (y := (2 : Int32)) m h24 hj (by omega) rfl rfl
  rw [y2] at be2
  rw [y22] at ro2
  rcases v2 with v2 | v2
  · have hno : ¬ ((¬ hourS s < s 2 j 3 ∧ ¬ s 2 j 4 ≤ hourS s) ∧ ¬ s 3 b 2 < s 2 j 2) := fun k => by
      have := v3.mpr (eo.mpr k.1)
      rw [v2] at this
      exact absurd this (by decide)
    rw [if_pos v2, if_neg hno, hstay]
    exact ⟨_, rfl, fmB, ms⟩
  · have hop : opS s j := eo.mp (v3.mp v2)
    rw [if_neg (by rw [v2]; exact n10), if_pos m.1.1, be2, gB2_some, if_pos m.1.1, ro2, gB2_some]
    by_cases hlt : s 2 j 2 ≤ s 3 b 2
    · have hyes : (¬ hourS s < s 2 j 3 ∧ ¬ s 2 j 4 ≤ hourS s) ∧ ¬ s 3 b 2 < s 2 j 2 := ⟨hop, Int32.not_lt.mpr hlt⟩
      rw [if_pos hlt, if_pos hyes, if_pos m.1.1, m_setBe (k := 0) (y := (0 : Int32)) m h6 hb (by omega) rfl rfl, ob_some]
      have m1 := m.putB (b := b) (k := 0) (v := nI p') (by omega) (by omega)
      have m2 := m1.putB (b := b) (k := 1) (v := s 2 j 2) (by omega) (by omega)
      have ro2' := m_ro (k := 2) (y := (2 : Int32)) m1 h24 hj (by omega) rfl rfl
      have ro2'' := m_ro (k := 2) (y := (2 : Int32)) m2 h24 hj (by omega) rfl rfl
      rw [su_t (by omega), su_t (by omega)] at ro2'
      rw [su_t (by omega), su_t (by omega), su_t (by omega)] at ro2''
      have hds : d ≤ st := by
        rw [hd, e8] at hlt
        exact (nI_leI (by omega) (by omega)).mp hlt
      have hst : strong (s 3 b 2 + -s 2 j 2) = s 3 b 2 - s 2 j 2 := by
        rw [← Int32.sub_eq_add_neg, e8, hd, nI_sub hds, (strong_nI (n := st - d) (by omega)).1, if_pos (by omega)]
      have m3 := m2.putB (b := b) (k := 2) (v := s 3 b 2 - s 2 j 2) (by omega) (by omega)
      rw [if_pos m1.1.1, ro2', gB2_some, if_pos m1.1.1, m_setBe (k := 1) (y := (1 : Int32)) m1 h6 hb (by omega) rfl rfl, ob_some, if_pos m2.1.1, ro2'', gB2_some, if_pos m2.1.1, m_strengthen m2 h6 hb rfl, ob_some]
      have e2 : (su (su (su s 3 b 7 (onS s b)) 3 b 0 (nI p')) 3 b 1 (s 2 j 2)) 3 b 2 = s 3 b 2 := by rw [su_k (by omega), su_k (by omega), y2]
      rw [e2, hst]
      refine ⟨_, rfl, (fmB.tr fmB).tr fmB, ?_⟩
      rw [su_comm (k := 1) (k' := 2) (Or.inr (Or.inr (by omega))), su_comm (k := 0) (k' := 2) (Or.inr (Or.inr (by omega))), su_comm (k := 0) (k' := 1) (Or.inr (Or.inr (by omega)))] at m3
      rw [hp1]
      exact m3
    · rw [if_neg hlt, if_neg (c := (¬ hourS s < s 2 j 3 ∧ ¬ s 2 j 4 ≤ hourS s) ∧ ¬ s 3 b 2 < s 2 j 2) (fun k => k.2 (Int32.not_le.mp hlt)), hstay]
      exact ⟨_, rfl, fmB, ms⟩
