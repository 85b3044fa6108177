/-! PURE: addLane as a call -/
theorem gS_PW' {g : g_H} {a : Nat} {r : Nat → Int32} : gS (gPW g a r) = gS g := rfl
/-- the model's lane written; the ways not yet -/
theorem m_lane0 {M n1 n2 n3 n4 : Nat} {g : g_H} {s : Sg} {C : Nat → Nat → Nat} {a b l : Int32} {src : Nat → Int32} (m : MX M g s n1 n2 n3 n4) (h0 : src 0 = a) (h1 : src 1 = b) (h2 : src 2 = l) (h3 : src 3 = 0) (h4 : src 4 = 24) :
    MX M (gPI (gPW g (M + 2) (va_cpy src (gI g (M + 2)) 0 (5 * n2) 5)) M 3 (nI (n2 + 1))) (alS s C n2 a b l) 0 (n2 + 1) n3 n4 := by
  obtain ⟨L, ⟨y1, y2, y3, y4⟩, ⟨z1, z2, z3, z4⟩, ⟨p1, p2, p3⟩⟩ := m
  obtain ⟨k0, k1, k2, k3, k4⟩ := al_n (s := s) (C := C) (m := n2) (a := a) (b := b) (l := l)
  have e : ∀ k, k ≠ 0 → k ≠ 2 → gI (gPI (gPW g (M + 2) (va_cpy src (gI g (M + 2)) 0 (5 * n2) 5)) M 3 (nI (n2 + 1))) (M + k) = gI g (M + k) := fun k hk hk2 => (show _ = gI (gPW g (M + 2) _) (M + k) from gU_o (by omega)).trans (gW_o (by omega))
  have eM : ∀ k, k ≠ 3 → gI (gPI (gPW g (M + 2) (va_cpy src (gI g (M + 2)) 0 (5 * n2) 5)) M 3 (nI (n2 + 1))) M k = gI g M k := fun k hk => by
    rw [gI_PI, if_pos rfl, if_neg hk, gI_PW, if_neg (by omega)]
  refine ⟨L, ⟨?_, ?_, ?_, ?_⟩, ⟨?_, fun i hi k hk => ?_, fun x y hx hy => by omega, ?_⟩, ?_⟩
  · rw [eM 1 (by omega), al_0 (by omega)]; exact y1
  · rw [gI_PI, if_pos rfl, if_pos rfl, al_02]
  · rw [eM 6 (by omega), al_0 (by omega)]; exact y3
  · rw [eM 9 (by omega), al_0 (by omega)]; exact y4
  · rw [e 1 (by omega) (by omega), al_T (by omega) (by omega) (by omega)]; exact z1
  · rw [gI_PI, if_neg (by omega), gI_PW, if_pos rfl]
    unfold va_cpy
    by_cases c : i = n2
    · subst c
      rw [if_pos (by omega), show 0 + (5 * i + k - 5 * i) = k by omega]
      match k, hk with
      | 0, _ => rw [h0, k0]
      | 1, _ => rw [h1, k1]
      | 2, _ => rw [h2, k2]
      | 3, _ => rw [h3, k3]
      | 4, _ => rw [h4, k4]
    · rw [if_neg (by omega), al_o c]
      exact z2 i (by omega) k hk
  · rw [e 5 (by omega) (by omega), al_T (by omega) (by omega) (by omega), al_T (by omega) (by omega) (by omega)]; exact z4
  · unfold M2
    rw [e 4 (by omega) (by omega), e 6 (by omega) (by omega), e 7 (by omega) (by omega), al_T (by omega) (by omega) (by omega), al_T (by omega) (by omega) (by omega), al_0 (by omega)]
    exact ⟨p1, p2, p3⟩
theorem MX.rk {M n1 n2 n3 n4 : Nat} {g g' : g_H} {s : Sg} {C la : Nat → Nat → Nat} (m : MX M g s 0 n2 n3 n4) (f : Fk M g g') {D : Nat → Nat → Nat} (wm : WM M g' n1 D) (v : Val la n2 n1 9999 D) (c : Val la n2 n1 1000 C) (hl : Hl la n2 n1) (h14 : n1 ≤ 14)
    (h6 : ∀ x y, x < 14 → y < 14 → s 6 x y = nI (C x y) ∧ C x y ≤ 1000) : MX M g' s n1 n2 n3 n4 := by
  obtain ⟨l, z0, ⟨z1, z2, z3, z4⟩, z5⟩ := m
  obtain ⟨f1, f2, f3, f4, f5⟩ := f
  refine ⟨by unfold ML; rw [f1, f2]; exact l, ?_, ⟨?_, ?_, fun x y hx hy => ?_, ?_⟩, ?_⟩
  · unfold M0; rw [f5 _ (by omega)]; exact z0
  · rw [f5 _ (by omega)]; exact z1
  · rw [f5 _ (by omega)]; exact z2
  · obtain ⟨q1, q2⟩ := h6 x y (by omega) (by omega)
    rw [wm x y hx hy, q1, c.uni v hl h14 hx hy, fi_nI q2]
  · rw [f5 _ (by omega)]; exact z4
  · unfold M2; rw [f5 _ (by omega), f5 _ (by omega), f5 _ (by omega)]; exact z5
abbrev c3 : Nat → Nat := fun c => c
theorem isIn_1 {g : g_H} {n : Nat} {x hi : Int32} (hn : n < 2 ^ 31) (hh : hi = nI n) : f7_isIn g x 1 hi = some (if ¬ x < 1 ∧ x ≤ nI n then 1 else 0, g) := by
  subst hh
  unfold f7_isIn
  by_cases c : x < 1
  · rw [if_pos c, if_neg fun k => k.1 c]
  · rw [if_neg c]
    by_cases d : nI n < x
    · rw [if_pos d, if_neg fun k => Int32.not_lt.mpr k.2 d]
    · rw [if_neg d, if_pos ⟨c, Int32.not_lt.mp d⟩]
theorem o_addLane {a0 n1 n2 n3 n4 q : Nat} {g : g_H} {s : Sg} (I : ClI a0 g s n1 n2 n3 n4 q) (x y z : Int32) : OpR a0 g s n1 n2 n3 n4 q (f6_addLane g a0 x y z) (fun h => f7_addLane h (a0 + 153) x y z) c3 := by
  obtain ⟨s1, s2, s3, s4, s5, s6, s7, s8, s9, s10, s11, s12, s13, s14, s15⟩ := I.sh
  have e1 := I.1.1.1.1
  have e2 := I.1.1.1.2.2.1
  have e3 := I.1.1.2.1
  have no : (¬ inR (nI n1) x ∨ ¬ inR (nI n1) y) → OpR a0 g s n1 n2 n3 n4 q (f6_addLane g a0 x y z) (fun h => f7_addLane h (a0 + 153) x y z) c3 := by
    intro hb
    refine OpR.thr I 1 (by omega) (by omega) ?_ fun h m => ?_
    · unfold f6_addLane
      rw [if_pos s1, p_checkHouse I, gB2_some]
      by_cases hx : inR (nI n1) x
      · rw [if_pos hx, if_pos n0e, if_pos s1, p_checkHouse I, gB2_some, if_neg (hb.resolve_left fun k => k hx), if_neg n1e]
      · rw [if_neg hx, if_neg n1e]
    · have m' := m.thr (v := 0)
      unfold f7_addLane f7_addLane_21
      rw [if_pos m.1.1, m_isHouse m' e1 s12, gB2_some]
      by_cases hx : inR (nI n1) x
      · rw [if_pos hx, if_neg n10, if_pos m'.1.1, m_isHouse m' e1 s12, gB2_some, if_neg (hb.resolve_left fun k => k hx), if_pos rfl, if_pos m'.1.1, m_fail m'.1.1, gB2_some]
        rfl
      · rw [if_neg hx, if_pos rfl, if_pos m'.1.1, m_fail m'.1.1, gB2_some]
        rfl
  by_cases hx : inR (nI n1) x
  · by_cases hy : inR (nI n1) y
    · have bad : (x = y ∨ ¬ (¬ z < 1 ∧ z ≤ 6)) → OpR a0 g s n1 n2 n3 n4 q (f6_addLane g a0 x y z) (fun h => f7_addLane h (a0 + 153) x y z) c3 := by
        intro hb
        refine OpR.thr I 2 (by omega) (by omega) ?_ fun h m => ?_
        · unfold f6_addLane f6_addLane_26
          rw [if_pos s1, p_checkHouse I, gB2_some, if_pos hx, if_pos n0e, if_pos s1, p_checkHouse I, gB2_some, if_pos hy, if_pos n0e]
          by_cases c : x = y
          · rw [if_pos c]
          · rw [if_neg c]
            by_cases d : z < 1
            · rw [if_pos d]
            · rw [if_neg d, if_neg fun k => hb.resolve_left c ⟨d, k⟩]
        · have m' := m.thr (v := 0)
          unfold f7_addLane f7_addLane_42
          rw [if_pos m.1.1, m_isHouse m' e1 s12, gB2_some, if_pos hx, if_neg n10, if_pos m'.1.1, m_isHouse m' e1 s12, gB2_some, if_pos hy, if_neg n10]
          by_cases c : x = y
          · rw [if_pos c, if_pos m'.1.1, m_fail m'.1.1, gB2_some]
            rfl
          · have hz : ¬ (¬ z < 1 ∧ z ≤ nI 6) := hb.resolve_left c
            rw [if_neg c, isIn_1 (n := 6) (hi := (6 : Int32)) (by omega) rfl, gB2_some, if_neg hz, if_pos rfl, if_pos m'.1.1, m_fail m'.1.1, gB2_some]
            rfl
      by_cases c : x = y
      · exact bad (Or.inl c)
      · by_cases d : ¬ z < 1 ∧ z ≤ 6
        · have d6 : ¬ z < 1 ∧ z ≤ nI 6 := d
          have h24 : ((24 : Int32) ≤ nI n2) ↔ n2 = 24 := ⟨fun k => by have := (nI_leI (a := 24) (by omega) (by omega)).mp k; omega, fun k => by rw [k]; exact Int32.le_refl _⟩
          have q24 : (nI n2 = (24 : Int32)) ↔ n2 = 24 := nI_eq (b := 24) (by omega) (by omega)
          have q0 : (nI n3 ≤ 0) ↔ n3 = 0 := ⟨fun k => by have := (nI_leI (b := 0) (by omega) (by omega)).mp k; omega, fun k => by rw [k]; exact Int32.le_refl _⟩
          have full : (n2 = 24 ∨ n3 ≠ 0) → OpR a0 g s n1 n2 n3 n4 q (f6_addLane g a0 x y z) (fun h => f7_addLane h (a0 + 153) x y z) c3 := by
            intro hb
            refine OpR.thr I 3 (by omega) (by omega) ?_ fun h m => ?_
            · unfold f6_addLane f6_addLane_58
              rw [if_pos s1, p_checkHouse I, gB2_some, if_pos hx, if_pos n0e, if_pos s1, p_checkHouse I, gB2_some, if_pos hy, if_pos n0e, if_neg c, if_neg d.1, if_pos d.2, if_pos s1, s2, ob_some, if_pos s6, s9]
              by_cases k : n2 = 24
              · rw [if_pos (h24.mpr k)]
              · rw [if_neg fun w => k (h24.mp w), s3, ob_some, if_pos s7, s10, if_neg fun w => hb.resolve_left k (q0.mp w)]
            · have m' := m.thr (v := 0)
              unfold f7_addLane f7_addLane_64
              rw [if_pos m.1.1, m_isHouse m' e1 s12, gB2_some, if_pos hx, if_neg n10, if_pos m'.1.1, m_isHouse m' e1 s12, gB2_some, if_pos hy, if_neg n10, if_neg c, isIn_1 (n := 6) (hi := (6 : Int32)) (by omega) rfl, gB2_some, if_pos d6, if_neg n10, if_pos m'.1.1, m'.2.1.2.1, e2]
              by_cases k : n2 = 24
              · rw [if_pos (q24.mpr k), if_pos m'.1.1, m_fail m'.1.1, gB2_some]
                rfl
              · rw [if_neg fun w => k (q24.mp w), m'.2.1.2.2.1, e3, if_neg fun w => hb.resolve_left k (q0.mp w), if_pos m'.1.1, m_fail m'.1.1, gB2_some]
                rfl
          by_cases k : n2 = 24
          · exact full (Or.inl k)
          · by_cases k3 : n3 = 0
            · obtain ⟨a, ha, rfl⟩ := inR_nat (by omega) hx
              obtain ⟨b, hb, rfl⟩ := inR_nat (by omega) hy
              obtain ⟨l, rfl, hl1, hl6⟩ := rng d.1 d6.2 (by omega)
              have hab : a ≠ b := fun w => c (by rw [w])
              obtain ⟨C, la, g', j1, j2, j3, j4, j5, j6, j7, j8⟩ := p_join I k3 (by omega) ha hb hab hl1 hl6
              refine ⟨0, nI n2, g', _, n1, n2 + 1, n3, n4, q, ?_, by omega, j2.fc, j3, by omega, fun h m hZ => ?_⟩
              · unfold f6_addLane
                rw [if_pos s1, p_checkHouse I, gB2_some, if_pos hx, if_pos n0e, if_pos s1, p_checkHouse I, gB2_some, if_pos hy, if_pos n0e, if_neg c, if_neg d.1, if_pos d.2, if_pos s1, s2, ob_some, if_pos s6, s9, if_neg fun w => k (h24.mp w), s3, ob_some, if_pos s7, s10, if_pos (q0.mpr k3), ob_some, if_pos s6, j1, gB2_some]
              · have m' := m.thr (v := 0)
                obtain ⟨zz, hzz⟩ : ∃ zz, zz = gZ (gPI h (a0 + 153) 0 0) := ⟨_, rfl⟩
                have hzM : a0 + 153 + 8 < zz := by rw [hzz]; show _ < gZ h; omega
                obtain ⟨H, hH⟩ : ∃ H, H = gN (gPI h (a0 + 153) 0 0) 11 5 (fun _ => 0) := ⟨_, rfl⟩
                have S : gS H zz = (11, 5) := by rw [hH, hzz]; exact gS_gN rfl
                have mH : MX (a0 + 153) H s n1 n2 n3 n4 := by rw [hH]; exact m'.gN (by rw [← hzz]; exact hzM)
                obtain ⟨H5, hH5⟩ : ∃ H5, H5 = gPI (gPI (gPI (gPI (gPI H zz 0 (nI a)) zz 1 (nI b)) zz 2 (nI l)) zz 3 0) zz 4 24 := ⟨_, rfl⟩
                have S5 : gS H5 = gS H := by rw [hH5]; rfl
                have m5 : MX (a0 + 153) H5 s n1 n2 n3 n4 := by rw [hH5]; exact ((((mH.off hzM).off hzM).off hzM).off hzM).off hzM
                have ml := m_lane0 (C := C) (a := nI a) (b := nI b) (l := nI l) (src := gI H5 zz) m5 (by rw [hH5]; simp [gI_PI]) (by rw [hH5]; simp [gI_PI]) (by rw [hH5]; simp [gI_PI]) (by rw [hH5]; simp [gI_PI]) (by rw [hH5]; simp [gI_PI])
                have g0 : gI H5 (a0 + 153) 0 = 0 := by
                  have e : ∀ (g : g_H) (k : Nat) (v : Int32), gI (gPI g zz k v) (a0 + 153) 0 = gI g (a0 + 153) 0 := fun g k v => by rw [gI_PI, if_neg (by omega)]
                  rw [hH5, e, e, e, e, e, hH, show gI (gN (gPI h (a0 + 153) 0 0) 11 5 (fun _ => 0)) (a0 + 153) = gI (gPI h (a0 + 153) 0 0) (a0 + 153) from gW_o (by rw [← hzz]; omega)]
                  simp [gI_PI]
                have rk : RkI (a0 + 153) (gPI (gPW H5 (a0 + 153 + 2) (va_cpy (gI H5 zz) (gI H5 (a0 + 153 + 2)) 0 (5 * n2) 5)) (a0 + 153) 3 (nI (n2 + 1))) n1 (n2 + 1) la :=
                  ⟨ml.1, ml.2.1.1.trans ((al_0 (by omega)).trans e1), ml.2.1.2.1.trans al_02, s12, by omega, fun i hi k hk => (ml.2.2.1.2.1 i hi k (by omega)).trans (j7 i hi k hk)⟩
                obtain ⟨g2, D, r1, r2, r3, r4⟩ := r_reckon j5 j6 rk
                have mf := ml.rk r2 r3 r4 j4 j5 s12 (fun x y hx hy => ⟨by rw [al_6], j8 x y hx hy⟩)
                have f1 : Fmm (a0 + 153) h H5 := by
                  rw [hH5]
                  have f0 : Fmm (a0 + 153) h H := by rw [hH]; exact (Fmm.put (a := a0 + 153) ⟨by omega, by omega⟩).tr Fmm.gN
                  have fz : gZ h ≤ zz := by rw [hzz]; exact Nat.le_refl _
                  exact ((((f0.up fz).up fz).up fz).up fz).up fz
                have f2 : Fmm (a0 + 153) H5 (gPW H5 (a0 + 153 + 2) (va_cpy (gI H5 zz) (gI H5 (a0 + 153 + 2)) 0 (5 * n2) 5)) := ⟨Nat.le_refl _, fun a _ => ⟨rfl, rfl, rfl, fun ha => gW_o (by omega)⟩⟩
                have c0 : ¬ (0 : Int32) < 0 ∧ ¬ (5 : Int32) * nI n2 < 0 ∧ ¬ (5 : Int32) < 0 ∧ 0 + Int32.toNatClampNeg (5 : Int32) ≤ 5 ∧ Int32.toNatClampNeg ((5 : Int32) * nI n2) + Int32.toNatClampNeg (5 : Int32) ≤ 120 := by
                  rw [show (5 : Int32) * nI n2 = nI (5 * n2) from pk_mul 5 n2, cl_nI (show 5 * n2 < 2 ^ 31 by omega)]
                  refine ⟨by decide, nI_pos (by omega), by decide, by decide, ?_⟩
                  rw [show Int32.toNatClampNeg (5 : Int32) = 5 from rfl]
                  omega
                refine ⟨nI n2, g2, ?_, ((f1.tr f2).tr (Fmm.put (a := a0 + 153) ⟨by omega, by omega⟩)).tr r2.mm, mf, ?_, fun _ => rfl⟩
                · show f7_addLane h (a0 + 153) (nI a) (nI b) (nI l) = _
                  unfold f7_addLane gNw gLt
                  rw [if_pos m.1.1, m_isHouse m' e1 s12, gB2_some, if_pos hx, if_neg n10, if_pos m'.1.1, m_isHouse m' e1 s12, gB2_some, if_pos hy, if_neg n10, if_neg c, isIn_1 (n := 6) (hi := (6 : Int32)) (by omega) rfl, gB2_some, if_pos d6, if_neg n10, if_pos m'.1.1, m'.2.1.2.1, e2, if_neg fun w => k (q24.mp w), m'.2.1.2.2.1, e3, if_pos (q0.mpr k3)]
                  rw [← hzz, ← hH]
                  dsimp only
                  rw [S, if_pos (by decide), if_pos (by decide), if_pos (by decide), if_pos (by decide), if_pos (by decide)]
                  rw [show Int32.toNatClampNeg (0 : Int32) = 0 from rfl, show Int32.toNatClampNeg (1 : Int32) = 1 from rfl, show Int32.toNatClampNeg (2 : Int32) = 2 from rfl, show Int32.toNatClampNeg (3 : Int32) = 3 from rfl, show Int32.toNatClampNeg (4 : Int32) = 4 from rfl, ← hH5]
                  rw [if_pos m5.1.1, m5.1.2.1.2.1, ob_some, m5.1.2.2.2.1, if_pos rfl, m5.2.1.2.1, e2, S5, S, if_pos c0]
                  rw [show (5 : Int32) * nI n2 = nI (5 * n2) from pk_mul 5 n2, cl_nI (show 5 * n2 < 2 ^ 31 by omega), show Int32.toNatClampNeg (5 : Int32) = 5 from rfl]
                  rw [show gI (gPW H5 (a0 + 153 + 2) (va_cpy (gI H5 zz) (gI H5 (a0 + 153 + 2)) 0 (5 * n2) 5)) (a0 + 153) = gI H5 (a0 + 153) from gW_o (by omega), m5.2.1.2.1, e2, nI_1, r1, ob_some, if_pos mf.1.1, mf.2.1.2.1, al_02, nI_pred]
                · rw [r2.2.2.2.2 _ (by omega), gI_PI, if_pos rfl, if_neg (by omega), gI_PW, if_neg (by omega), g0]
                  rfl
            · exact full (Or.inr k3)
        · exact bad (Or.inr d)
    · exact no (Or.inr hy)
  · exact no (Or.inl hx)
