/-! PURE: advise as a call -/
theorem gt_gt {s : Sg} {l : Nat} {f t : Int32} : gtS (gtS s l f t) l (s 2 l 3) (s 2 l 4) = s := by
  unfold gtS
  rw [su_comm (k := 4) (k' := 3) (Or.inr (Or.inr (by omega))), su_su, su_su, su_self, su_self]
/-- N quarters, and back -/
theorem m_advLoop {M n1 n2 n3 n4 q N z : Nat} {gs : g_H} {s t : Sg} {best most x5 x6 x7 : Int32} {K34 : g_H → Nat → Int32 → Nat → Int32 → Int32 → Int32 → Option (Int32 × g_H)} (ms : MX M gs s n1 n2 n3 n4) (ct : ∃ a0 F g0, CI a0 F g0 t n1 n2 n3 n4 q) (hq : q + 120 < 2 ^ 26) (hN : N ≤ 120) (hz : M + 8 < z) (e3 : t 3 = s 3) (e5 : t 5 = s 5) (e0 : t 0 0 0 = s 0 0 0)
    (ba : (x5 = -1 ∧ t = s) ∨ ∃ l f u, l < n2 ∧ f ≤ 23 ∧ f ≤ u ∧ u ≤ 24 ∧ x5 = nI l ∧ x6 = nI f ∧ x7 = nI u ∧ gtS t l (nI f) (nI u) = s ∧ WT t n1 n2) :
    ∀ m k fuel : Nat, ∀ h : g_H, k + m = N → m < fuel → MX M h (quF t k) n1 n2 n3 n4 → KP z h (gI gs (M + 4)) (gI gs (M + 6)) (gI gs (M + 7)) → gI h M 0 = 0 →
    ∃ h', f7_advise_103 K34 fuel h M (nI N) z best most x5 x6 x7 (arr (quF t k) - arr t) (nI k) = f7_advise_146 K34 h' M (nI N) z best most x5 (arr (quF t N) - arr t) ∧ Fmm M h h' ∧ MX M h' s n1 n2 n3 n4 ∧ KP z h' (gI gs (M + 4)) (gI gs (M + 6)) (gI gs (M + 7)) ∧ gI h' M 0 = 0 := by
  obtain ⟨a0, F, g0, c0⟩ := ct
  have h6 := c0.1.2.2.1
  have h20 := c0.1.2.2.2.2.1
  intro m
  induction m with
  | zero =>
    intro k fuel h hk hf mx kp hth
    obtain ⟨fu, rfl⟩ : ∃ fu, fuel = fu + 1 := ⟨fuel - 1, by omega⟩
    have : k = N := by omega
    subst this
    obtain ⟨h1, b1, b2, b3⟩ := m_back ms mx kp hz (quF_same c0 k (by omega)) h6 h20 e3 e5 e0
    have bM : gI h1 M 0 = 0 := by rw [b2.2.2.2.2 M (by unfold chm; omega)]; exact hth
    have kp1 := kp.mm b2.mm hz
    show ∃ h', f7_advise_103b K34 (f7_advise_103 K34 fu) h M (nI k) z best most x5 x6 x7 _ (nI k) = _ ∧ _
    unfold f7_advise_103b
    rw [if_pos (Int32.le_refl _), if_pos mx.1.1, b1, ob_some]
    rcases ba with ⟨y1, y2⟩ | ⟨l, f, u, l1, l2, l3, l4, y1, y2, y3, y4, y5⟩
    · rw [if_pos y1]
      exact ⟨h1, rfl, b2.mm, by rw [← y2]; exact b3, kp1, bM⟩
    · rw [if_neg (by rw [y1]; exact nI_m1 (by have := y5.2.2.2.1; omega)), if_pos b3.1.1, y1, y2, y3]
      obtain ⟨g', x1, x2, x3⟩ := m_setGate b3 y5 l1 l2 l3 l4
      have f2 : Fmm M h1 g' := by
        rw [x2]
        exact ((Fmm.put ⟨by omega, by omega⟩).tr (Fmm.put (a := M + 2) ⟨by omega, by omega⟩)).tr (Fmm.put (a := M + 2) ⟨by omega, by omega⟩)
      rw [x1, gB2_some]
      exact ⟨g', rfl, b2.mm.tr f2, by rw [← y4]; exact x3, kp1.mm f2 hz, by rw [x2]; simp [gI_PI]⟩
  | succ m ih =>
    intro k fuel h hk hf mx kp hth
    obtain ⟨fu, rfl⟩ : ∃ fu, fuel = fu + 1 := ⟨fuel - 1, by omega⟩
    obtain ⟨gk, ck⟩ := c_qus c0 k (by omega)
    obtain ⟨h1, y1, y2, y3⟩ := m_quarterOn ck mx
    obtain ⟨h2, x1, x2, x3⟩ := ih (k + 1) fu h1 (by omega) (by omega) y3 (kp.mm y2.mm hz) (by rw [y2.2.2.2.2 M (by unfold chm; omega)]; exact hth)
    refine ⟨h2, ?_, y2.mm.tr x2, x3⟩
    show f7_advise_103b K34 (f7_advise_103 K34 fu) h M (nI N) z best most x5 x6 x7 _ (nI k) = _
    have e : arr (quF t k) - arr t + (arr (quS (quF t k)) - arr (quF t k)) = arr (quF t (k + 1)) - arr t := by
      show _ = arr (quS (quF t k)) - arr t
      exact i_tel _ _ _
    unfold f7_advise_103b
    rw [if_neg (nI_ge (by omega) (by omega)), if_pos mx.1.1, y1, gB2_some, nI_1, e]
    exact x1
theorem m_advAll {M a0 F n1 n2 n3 n4 q N z : Nat} {gs g0 : g_H} {s : Sg} (c0 : CI a0 F g0 s n1 n2 n3 n4 q) (h7 : gI g0 F 7 = -1) (ms : MX M gs s n1 n2 n3 n4) (hq : q + 120 < 2 ^ 26) (hN : N ≤ 120) (hz : M + 8 < z) :
    ∀ m i fuel : Nat, ∀ h : g_H, i + m = n2 → m < fuel → MX M h s n1 n2 n3 n4 → KP z h (gI gs (M + 4)) (gI gs (M + 6)) (gI gs (M + 7)) → gI h M 0 = 0 →
    ∃ h', f7_advise_34 fuel h M (nI N) z (bs s N i).1 (bs s N i).2 (nI i) = some ((bs s N n2).1, h') ∧ Fmm M h h' ∧ MX M h' s n1 n2 n3 n4 ∧ gI h' M 0 = 0 := by
  intro m
  have wt := c0.1.1
  have h24 := wt.2.2.2.1
  induction m with
  | zero =>
    intro i fuel h hk hf mx kp hth
    obtain ⟨fu, rfl⟩ : ∃ fu, fuel = fu + 1 := ⟨fuel - 1, by omega⟩
    have : i = n2 := by omega
    subst this
    refine ⟨h, ?_, Fmm.rf, mx, hth⟩
    show f7_advise_34b _ h M (nI N) z _ _ (nI i) = _
    unfold f7_advise_34b
    rw [if_pos mx.1.1, mx.2.1.2.1, wt.2.2.1, if_pos (Int32.le_refl _)]
  | succ m ih =>
    intro i fuel h hk hf mx kp hth
    obtain ⟨fu, rfl⟩ : ∃ fu, fuel = fu + 1 := ⟨fuel - 1, by omega⟩
    have hi : i < n2 := by omega
    obtain ⟨-, -, -, -, f, u, hf1, hfu, hu, ef, eu⟩ := wt.2.2.2.2.1 i hi
    have m1i : nI i ≠ -1 := nI_m1 (by omega)
    obtain ⟨g1, x1, x2, x3⟩ := m_setGate mx wt hi (f := 0) (t := 24) (by omega) (by omega) (by omega)
    have f1 : Fmm M h g1 := by
      rw [x2]
      exact ((Fmm.put ⟨by omega, by omega⟩).tr (Fmm.put (a := M + 2) ⟨by omega, by omega⟩)).tr (Fmm.put (a := M + 2) ⟨by omega, by omega⟩)
    have ba : (nI i = -1 ∧ gtS s i 0 24 = s) ∨ ∃ l f' u', l < n2 ∧ f' ≤ 23 ∧ f' ≤ u' ∧ u' ≤ 24 ∧ nI i = nI l ∧ s 2 i 3 = nI f' ∧ s 2 i 4 = nI u' ∧ gtS (gtS s i 0 24) l (nI f') (nI u') = s ∧ WT (gtS s i 0 24) n1 n2 :=
      Or.inr ⟨i, f, u, hi, hf1, hfu, hu, rfl, ef, eu, by rw [← ef, ← eu]; exact gt_gt, gt_WT (f := 0) (t := 24) wt (by omega) (by omega) (by omega)⟩
    obtain ⟨h2, y1, y2, y3, y4, y5⟩ := m_advLoop (K34 := f7_advise_34 fu) (best := (bs s N i).1) (most := (bs s N i).2) (t := gtS s i 0 24) ms ⟨a0, F, _, c0.gt h7 hi⟩ hq hN hz (gt_T (by omega)) (gt_T (by omega)) (by rw [gt_T (by omega)]) ba N 0 300 g1 (by omega) (by omega) x3 (kp.mm f1 hz) (by rw [x2]; simp [gI_PI])
    rw [show arr (quF (gtS s i 0 24) 0) - arr (gtS s i 0 24) = 0 from Int32.sub_self _] at y1
    obtain ⟨h3, z1, z2, z3⟩ := ih (i + 1) fu h2 (by omega) (by omega) y3 y4 y5
    refine ⟨h3, ?_, (f1.tr y2).tr z2, z3⟩
    have hbs : bs s N (i + 1) = if (bs s N i).2 < av s N i then (nI i, av s N i) else bs s N i := rfl
    show f7_advise_34b (f7_advise_34 fu) h M (nI N) z _ _ (nI i) = _
    unfold f7_advise_34b f7_advise_60 f7_advise_79 f7_advise_97
    rw [if_pos mx.1.1, mx.2.1.2.1, wt.2.2.1, if_neg (nI_ge (by omega) (by omega)), if_neg m1i, m_ro (k := 3) (y := (3 : Int32)) mx h24 hi (by omega) rfl rfl, gB2_some, if_neg m1i, if_pos mx.1.1, m_ro (k := 4) (y := (4 : Int32)) mx h24 hi (by omega) rfl rfl, gB2_some, if_neg m1i, if_pos mx.1.1]
    rw [show f7_setGate h M (nI i) 0 24 = f7_setGate h M (nI i) (nI 0) (nI 24) from rfl, x1, gB2_some]
    refine y1.trans ?_
    have ea : arr (quF (gtS s i 0 24) N) - arr (gtS s i 0 24) = av s N i := by rw [gt_arr]; rfl
    unfold f7_advise_146 f7_advise_162 f7_advise_169
    rw [ea, if_neg m1i, nI_1]
    rw [hbs] at z1
    by_cases c : (bs s N i).2 < av s N i
    · rw [if_pos c]
      rw [if_pos c] at z1
      exact z1
    · rw [if_neg c]
      rw [if_neg c] at z1
      exact z1
theorem o_advise {a0 n1 n2 n3 n4 q : Nat} {g : g_H} {s : Sg} (I : ClI a0 g s n1 n2 n3 n4 q) (hq : q + 120 < 2 ^ 26) (x : Int32) : OpR a0 g s n1 n2 n3 n4 q (f6_advise g a0 x) (fun h => f7_advise h (a0 + 153) x) c1 := by
  obtain ⟨s1, s2, s3, s4, s5, s6, s7, s8, s9, s10, s11, s12, s13, s14, s15⟩ := I.sh
  have bad : (x < 1 ∨ ¬ x ≤ 120) → OpR a0 g s n1 n2 n3 n4 q (f6_advise g a0 x) (fun h => f7_advise h (a0 + 153) x) c1 := by
    intro hb
    refine OpR.thr I 2 (by omega) (by omega) ?_ fun h m => ?_
    · unfold f6_advise f6_advise_11
      by_cases c : x < 1
      · rw [if_pos c]
      · rw [if_neg c, if_neg (hb.resolve_left c)]
    · unfold f7_advise f7_isIn
      rw [if_pos m.1.1]
      by_cases c : x < 1
      · rw [if_pos c, gB2_some, if_pos rfl, if_pos m.thr.1.1, m_fail m.thr.1.1, gB2_some]
        rfl
      · rw [if_neg c, if_pos (Int32.not_le.mp (hb.resolve_left c)), gB2_some, if_pos rfl, if_pos m.thr.1.1, m_fail m.thr.1.1, gB2_some]
        rfl
  by_cases d1 : x < 1
  · exact bad (Or.inl d1)
  · by_cases d2 : x ≤ 120
    · obtain ⟨N, rfl, hN1, hN⟩ := rng d1 (n := 120) d2 (by omega)
      obtain ⟨g1, a1, a2, a3⟩ := p_ahead (x := -1) I hN hq (Or.inl ⟨rfl, rfl⟩)
      obtain ⟨g2, b1, b2, b3⟩ := p_advLoop (s := s) hN hq n2 0 300 g1 (by omega) (by omega) a3
      refine ⟨0, (bs s N n2).1, g2, s, n1, n2, n3, n4, q, ?_, by omega, a2.tr b2, b3, by omega, fun h m hZ => ?_⟩
      · unfold f6_advise
        rw [if_neg d1, if_pos d2, if_pos s1, a1, gB2_some]
        exact b1
      · have m' := m.thr (v := 0)
        have hz : a0 + 153 + 8 < gZ (gPI h (a0 + 153) 0 0) := by show _ < gZ h; omega
        obtain ⟨h1, k1, k2, k3, k4, k5⟩ := m_kept m' hz
        have th1 : gI h1 (a0 + 153) 0 = 0 := by rw [k5]; simp [gI_PI]
        obtain ⟨h2, y1, y2, y3, y4, y5⟩ := m_advLoop (K34 := f7_advise_34 299) (best := -1) (most := 0) (x5 := -1) (x6 := 0) (x7 := 0) (t := s) m' ⟨a0, a0 + 43, g, I.1⟩ hq hN hz rfl rfl rfl (Or.inl ⟨rfl, rfl⟩) N 0 300 h1 (by omega) (by omega) k3 k4 th1
        rw [show arr (quF s 0) - arr s = 0 from Int32.sub_self _] at y1
        obtain ⟨h3, z1, z2, z3, z4⟩ := m_advAll I.1 I.2.2.1 m' hq hN hz n2 0 299 h2 (by omega) (by omega) y3 y4 y5
        refine ⟨_, h3, ?_, (((Fmm.put (a := a0 + 153) ⟨by omega, by omega⟩).tr k2).tr y2).tr z2, z3, by rw [z4]; rfl, fun _ => rfl⟩
        show f7_advise h (a0 + 153) (nI N) = _
        unfold f7_advise f7_isIn
        rw [if_pos m.1.1, if_neg d1, if_neg (Int32.not_lt.mpr d2), gB2_some, if_neg n10, if_pos m'.1.1, k1, gB2_some]
        show f7_advise_34b (f7_advise_34 299) h1 (a0 + 153) (nI N) _ (-1) 0 (-1) = _
        unfold f7_advise_34b f7_advise_60 f7_advise_79 f7_advise_97
        have e3 : gI h1 (a0 + 153) 3 = nI n2 := k3.2.1.2.1.trans I.1.1.1.2.2.1
        have hneg : ¬ nI n2 ≤ (-1 : Int32) := by
          intro w
          have := Int32.le_iff_toInt_le.mp w
          rw [nI_toInt (by omega)] at this
          have e : (-1 : Int32).toInt = -1 := rfl
          omega
        rw [if_pos k3.1.1, e3, if_neg hneg, if_pos rfl, if_pos rfl, if_pos rfl]
        refine y1.trans ?_
        unfold f7_advise_146 f7_advise_162 f7_advise_169
        rw [if_pos rfl, show (-1 : Int32) + 1 = nI 0 from by decide]
        exact z1
    · exact bad (Or.inr d2)
