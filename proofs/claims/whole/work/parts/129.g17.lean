/-! PURE: comes as a call -/
def cmP (s0 : Sg) (i k : Nat) (v : Int32) : Prop := (v = -1 ∧ ∀ j, k ≤ j → j ≤ 240 → quF s0 j 5 i 3 = -1) ∨ ∃ j, k ≤ j ∧ j ≤ 240 ∧ v = nI j ∧ quF s0 j 5 i 3 ≠ -1 ∧ ∀ l, k ≤ l → l < j → quF s0 l 5 i 3 = -1
theorem cmP.uni {s0 : Sg} {i k : Nat} {v w : Int32} (h : cmP s0 i k v) (h' : cmP s0 i k w) : w = v := by
  rcases h with ⟨h1, h2⟩ | ⟨j, h1, h2, h3, h4, h5⟩
  · rcases h' with ⟨g1, g2⟩ | ⟨j', g1, g2, g3, g4, g5⟩
    · rw [h1, g1]
    · exact absurd (h2 j' g1 g2) g4
  · rcases h' with ⟨g1, g2⟩ | ⟨j', g1, g2, g3, g4, g5⟩
    · exact absurd (g2 j h1 h2) h4
    · rcases Nat.lt_trichotomy j j' with k | k | k
      · exact absurd (g5 j h1 k) h4
      · rw [h3, g3, k]
      · exact absurd (h5 j' g1 k) g4
theorem m_comesLoop {M a0 F n1 n2 n3 n4 q i z : Nat} {g0 gs : g_H} {s0 : Sg} (c0 : CI a0 F g0 s0 n1 n2 n3 n4 q) (ms : MX M gs s0 n1 n2 n3 n4) (hi : i < n4) (hq : q + 241 < 2 ^ 26) (hz : M + 8 < z) :
    ∀ m k fuel : Nat, ∀ h : g_H, k + m = 240 → m < fuel → MX M h (quF s0 k) n1 n2 n3 n4 → KP z h (gI gs (M + 4)) (gI gs (M + 6)) (gI gs (M + 7)) →
    ∃ v h', f7_comes_26 fuel h M (nI i) z (nI k) = some (v, h') ∧ Fmm M h h' ∧ MX M h' s0 n1 n2 n3 n4 ∧ cmP s0 i k v ∧ gI h' M = gI h M := by
  have h6 := c0.1.2.2.1
  have h20 := c0.1.2.2.2.2.1
  -- the end, whatever is told
  have fin : ∀ (k : Nat) (h : g_H), k ≤ 240 → MX M h (quF s0 k) n1 n2 n3 n4 → KP z h (gI gs (M + 4)) (gI gs (M + 6)) (gI gs (M + 7)) → (quF s0 k 5 i 3 ≠ -1 ∨ k = 240) → ∃ v h', f7_comes_54 h M (nI i) z (nI k) = some (v, h') ∧ Fmm M h h' ∧ MX M h' s0 n1 n2 n3 n4 ∧ cmP s0 i k v ∧ gI h' M = gI h M := by
    intro k h hk m kp ha
    obtain ⟨h', b1, b2, b3⟩ := m_back ms m kp hz (quF_same c0 k (by omega)) h6 h20 rfl rfl rfl
    have bM : gI h' M = gI h M := b2.2.2.2.2 M (by unfold chm; omega)
    unfold f7_comes_54 f7_comes_66
    rw [if_pos m.1.1, m_le (k := 3) (y := (3 : Int32)) m h20 hi (by omega) rfl rfl, gB2_some, b1]
    by_cases a : quF s0 k 5 i 3 = -1
    · have hk2 : k = 240 := ha.resolve_left fun w => w a
      rw [if_pos a, if_pos m.1.1, ob_some]
      refine ⟨-1, h', rfl, b2.mm, b3, Or.inl ⟨rfl, fun j h1 h2 => ?_⟩, bM⟩
      rw [show j = k by omega]; exact a
    · rw [if_neg a, if_pos m.1.1, ob_some]
      exact ⟨nI k, h', rfl, b2.mm, b3, Or.inr ⟨k, Nat.le_refl _, hk, rfl, a, fun l h1 h2 => absurd h1 (by omega)⟩, bM⟩
  intro m
  induction m with
  | zero =>
    intro k fuel h hk hf mx kp
    obtain ⟨fu, rfl⟩ : ∃ fu, fuel = fu + 1 := ⟨fuel - 1, by omega⟩
    have : k = 240 := by omega
    subst this
    show ∃ v h', f7_comes_26b (f7_comes_26 fu) h M (nI i) z (nI 240) = some (v, h') ∧ _
    unfold f7_comes_26b
    rw [if_pos (by decide)]
    exact fin 240 h (by omega) mx kp (Or.inr rfl)
  | succ m ih =>
    intro k fuel h hk hf mx kp
    obtain ⟨fu, rfl⟩ : ∃ fu, fuel = fu + 1 := ⟨fuel - 1, by omega⟩
    have hlt : ¬ (240 : Int32) ≤ nI k := nI_ge (b := 240) (by omega) (by omega)
    show ∃ v h', f7_comes_26b (f7_comes_26 fu) h M (nI i) z (nI k) = some (v, h') ∧ _
    unfold f7_comes_26b
    rw [if_neg hlt, if_pos mx.1.1, m_le (k := 3) (y := (3 : Int32)) mx h20 hi (by omega) rfl rfl, gB2_some]
    by_cases a : quF s0 k 5 i 3 = -1
    · obtain ⟨gk, ck⟩ := c_qus c0 k (by omega)
      obtain ⟨h1, y1, y2, y3⟩ := m_quarterOn ck mx
      obtain ⟨v, h2, x1, x2, x3, x4, x5⟩ := ih (k + 1) fu h1 (by omega) (by omega) y3 (kp.mm y2.mm hz)
      refine ⟨v, h2, ?_, y2.mm.tr x2, x3, ?_, x5.trans (y2.2.2.2.2 M (by unfold chm; omega))⟩
      · rw [if_pos a, if_pos mx.1.1, y1, gB2_some, nI_1]
        exact x1
      · rcases x4 with ⟨z5, z6⟩ | ⟨j, j1, j2, j3, j4, j5⟩
        · refine Or.inl ⟨z5, fun j h1 h2 => ?_⟩
          by_cases e : j = k
          · rw [e]; exact a
          · exact z6 j (by omega) h2
        · refine Or.inr ⟨j, by omega, j2, j3, j4, fun l h1 h2 => ?_⟩
          by_cases e : l = k
          · rw [e]; exact a
          · exact j5 l (by omega) h2
    · rw [if_neg a]
      exact fin k h (by omega) mx kp (Or.inl a)
theorem o_comes {a0 n1 n2 n3 n4 q : Nat} {g : g_H} {s : Sg} (I : ClI a0 g s n1 n2 n3 n4 q) (hq : q + 241 < 2 ^ 26) (x : Int32) : OpR a0 g s n1 n2 n3 n4 q (f6_comes g a0 x) (fun h => f7_comes h (a0 + 153) x) c1 := by
  obtain ⟨s1, s2, s3, s4, s5, s6, s7, s8, s9, s10, s11, s12, s13, s14, s15⟩ := I.sh
  have e4 := I.1.1.2.2.2.1
  by_cases hx : inR (nI n4) x
  · obtain ⟨i, hi, rfl⟩ := inR_nat (by omega) hx
    have ci : Int32.toNatClampNeg (nI i) = i := cl_nI (by omega)
    obtain ⟨g1, p1, p2, p3, p4, p5⟩ := p_copy I
    have fa := p4.2.1.2.2.1
    obtain ⟨t1, t2, t3, t4, t5, t6, t7, t8⟩ := fa
    obtain ⟨u1, u2, u3, u4, -⟩ := p3.sh
    obtain ⟨v, g2, r1, r2, r3, r4⟩ := p_comesLoop hi hq 241 0 300 g1 (by omega) (by omega) p3 p4
    refine ⟨0, v, g2, s, n1, n2, n3, n4, q, ?_, by omega, p2.tr r2, r3, by omega, fun h m hZ => ?_⟩
    · unfold f6_comes
      rw [if_pos s1, p_checkLetter I, gB2_some, if_pos hx, if_pos n0e, if_pos s1, s4, ob_some, s3, ob_some, if_pos I.2.1.2.2.2.2.2.1.1, p1, ob_some, if_pos u1, u4, ob_some, if_pos t1, t4, ob_some, t6, if_pos rfl, if_pos (ixOk (by omega) (by omega)), ci, (t8 i (by omega)).1, ob_some]
      exact r1
    · have m' := m.thr (v := 0)
      obtain ⟨h1, k1, k2, k3, k4, k5⟩ := m_kept m' (show a0 + 153 + 8 < gZ (gPI h (a0 + 153) 0 0) from by show _ < gZ h; omega)
      obtain ⟨v', h2, l1, l2, l3, l4, l5⟩ := m_comesLoop (z := gZ (gPI h (a0 + 153) 0 0)) I.1 m' hi hq (show a0 + 153 + 8 < gZ (gPI h (a0 + 153) 0 0) from by show _ < gZ h; omega) 240 0 300 h1 (by omega) (by omega) k3 k4
      refine ⟨v', h2, ?_, ((Fmm.put (a := a0 + 153) ⟨by omega, by omega⟩).tr k2).tr l2, l3, ?_, fun _ => ?_⟩
      · show f7_comes h (a0 + 153) (nI i) = _
        unfold f7_comes
        rw [if_pos m.1.1, m_isLetter m' e4 s15, gB2_some, if_pos hx, if_neg n10, if_pos m'.1.1, k1, gB2_some]
        exact l1
      · rw [l5, k5]
        simp [gI_PI]
        rfl
      · exact cmP.uni (show cmP s i 0 v from r4) l4
  · refine OpR.thr I 1 (by omega) (by omega) ?_ fun h m => ?_
    · unfold f6_comes
      rw [if_pos s1, p_checkLetter I, gB2_some, if_neg hx, if_neg n1e]
    · have m' := m.thr (v := 0)
      unfold f7_comes
      rw [if_pos m.1.1, m_isLetter m' e4 s15, gB2_some, if_neg hx, if_pos rfl, if_pos m'.1.1, m_fail m'.1.1, gB2_some]
      rfl
