/-! PURE: digest, the model -/
theorem m_digest {M n1 n2 n3 n4 q : Nat} {h0 : g_H} {s : Sg} (w : WF s n1 n2 n3 n4 q) (m0 : MX M h0 s n1 n2 n3 n4) (hZ0 : M + 8 < gZ h0) :
    ∃ g', f7_digest h0 M = some (dgV s n1 n2 n3 n4, g') ∧ Fmm M h0 g' ∧ MX M g' s n1 n2 n3 n4 := by
  obtain ⟨wt, w2, w3, w4, w5, w6, w7, w8, w9⟩ := w
  obtain ⟨e1, e2, e3, e4, e5, e6, e7⟩ := wt
  have l4 : ∀ h, MX M h s n1 n2 n3 n4 → ∀ k i fuel : Nat, ∀ d : Int64, i + k = 5 * n4 → k < fuel → f7_digest_195 fuel h M (dF (fl (s 5)) d i) (nI i) = some (dF (fl (s 5)) d (5 * n4), h) := by
    intro h m k
    induction k with
    | zero =>
      intro i fuel d hi hf
      obtain ⟨fu, rfl⟩ : ∃ fu, fuel = fu + 1 := ⟨fuel - 1, by omega⟩
      have : i = 5 * n4 := by omega
      subst this
      show f7_digest_195b (f7_digest_195 fu) h M _ (nI (5 * n4)) = _
      unfold f7_digest_195b
      rw [if_pos m.1.1, m.2.1.2.2.2, w4, show (5 : Int32) * nI n4 = nI (5 * n4) by rw [show (5 : Int32) = nI 5 from rfl, pk_mul], if_pos (Int32.le_refl _)]
    | succ k ih =>
      intro i fuel d hi hf
      obtain ⟨fu, rfl⟩ : ∃ fu, fuel = fu + 1 := ⟨fuel - 1, by omega⟩
      have ci : Int32.toNatClampNeg (nI i) = i := cl_nI (by omega)
      have hv : gI h (M + 6) i = fl (s 5) i := by
        have := m.2.2.2.2.1 (i / 5) (by omega) (i % 5) (by omega)
        rw [show 5 * (i / 5) + i % 5 = i by omega] at this
        exact this
      have hr := ih (i + 1) fu d (by omega) (by omega)
      show f7_digest_195b (f7_digest_195 fu) h M _ (nI i) = _
      unfold f7_digest_195b
      rw [if_pos m.1.1, m.2.1.2.2.2, w4, show (5 : Int32) * nI n4 = nI (5 * n4) by rw [show (5 : Int32) = nI 5 from rfl, pk_mul], if_neg (nI_ge (by omega) (by omega)), m.1.2.1.2.2.2.2.2.1, ob_some, m.1.2.2.2.2.2.2.2.1, if_pos rfl, if_pos (ixOk (by omega) (by omega)), ci, hv, nI_1]
      exact hr
  have l3 : ∀ (b : Nat) (K : g_H → Nat → Int64 → Int32 → Option (Int64 × g_H)) (h : g_H), b < n3 → MX M h s n1 n2 n3 n4 → ∀ k i fuel : Nat, ∀ d : Int64, i + k = cl (s 3 b 5) → k < fuel → f7_digest_150 K fuel h M (dF (s 4 b) d i) (nI b) (nI i) = K h M (dF (s 4 b) d (cl (s 3 b 5))) (nI (b + 1)) := by
    intro b K h hb m k
    obtain ⟨z, p, l, st, ho, x1, x2, x3, -⟩ := (w8 b hb).1
    have cz : cl (nI z) = z := cl_nI (by omega)
    rw [x1, cz]
    induction k with
    | zero =>
      intro i fuel d hi hf
      obtain ⟨fu, rfl⟩ : ∃ fu, fuel = fu + 1 := ⟨fuel - 1, by omega⟩
      have : i = z := by omega
      subst this
      show f7_digest_150b K (f7_digest_150 K fu) h M _ (nI b) (nI i) = _
      unfold f7_digest_150b
      rw [if_pos m.1.1, m_be (i := b) (k := 5) (y := (5 : Int32)) m w3 hb (by omega) rfl rfl, gB2_some, x1, if_pos (Int32.le_refl _), nI_1]
    | succ k ih =>
      intro i fuel d hi hf
      obtain ⟨fu, rfl⟩ : ∃ fu, fuel = fu + 1 := ⟨fuel - 1, by omega⟩
      have ci : Int32.toNatClampNeg (nI (7 * b + i)) = 7 * b + i := cl_nI (by omega)
      have hv : gI h (M + 5) (7 * b + i) = s 4 b i := m.2.2.1.2.2.2 b hb i (by rw [x1, cz]; omega)
      have hr := ih (i + 1) fu d (by omega) (by omega)
      show f7_digest_150b K (f7_digest_150 K fu) h M _ (nI b) (nI i) = _
      unfold f7_digest_150b
      rw [if_pos m.1.1, m_be (i := b) (k := 5) (y := (5 : Int32)) m w3 hb (by omega) rfl rfl, gB2_some, x1, if_neg (nI_ge (by omega) (by omega)), if_pos m.1.1, m.1.2.1.2.2.2.2.1, ob_some, m.1.2.2.2.2.2.2.1, if_pos rfl, ix7, if_pos (ixOk (by omega) (by omega)), ci, hv, nI_1]
      exact hr
  have l2 : ∀ (b : Nat) (K : g_H → Nat → Int64 → Int32 → Option (Int64 × g_H)), b < n3 → ∀ k i fuel : Nat, ∀ (d : Int64) (h : g_H), MX M h s n1 n2 n3 n4 → M + 8 < gZ h → i + k = 9 → k < fuel →
      ∃ h', f7_digest_119 K fuel h M (dF (tl s b) d i) (nI b) (nI i) = f7_digest_150 K 300 h' M (dF (tl s b) d 9) (nI b) 0 ∧ Fmm M h h' ∧ MX M h' s n1 n2 n3 n4 := by
    intro b K hb k
    induction k with
    | zero =>
      intro i fuel d h m hZ hi hf
      obtain ⟨fu, rfl⟩ : ∃ fu, fuel = fu + 1 := ⟨fuel - 1, by omega⟩
      have : i = 9 := by omega
      subst this
      refine ⟨h, ?_, Fmm.rf, m⟩
      show f7_digest_119b K (f7_digest_119 K fu) h M _ (nI b) (nI 9) = _
      unfold f7_digest_119b
      rw [if_pos (by decide)]
    | succ k ih =>
      intro i fuel d h m hZ hi hf
      obtain ⟨fu, rfl⟩ : ∃ fu, fuel = fu + 1 := ⟨fuel - 1, by omega⟩
      obtain ⟨g1, y1, y2, y3, y4⟩ := m_beeTold m hZ w3 w5 w4 hb (w8 b hb).1 (show i < 9 by omega)
      obtain ⟨g2, z1, z2, z3⟩ := ih (i + 1) fu d g1 y3 (Nat.lt_of_lt_of_le hZ y2.1) (by omega) (by omega)
      refine ⟨g2, ?_, y2.tr z2, z3⟩
      show f7_digest_119b K (f7_digest_119 K fu) h M _ (nI b) (nI i) = _
      unfold f7_digest_119b
      rw [if_neg (show ¬ (9 : Int32) ≤ nI i from nI_ge (b := 9) (by omega) (by omega)), if_pos m.1.1, y1, gB2_some, nI_1]
      exact z1
  have l1 : ∀ k b fuel : Nat, ∀ (d : Int64) (h : g_H), MX M h s n1 n2 n3 n4 → M + 8 < gZ h → b + k = n3 → k < fuel →
      ∃ h', f7_digest_108 fuel h M (dB s d b) (nI b) = some (dF (fl (s 5)) (dB s d n3) (5 * n4), h') ∧ Fmm M h h' ∧ MX M h' s n1 n2 n3 n4 := by
    intro k
    induction k with
    | zero =>
      intro b fuel d h m hZ hb hf
      obtain ⟨fu, rfl⟩ : ∃ fu, fuel = fu + 1 := ⟨fuel - 1, by omega⟩
      have : b = n3 := by omega
      subst this
      refine ⟨h, ?_, Fmm.rf, m⟩
      show f7_digest_108b (f7_digest_108 fu) h M _ (nI b) = _
      unfold f7_digest_108b
      rw [if_pos m.1.1, m.2.1.2.2.1, w2, if_pos (Int32.le_refl _)]
      exact l4 h m (5 * n4) 0 300 _ (by omega) (by omega)
    | succ k ih =>
      intro b fuel d h m hZ hb hf
      obtain ⟨fu, rfl⟩ : ∃ fu, fuel = fu + 1 := ⟨fuel - 1, by omega⟩
      obtain ⟨g1, y1, y2, y3⟩ := l2 b (f7_digest_108 fu) (by omega) 9 0 10 (dB s d b) h m hZ (by omega) (by omega)
      obtain ⟨g2, z1, z2, z3⟩ := ih (b + 1) fu d g1 y3 (Nat.lt_of_lt_of_le hZ y2.1) (by omega) (by omega)
      refine ⟨g2, ?_, y2.tr z2, z3⟩
      have hz : cl (s 3 b 5) < 300 := by
        obtain ⟨z, p, l, st, ho, x1, x2, x3, -⟩ := (w8 b (by omega)).1
        rw [x1, show cl (nI z) = z from cl_nI (by omega)]
        omega
      have y5 := l3 b (f7_digest_108 fu) g1 (by omega) y3 (cl (s 3 b 5)) 0 300 (dF (tl s b) (dB s d b) 9) (by omega) hz
      show f7_digest_108b (f7_digest_108 fu) h M _ (nI b) = _
      unfold f7_digest_108b
      rw [if_pos m.1.1, m.2.1.2.2.1, w2, if_neg (nI_ge (by omega) (by omega))]
      exact y1.trans (y5.trans z1)
  have l0 : ∀ h, MX M h s n1 n2 n3 n4 → M + 8 < gZ h → ∀ k i fuel : Nat, ∀ d : Int64, i + k = 5 * n2 → k < fuel →
      ∃ h', f7_digest_76 fuel h M (dF (fl (s 2)) d i) (nI i) = some (dF (fl (s 5)) (dB s (dF (fl (s 2)) d (5 * n2)) n3) (5 * n4), h') ∧ Fmm M h h' ∧ MX M h' s n1 n2 n3 n4 := by
    intro h m hZ k
    induction k with
    | zero =>
      intro i fuel d hi hf
      obtain ⟨fu, rfl⟩ : ∃ fu, fuel = fu + 1 := ⟨fuel - 1, by omega⟩
      have : i = 5 * n2 := by omega
      subst this
      show ∃ h', f7_digest_76b (f7_digest_76 fu) h M _ (nI (5 * n2)) = _ ∧ _
      unfold f7_digest_76b
      rw [if_pos m.1.1, m.2.1.2.1, e3, show (5 : Int32) * nI n2 = nI (5 * n2) by rw [show (5 : Int32) = nI 5 from rfl, pk_mul], if_pos (Int32.le_refl _)]
      exact l1 n3 0 7 _ h m hZ (by omega) (by omega)
    | succ k ih =>
      intro i fuel d hi hf
      obtain ⟨fu, rfl⟩ : ∃ fu, fuel = fu + 1 := ⟨fuel - 1, by omega⟩
      have ci : Int32.toNatClampNeg (nI i) = i := cl_nI (by omega)
      have hv : gI h (M + 2) i = fl (s 2) i := by
        have := m.2.2.1.2.1 (i / 5) (by omega) (i % 5) (by omega)
        rw [show 5 * (i / 5) + i % 5 = i by omega] at this
        exact this
      have hr := ih (i + 1) fu d (by omega) (by omega)
      show ∃ h', f7_digest_76b (f7_digest_76 fu) h M _ (nI i) = _ ∧ _
      unfold f7_digest_76b
      rw [if_pos m.1.1, m.2.1.2.1, e3, show (5 : Int32) * nI n2 = nI (5 * n2) by rw [show (5 : Int32) = nI 5 from rfl, pk_mul], if_neg (nI_ge (by omega) (by omega)), m.1.2.1.2.1, ob_some, m.1.2.2.2.1, if_pos rfl, if_pos (ixOk (by omega) (by omega)), ci, hv, nI_1]
      exact hr
  have lh : ∀ h, MX M h s n1 n2 n3 n4 → M + 8 < gZ h → ∀ k i fuel : Nat, ∀ d : Int64, i + k = n1 → k < fuel →
      ∃ h', f7_digest_38 fuel h M (dF (fun h => s 1 h 0) d i) (nI i) = some (dF (fl (s 5)) (dB s (dF (fl (s 2)) (dF (fun h => s 1 h 0) d n1) (5 * n2)) n3) (5 * n4), h') ∧ Fmm M h h' ∧ MX M h' s n1 n2 n3 n4 := by
    intro h m hZ k
    induction k with
    | zero =>
      intro i fuel d hi hf
      obtain ⟨fu, rfl⟩ : ∃ fu, fuel = fu + 1 := ⟨fuel - 1, by omega⟩
      have : i = n1 := by omega
      subst this
      show ∃ h', f7_digest_38b (f7_digest_38 fu) h M _ (nI i) = _ ∧ _
      unfold f7_digest_38b
      rw [if_pos m.1.1, m.2.1.1, e1, if_pos (Int32.le_refl _)]
      exact l0 h m hZ (5 * n2) 0 300 _ (by omega) (by omega)
    | succ k ih =>
      intro i fuel d hi hf
      obtain ⟨fu, rfl⟩ : ∃ fu, fuel = fu + 1 := ⟨fuel - 1, by omega⟩
      have ci : Int32.toNatClampNeg (nI i) = i := cl_nI (by omega)
      have hv : gI h (M + 1) i = s 1 i 0 := m.2.2.1.1 i (by omega)
      have hr := ih (i + 1) fu d (by omega) (by omega)
      have hd : dF (fun h => s 1 h 0) d (i + 1) = dF (fun h => s 1 h 0) d i * 31 + Int32.toInt64 (s 1 i 0) := rfl
      show ∃ h', f7_digest_38b (f7_digest_38 fu) h M _ (nI i) = _ ∧ _
      unfold f7_digest_38b f7_digest_65
      rw [if_pos m.1.1, m.2.1.1, e1, if_neg (nI_ge (by omega) (by omega)), m.1.2.1.1, ob_some, m.1.2.2.1, if_pos rfl, if_pos (ixOk (by omega) (by omega)), ci, hv, nI_1]
      rcases e6 i (by omega) with e | e
      · rw [hd, e] at hr
        rw [e, if_pos rfl]; exact hr
      · rw [hd, e] at hr
        rw [e, if_neg n10]; exact hr
  have lc : ∀ h, MX M h s n1 n2 n3 n4 → M + 8 < gZ h → ∀ k i fuel : Nat, i + k = 9 → k < fuel →
      ∃ h', f7_digest_11 fuel h M (dF (cnS s n2 n3 n4) 811 i) (nI i) = some (dgV s n1 n2 n3 n4, h') ∧ Fmm M h h' ∧ MX M h' s n1 n2 n3 n4 := by
    intro h m hZ k
    induction k with
    | zero =>
      intro i fuel hi hf
      obtain ⟨fu, rfl⟩ : ∃ fu, fuel = fu + 1 := ⟨fuel - 1, by omega⟩
      have : i = 9 := by omega
      subst this
      show ∃ h', f7_digest_11b (f7_digest_11 fu) h M _ (nI 9) = _ ∧ _
      unfold f7_digest_11b
      rw [if_pos (by decide)]
      exact lh h m hZ n1 0 300 _ (by omega) (by omega)
    | succ k ih =>
      intro i fuel hi hf
      obtain ⟨fu, rfl⟩ : ∃ fu, fuel = fu + 1 := ⟨fuel - 1, by omega⟩
      have hr := ih (i + 1) fu (by omega) (by omega)
      show ∃ h', f7_digest_11b (f7_digest_11 fu) h M _ (nI i) = _ ∧ _
      unfold f7_digest_11b
      rw [if_neg (show ¬ (9 : Int32) ≤ nI i from nI_ge (b := 9) (by omega) (by omega)), if_pos m.1.1, m_counted ⟨⟨e1, e2, e3, e4, e5, e6, e7⟩, w2, w3, w4, w5, w6, w7, w8, w9⟩ m (by omega), gB2_some, nI_1]
      exact hr
  have m' := m0.thr (v := 0)
  obtain ⟨g', x1, x2, x3⟩ := lc _ m' hZ0 9 0 300 (by omega) (by omega)
  refine ⟨g', ?_, (Fmm.put ⟨by omega, by omega⟩).tr x2, x3⟩
  unfold f7_digest
  rw [if_pos m0.1.1]
  exact x1
