/-! PURE: brought back; comes -/
theorem cpy_in {f g : Nat → Int32} {n i : Nat} (h : i < n) : va_cpy f g 0 0 n i = f i := by
  unfold va_cpy
  rw [if_pos (by omega), show 0 + (i - 0) = i by omega]
theorem m_bring {M n1 n2 n3 n4 z : Nat} {h : g_H} {t : Sg} {w4 w6 w7 : Nat → Int32} (m : MX M h t n1 n2 n3 n4) (kp : KP z h w4 w6 w7) (hz : M + 8 < z) :
    ∃ h', f7_bringBack h M z = some h' ∧ Fm M h h' ∧ (∀ i, i < 48 → gI h' (M + 4) i = w4 i) ∧ (∀ i, i < 100 → gI h' (M + 6) i = w6 i) ∧ gI h' (M + 7) 0 = w7 0 := by
  obtain ⟨k1, k2, k3, k4, k5, k6, k7, k8, k9, k10, k11⟩ := kp
  obtain ⟨A, hA⟩ : ∃ A, A = gPW h (M + 4) (va_cpy w4 (gI h (M + 4)) 0 0 48) := ⟨_, rfl⟩
  obtain ⟨B, hB⟩ : ∃ B, B = gPW A (M + 6) (va_cpy w6 (gI A (M + 6)) 0 0 100) := ⟨_, rfl⟩
  have SA : gS A = gS h := by rw [hA]; rfl
  have RA : gR A = gR h := by rw [hA]; rfl
  have SB : gS B = gS h := by rw [hB]; exact SA
  have RB : gR B = gR h := by rw [hB]; exact RA
  have IA : ∀ a, a ≠ M + 4 → gI A a = gI h a := fun a ha => by rw [hA]; exact gW_o ha
  have IB : ∀ a, a ≠ M + 6 → gI B a = gI A a := fun a ha => by rw [hB]; exact gW_o ha
  have c48 : ¬ (0 : Int32) < 0 ∧ ¬ (0 : Int32) < 0 ∧ ¬ nI 48 < 0 ∧ 0 + Int32.toNatClampNeg (nI 48) ≤ 48 ∧ 0 + Int32.toNatClampNeg (nI 48) ≤ 48 := by decide
  have c100 : ¬ (0 : Int32) < 0 ∧ ¬ (0 : Int32) < 0 ∧ ¬ nI 100 < 0 ∧ 0 + Int32.toNatClampNeg (nI 100) ≤ 100 ∧ 0 + Int32.toNatClampNeg (nI 100) ≤ 100 := by decide
  refine ⟨gPI B (M + 7) 0 (w7 0), ?_, ?_, fun i hi => ?_, fun i hi => ?_, ?_⟩
  · unfold f7_bringBack gLt
    rw [k1, if_pos rfl, if_pos (by decide), show Int32.toNatClampNeg (0 : Int32) = 0 from rfl, k2, ob_some, if_pos m.1.1, m.1.2.1.2.2.2.1, ob_some, ob_some, m.1.2.2.2.2.2.1, if_pos rfl, k5, if_pos rfl, if_pos rfl, if_pos c48, if_pos (by decide)]
    rw [show Int32.toNatClampNeg (nI 48) = 48 from rfl, k8, ← hA, show Int32.toNatClampNeg (1 : Int32) = 1 from rfl, RA, k3, ob_some, m.1.2.1.2.2.2.2.2.1, ob_some, ob_some, m.1.2.2.2.2.2.2.2.1, if_pos rfl, k6, if_pos rfl, if_pos rfl, SA, m.1.2.2.2.2.2.2.2.1, if_pos c100]
    dsimp only
    rw [show Int32.toNatClampNeg (nI 100) = 100 from rfl, show gI A (z + 2) = w6 by rw [IA _ (by omega)]; exact k9, ← hB, RB, m.1.2.1.2.2.2.2.2.2.1, ob_some, SB, k1, if_pos (by decide), show Int32.toNatClampNeg (2 : Int32) = 2 from rfl, k4, ob_some, k7, if_pos rfl, if_pos (by decide), m.1.2.2.2.2.2.2.2.2.1, if_pos rfl]
    dsimp only
    rw [if_pos (by decide), show gI B (z + 3) = w7 by rw [IB _ (by omega), IA _ (by omega)]; exact k10]
  · refine ⟨SB, RB, by rw [hB, hA]; rfl, by rw [hB, hA]; rfl, fun a ha => ?_⟩
    unfold chm at ha
    rw [show gI (gPI B (M + 7) 0 (w7 0)) a = gI B a from gU_o (by omega), IB a (by omega), IA a (by omega)]
  · rw [gI_PI, if_neg (by omega), IB _ (by omega), hA, gI_PW, if_pos rfl, cpy_in hi]
  · rw [gI_PI, if_neg (by omega), hB, gI_PW, if_pos rfl, cpy_in hi]
  · rw [gI_PI, if_pos rfl, if_pos rfl]
theorem Same.sym {s t : Sg} (h : Same s t) : Same t s := ⟨fun k hk => (h.1 k hk).symm, h.2.1.symm, h.2.2.1.symm, h.2.2.2.1.symm, h.2.2.2.2.1.symm, fun b => (h.2.2.2.2.2 b).symm⟩
/-- back to where it was -/
theorem m_back {M n1 n2 n3 n4 z : Nat} {g h : g_H} {s t u : Sg} (m0 : MX M g s n1 n2 n3 n4) (m : MX M h t n1 n2 n3 n4) (kp : KP z h (gI g (M + 4)) (gI g (M + 6)) (gI g (M + 7))) (hz : M + 8 < z) (hs : Same u t) (h6 : n3 ≤ 6) (h20 : n4 ≤ 20) (e3 : u 3 = s 3) (e5 : u 5 = s 5) (e0 : u 0 0 0 = s 0 0 0) :
    ∃ h', f7_bringBack h M z = some h' ∧ Fm M h h' ∧ MX M h' u n1 n2 n3 n4 := by
  obtain ⟨h', x1, x2, x3, x4, x5⟩ := m_bring m kp hz
  refine ⟨h', x1, x2, m.fm x2 hs.sym ⟨fun b hb k hk => ?_, fun i hi k hk => ?_, ?_⟩⟩
  · rw [x3 _ (by omega), e3]; exact m0.2.2.2.1 b hb k hk
  · rw [x4 _ (by omega), e5]; exact m0.2.2.2.2.1 i hi k hk
  · rw [x5, e0]; exact m0.2.2.2.2.2
/-- how many quarters until a letter has come, at most n, from quarter k on -/
theorem p_comesLoop {a0 n1 n2 n3 n4 q i : Nat} {s0 : Sg} (hi : i < n4) (hq : q + 241 < 2 ^ 26) :
    ∀ m k fuel : Nat, ∀ g : g_H, k + m = 241 → m < fuel → ClI a0 g s0 n1 n2 n3 n4 q → CI a0 (a0 + 96) g (quF s0 k) n1 n2 n3 n4 (q + k) →
    ∃ v g', f6_comes_28 fuel g a0 (a0 + 96 + 33 + i) (nI k) = some ((0, v), g') ∧ Fc a0 g g' ∧ ClI a0 g' s0 n1 n2 n3 n4 q ∧ ((v = -1 ∧ ∀ j, k ≤ j → j ≤ 240 → quF s0 j 5 i 3 = -1) ∨ ∃ j, k ≤ j ∧ j ≤ 240 ∧ v = nI j ∧ quF s0 j 5 i 3 ≠ -1 ∧ ∀ l, k ≤ l → l < j → quF s0 l 5 i 3 = -1) := by
  intro m
  induction m with
  | zero =>
    intro k fuel g hk hf I c
    obtain ⟨fu, rfl⟩ : ∃ fu, fuel = fu + 1 := ⟨fuel - 1, by omega⟩
    have : k = 241 := by omega
    subst this
    refine ⟨-1, g, ?_, Fc.rf, I, Or.inl ⟨rfl, fun j h1 h2 => absurd h1 (by omega)⟩⟩
    show f6_comes_28b (f6_comes_28 fu) g a0 (a0 + 96 + 33 + i) (nI 241) = _
    unfold f6_comes_28b
    rw [if_pos (by decide)]
  | succ m ih =>
    intro k fuel g hk hf I c
    obtain ⟨fu, rfl⟩ : ∃ fu, fuel = fu + 1 := ⟨fuel - 1, by omega⟩
    obtain ⟨l1, l2, l3⟩ := clL c hi
    obtain ⟨s1, s2, s3, s4, -⟩ := I.sh
    have hlt : ¬ (240 : Int32) < nI k := nI_nlt (a := 240) (by omega) (by omega)
    have v3 : gI g (a0 + 96 + 33 + i) 3 = quF s0 k 5 i 3 := l3 3 (by omega)
    show ∃ v g', f6_comes_28b (f6_comes_28 fu) g a0 (a0 + 96 + 33 + i) (nI k) = some ((0, v), g') ∧ _
    unfold f6_comes_28b f3_hasArrived
    rw [if_neg hlt, if_pos l2, if_pos l2, v3]
    by_cases a : quF s0 k 5 i 3 = -1
    · rw [if_pos a, gB2_some, if_pos rfl, if_pos s1, s4, ob_some, if_pos c.kF]
      obtain ⟨g1, y1, y2, y3⟩ := p_quarter c (by omega)
      have f1 : Fc a0 g g1 := y2.fc (Or.inr rfl)
      have I1 : ClI a0 g1 s0 n1 n2 n3 n4 q := by
        have ag : Ag a0 (a0 + 95) g g1 := fun a h1 h2 => ⟨by rw [y2.1], by rw [y2.2.1], y2.2.2.2.2.2 a (by
          intro hc
          rcases hc with h | ⟨b, hb, h⟩ | ⟨i, hi, h⟩ <;> omega)⟩
        obtain ⟨w1, w2, w3, w4⟩ := I
        refine ⟨w1.ag ag (by omega) (by omega), ?_, by rw [(ag (a0 + 43) (by omega) (by omega)).2.2]; exact w3, w4⟩
        obtain ⟨t1, t2, t3, t4, t5, t6, t7, t8⟩ := w2
        refine ⟨by rw [y2.1]; exact t1, by rw [y2.2.1]; exact t2, by rw [y2.2.1]; exact t3, by rw [y2.2.1]; exact t4, by rw [y2.2.1]; exact t5, ?_, ?_, fun b hb => ?_⟩
        · unfold FL; rw [y2.1, y2.2.1]; exact t6
        · unfold RtL; rw [y2.1, y2.2.1]; exact t7
        · rw [y2.2.1, y2.2.2.2.2.1.2, y2.2.2.2.2.1.2]; exact t8 b hb
      obtain ⟨v, g2, z1, z2, z3, z4⟩ := ih (k + 1) fu g1 (by omega) (by omega) I1 y3
      refine ⟨v, g2, ?_, f1.tr z2, z3, ?_⟩
      · rw [y1, ob_some, nI_1]; exact z1
      · rcases z4 with ⟨z5, z6⟩ | ⟨j, j1, j2, j3, j4, j5⟩
        · refine Or.inl ⟨z5, fun j h1 h2 => ?_⟩
          by_cases e : j = k
          · rw [e]; exact a
          · exact z6 j (by omega) h2
        · refine Or.inr ⟨j, by omega, j2, j3, j4, fun l h1 h2 => ?_⟩
          by_cases e : l = k
          · rw [e]; exact a
          · exact j5 l (by omega) h2
    · rw [if_neg a, gB2_some, if_neg n10]
      exact ⟨nI k, g, rfl, Fc.rf, I, Or.inr ⟨k, Nat.le_refl _, by omega, rfl, a, fun l h1 h2 => absurd h1 (by omega)⟩⟩
