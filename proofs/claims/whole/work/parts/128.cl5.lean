/-! PURE: handing over and collecting, the loops -/
theorem i_ok {n i : Nat} (h : i < n) (hn : n < 2 ^ 31) : ¬ (nI i < 0 ∨ n ≤ Int32.toNatClampNeg (nI i)) := nI_in h hn
theorem p_hoStep {a0 F n1 n2 n3 n4 q b i : Nat} {g : g_H} {s : Sg} (c : CI a0 F g s n1 n2 n3 n4 q) (hb : b < n3) (hi : i < n4) (hc : ¬ car s b ≤ 0) :
    ∃ g', (∀ K, f1_handOver_2b K g F (F + 2 + 5 * b) (s 4 b (cl (s 3 b 0))) (nI i) = K g' F (F + 2 + 5 * b) (s 4 b (cl (s 3 b 0))) (nI i + 1)) ∧ Fr F g g' ∧ CI a0 F g' (hoS s b (s 4 b (cl (s 3 b 0))) i) n1 n2 n3 n4 q := by
  obtain ⟨b1, b2, b3, b4, b5, b6, b7, b8, b9, b10, b11, b12, b13, b14, b15, b16, b17, b18, b19, b20⟩ := clB c hb
  obtain ⟨l1, l2, l3⟩ := clL c hi
  have hlt : ¬ nI n4 ≤ nI i := nI_ge hi (by omega)
  have hix : ¬ (nI i < 0 ∨ 20 ≤ Int32.toNatClampNeg (nI i)) := nI_in (by omega) (by omega)
  have ci : Int32.toNatClampNeg (nI i) = i := cl_nI (by omega)
  have e0 : gI g (F + 33 + i) 0 = s 5 i 0 := l3 0 (by omega)
  have e2 : gI g (F + 33 + i) 2 = s 5 i 2 := l3 2 (by omega)
  have hto : inR (nI n1) (s 5 i 0) := (c.1.2.2.2.2.2.2.2.2 i hi).1
  by_cases h : s 5 i 2 = nI b
  · by_cases h' : s 5 i 0 = s 4 b (cl (s 3 b 0))
    · obtain ⟨h1, h2, x1, x2, x3, x4, x5⟩ := clDel c hb hi h hc
      refine ⟨h2, fun K => ?_, x4, ?_⟩
      · unfold f1_handOver_2b f1_handOver_91 gLt
        rw [if_pos b1, b2, if_neg hlt, if_pos b11, b14, if_neg hc, b7]
        show (if (gS g (F + 32)).fst = 17 then _ else _) = _
        rw [b9, if_pos rfl]
        show (if ¬ (nI i < 0 ∨ 20 ≤ Int32.toNatClampNeg (nI i)) then _ else _) = _
        rw [if_pos hix, ci, l1]
        show (if (gS g (F + 33 + i)).fst = 4 then _ else _) = _
        rw [if_pos l2, e2, b13, if_pos h, e0, if_pos h', b3, x1]
        show (if (gS h1 F).fst = 2 then _ else _) = _
        rw [if_pos x3, x2]
      · unfold hoS
        rw [if_pos h, if_pos h']
        exact x5
    · by_cases h'' : tg s b (s 5 i 0) = s 4 b (cl (s 3 b 0))
      · obtain ⟨h1, x1, x4, x5⟩ := clLay c hb hi h hc
        refine ⟨h1, fun K => ?_, x4, ?_⟩
        · unfold f1_handOver_2b f1_handOver_91
          rw [if_pos b1, b2, if_neg hlt, if_pos b11, b14, if_neg hc, b7]
          show (if (gS g (F + 32)).fst = 17 then _ else _) = _
          rw [b9, if_pos rfl]
          show (if ¬ (nI i < 0 ∨ 20 ≤ Int32.toNatClampNeg (nI i)) then _ else _) = _
          rw [if_pos hix, ci, l1]
          show (if (gS g (F + 33 + i)).fst = 4 then _ else _) = _
          rw [if_pos l2, e2, b13, if_pos h, e0, if_neg h', b12]
          show (if (gS g (a0 + 46 + 5 * b)).fst = 5 then _ else _) = _
          rw [if_pos b16, clE c hb hto]
          show (if tg s b (s 5 i 0) = _ then _ else _) = _
          rw [if_pos h'', if_pos b11, x1]
          rfl
        · unfold hoS
          rw [if_pos h, if_neg h', if_pos h'']
          exact x5
      · refine ⟨g, fun K => ?_, Fr.rf, ?_⟩
        · unfold f1_handOver_2b f1_handOver_91
          rw [if_pos b1, b2, if_neg hlt, if_pos b11, b14, if_neg hc, b7]
          show (if (gS g (F + 32)).fst = 17 then _ else _) = _
          rw [b9, if_pos rfl]
          show (if ¬ (nI i < 0 ∨ 20 ≤ Int32.toNatClampNeg (nI i)) then _ else _) = _
          rw [if_pos hix, ci, l1]
          show (if (gS g (F + 33 + i)).fst = 4 then _ else _) = _
          rw [if_pos l2, e2, b13, if_pos h, e0, if_neg h', b12]
          show (if (gS g (a0 + 46 + 5 * b)).fst = 5 then _ else _) = _
          rw [if_pos b16, clE c hb hto]
          show (if tg s b (s 5 i 0) = _ then _ else _) = _
          rw [if_neg h'']
        · unfold hoS
          rw [if_pos h, if_neg h', if_neg h'']
          exact c
  · refine ⟨g, fun K => ?_, Fr.rf, ?_⟩
    · unfold f1_handOver_2b f1_handOver_91
      rw [if_pos b1, b2, if_neg hlt, if_pos b11, b14, if_neg hc, b7]
      show (if (gS g (F + 32)).fst = 17 then _ else _) = _
      rw [b9, if_pos rfl]
      show (if ¬ (nI i < 0 ∨ 20 ≤ Int32.toNatClampNeg (nI i)) then _ else _) = _
      rw [if_pos hix, ci, l1]
      show (if (gS g (F + 33 + i)).fst = 4 then _ else _) = _
      rw [if_pos l2, e2, b13, if_neg h]
    · unfold hoS
      rw [if_neg h]
      exact c
theorem p_hoLoop {a0 F n1 n2 n3 n4 q b : Nat} {s0 : Sg} (hb : b < n3) {here : Int32} (hh : here = s0 4 b (cl (s0 3 b 0))) :
    ∀ m i fuel : Nat, ∀ g : g_H, i + m = n4 → m < fuel → CI a0 F g (hoF s0 b here i) n1 n2 n3 n4 q →
    ∃ g', f1_handOver_2 fuel g F (F + 2 + 5 * b) here (nI i) = some g' ∧ Fr F g g' ∧ CI a0 F g' (hoF s0 b here n4) n1 n2 n3 n4 q := by
  intro m
  induction m with
  | zero =>
    intro i fuel g him hf c
    obtain ⟨fu, rfl⟩ : ∃ fu, fuel = fu + 1 := ⟨fuel - 1, by omega⟩
    obtain ⟨b1, b2, -⟩ := clB c hb
    have : i = n4 := by omega
    subst this
    refine ⟨g, ?_, Fr.rf, c⟩
    show f1_handOver_2b _ g F (F + 2 + 5 * b) here (nI i) = _
    unfold f1_handOver_2b
    rw [if_pos b1, b2, if_pos (Int32.le_refl _)]
  | succ m ih =>
    intro i fuel g him hf c
    obtain ⟨fu, rfl⟩ : ∃ fu, fuel = fu + 1 := ⟨fuel - 1, by omega⟩
    by_cases hc : car (hoF s0 b here i) b ≤ 0
    · obtain ⟨b1, b2, b3, b4, b5, b6, b7, b8, b9, b10, b11, b12, b13, b14, b15, b16, b17, b18, b19, b20⟩ := clB c hb
      refine ⟨g, ?_, Fr.rf, ?_⟩
      · show f1_handOver_2b _ g F (F + 2 + 5 * b) here (nI i) = _
        unfold f1_handOver_2b
        rw [if_pos b1, b2, if_neg (nI_ge (by omega) (by omega)), if_pos b11, b14, if_pos hc]
      · have h0 := car0 c.1.2.2.2.1 b19 hc
        rw [hoF_none (i := i) (fun j _ h2 => h0 j h2) (by omega)]
        exact c
    · have hp := hoF_p (s := s0) (b := b) (n := i) (b' := b) (here := here)
      have e0 : (hoF s0 b here i) 4 b (cl ((hoF s0 b here i) 3 b 0)) = here := by
        rw [hp.1, (hoF_same (s := s0) (b := b) (n := i) (here := here)).2.2.2.1, hh]
      obtain ⟨g1, x1, x2, x3⟩ := p_hoStep c hb (show i < n4 by omega) hc
      rw [e0] at x1 x3
      obtain ⟨g2, y1, y2, y3⟩ := ih (i + 1) fu g1 (by omega) (by omega) x3
      refine ⟨g2, ?_, x2.tr y2, y3⟩
      show f1_handOver_2b (f1_handOver_2 fu) g F (F + 2 + 5 * b) here (nI i) = _
      rw [x1, nI_1]
      exact y1
theorem p_handOver {a0 F n1 n2 n3 n4 q b : Nat} {g : g_H} {s : Sg} (c : CI a0 F g s n1 n2 n3 n4 q) (hb : b < n3) {here : Int32} (hh : here = s 4 b (cl (s 3 b 0))) :
    ∃ g', f1_handOver g F (F + 2 + 5 * b) here = some g' ∧ Fr F g g' ∧ CI a0 F g' (hoF s b here n4) n1 n2 n3 n4 q := by
  obtain ⟨b1, b2, b3, b4, b5, b6, b7, b8, b9, b10, b11, b12, b13, b14, b15, b16, b17, b18, b19, b20⟩ := clB c hb
  exact p_hoLoop hb hh n4 0 300 g (by omega) (by omega) c
theorem clTake {a0 F n1 n2 n3 n4 q b i : Nat} {g : g_H} {s : Sg} (c : CI a0 F g s n1 n2 n3 n4 q) (hb : b < n3) (hi : i < n4) (h : s 5 i 1 ≠ -1) (hc : ¬ (3 : Int32) ≤ car s b) :
    ∃ h1, f0_take g (F + 2 + 5 * b) (F + 33 + i) = some h1 ∧ Fr F g h1 ∧ CI a0 F h1 (takeS s b i) n1 n2 n3 n4 q := by
  obtain ⟨b1, b2, b3, b4, b5, b6, b7, b8, b9, b10, b11, b12, b13, b14, b15, b16, b17, b18, b19, b20⟩ := clB c hb
  obtain ⟨l1, l2, l3⟩ := clL c hi
  have c' := c
  obtain ⟨w, rs, ⟨d1, d2, d3, d4, d5⟩⟩ := c
  have hne : F + 2 + 5 * b ≠ F + 33 + i := by omega
  have cb : chg F (F + 2 + 5 * b) := Or.inr (Or.inl ⟨b, by omega, rfl⟩)
  have cL : chg F (F + 33 + i) := Or.inr (Or.inr ⟨i, by omega, rfl⟩)
  have hF : F ≠ F + 2 + 5 * b := by omega
  have hF' : F ≠ F + 33 + i := by omega
  have e4 : gI g (F + 33 + i) 4 = s 5 i 4 := l3 4 (by omega)
  have h2 : s 5 i 2 = -1 := by
    by_cases e : s 5 i 2 = -1
    · exact e
    · exact absurd ((w.2.2.2.2.2.2.2.2 i hi).2.2.2.1 e).1 h
  have hfr : Fr F g (gPI (gPI (gPI (gPI g (F + 33 + i) 1 (-1)) (F + 33 + i) 2 (nI b)) (F + 33 + i) 4 (s 5 i 4 + 1)) (F + 2 + 5 * b) 6 (gI g (F + 2 + 5 * b) 6 + 1)) :=
    (((Fr.put cL (Or.inr (by omega))).tr (Fr.put cL (Or.inr (by omega)))).tr (Fr.put cL (Or.inr (by omega)))).tr (Fr.put cb (Or.inr (by omega)))
  refine ⟨_, ?_, hfr, ?_⟩
  · rw [p_take b11 l2 hne, b13, e4]
  · refine c'.step hfr takeS_same (w.take hb hi h hc) ⟨?_, ?_, ?_, ?_, ?_⟩
    · exact R2.o (R2.o (R2.o (R2.o d1 hF' (su_T (by omega))) hF' (su_T (by omega))) hF' (su_T (by omega))) hF rfl
    · have q1 : R3 a0 F (gPI g (F + 33 + i) 1 (-1)) (su s 5 i 1 (-1)) n3 := R3.o d2 (fun b' _ => by omega) (su_T (by omega))
      have q2 : R3 a0 F (gPI (gPI g (F + 33 + i) 1 (-1)) (F + 33 + i) 2 (nI b)) (su (su s 5 i 1 (-1)) 5 i 2 (nI b)) n3 := R3.o q1 (fun b' _ => by omega) (su_T (by omega))
      have q3 : R3 a0 F (gPI (gPI (gPI g (F + 33 + i) 1 (-1)) (F + 33 + i) 2 (nI b)) (F + 33 + i) 4 (s 5 i 4 + 1)) (takeS s b i) n3 := R3.o q2 (fun b' _ => by omega) (su_T (by omega))
      exact R3.c q3
    · intro b' hb'
      rw [takeS_car w.2.2.2.1 b19 (by omega) hi h2 b' (by omega)]
      by_cases e : b' = b
      · subst e
        simp [gI_PI, b14]
      · have e1 : F + 2 + 5 * b' ≠ F + 2 + 5 * b := by omega
        have e3 : F + 2 + 5 * b' ≠ F + 33 + i := by omega
        rw [if_neg e, gI_PI, if_neg e1, gI_PI, if_neg e3, gI_PI, if_neg e3, gI_PI, if_neg e3]
        exact d3 b' hb'
    · show gI _ F 6 = _
      have hn4 := w.2.2.2.1
      have e4 : (takeS s b i) 0 0 4 = nI n4 := (takeS_same.1 4 (by omega)).trans hn4
      rw [gI_PI, if_neg hF, gI_PI, if_neg hF', gI_PI, if_neg hF', gI_PI, if_neg hF', b4, arr_def e4 b19, arr_def hn4 b19]
      refine (arrF_keep fun j _ => ?_).symm
      simp [takeS, su]
    · have q1 := R7.l (i := i) (k := 1) (v := -1) d5
      have q2 := R7.l (i := i) (k := 2) (v := nI b) q1
      have q3 := R7.l (i := i) (k := 4) (v := s 5 i 4 + 1) q2
      exact R7.o q3 (fun j _ => by omega) rfl
theorem coS_same {s : Sg} {b i : Nat} {here : Int32} : Same s (coS s b here i) := by
  unfold coS
  split
  · exact takeS_same
  · exact Same.rf
theorem coF_same {s : Sg} {b n : Nat} {here : Int32} : Same s (coF s b here n) := by
  induction n with
  | zero => exact Same.rf
  | succ n ih => exact ih.tr coS_same
theorem coS_3 {s : Sg} {b i : Nat} {here : Int32} : (coS s b here i) 3 = s 3 := by
  unfold coS
  split
  · exact ((su_T (by omega)).trans (su_T (by omega))).trans (su_T (by omega))
  · rfl
theorem coF_3 {s : Sg} {b n : Nat} {here : Int32} : (coF s b here n) 3 = s 3 := by
  induction n with
  | zero => rfl
  | succ n ih => exact coS_3.trans ih
theorem coF_none {s : Sg} {b i n : Nat} {here : Int32} (h : (3 : Int32) ≤ car (coF s b here i) b) (hn : i ≤ n) : coF s b here n = coF s b here i := by
  induction n with
  | zero => rw [show i = 0 by omega]
  | succ n ih =>
    by_cases e : i = n + 1
    · rw [e]
    · show coS (coF s b here n) b here n = _
      rw [ih (by omega)]
      exact if_neg fun q => q.2.1 h
theorem CI.wyE {a0 F n1 n2 n3 n4 q : Nat} {g : g_H} {s : Sg} (c : CI a0 F g s n1 n2 n3 n4 q) (x y : Int32) : f5_wayBetween g (a0 + 1) x y = some (wy s x y, g) := by
  obtain ⟨⟨⟨w1, w2, -⟩, -⟩, ⟨-, r1, -, -, r4, -⟩, -⟩ := c
  obtain ⟨q1, -, -, -, q5⟩ := r4
  rw [p_way r1 (q1.trans w1) w2]
  unfold wyF wy
  rw [q1]
  by_cases h : inR (s 0 0 1) x ∧ inR (s 0 0 1) y
  · rw [if_pos h, if_pos h]
    obtain ⟨h1, h2⟩ := h
    rw [w1] at h1 h2
    obtain ⟨i, hi, rfl⟩ := inR_nat (by omega) h1
    obtain ⟨j, hj, rfl⟩ := inR_nat (by omega) h2
    have ci : Int32.toNatClampNeg (nI i) = i := cl_nI (by omega)
    have cj : Int32.toNatClampNeg (nI j) = j := cl_nI (by omega)
    show some (gI g (a0 + 29 + Int32.toNatClampNeg (nI i)) (Int32.toNatClampNeg (nI j)), g) = some (s 6 (Int32.toNatClampNeg (nI i)) (Int32.toNatClampNeg (nI j)), g)
    rw [ci, cj, q5 i j (by omega) (by omega)]
  · rw [if_neg h, if_neg h]
