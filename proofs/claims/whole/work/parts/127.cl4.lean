/-! PURE: handing over, the loop -/
theorem hoS_same {s : Sg} {b i : Nat} {here : Int32} : Same s (hoS s b here i) := by
  unfold hoS
  split
  · split
    · exact delS_same
    · split
      · exact layS_same
      · exact Same.rf
  · exact Same.rf
theorem hoF_same {s : Sg} {b n : Nat} {here : Int32} : Same s (hoF s b here n) := by
  induction n with
  | zero => exact Same.rf
  | succ n ih => exact ih.tr hoS_same
theorem hoS_p {s : Sg} {b i b' : Nat} {here : Int32} : (hoS s b here i) 3 b' 0 = s 3 b' 0 ∧ (hoS s b here i) 3 b' 1 = s 3 b' 1 := by
  unfold hoS
  split
  · split
    · simp [su]
    · split
      · simp [su]
      · exact ⟨rfl, rfl⟩
  · exact ⟨rfl, rfl⟩
theorem hoF_p {s : Sg} {b n b' : Nat} {here : Int32} : (hoF s b here n) 3 b' 0 = s 3 b' 0 ∧ (hoF s b here n) 3 b' 1 = s 3 b' 1 := by
  induction n with
  | zero => exact ⟨rfl, rfl⟩
  | succ n ih => exact ⟨hoS_p.1.trans ih.1, hoS_p.2.trans ih.2⟩
theorem hoF_none {s : Sg} {b i n : Nat} {here : Int32} (h : ∀ j, i ≤ j → j < n → (hoF s b here i) 5 j 2 ≠ nI b) (hn : i ≤ n) : hoF s b here n = hoF s b here i := by
  induction n with
  | zero => rw [show i = 0 by omega]
  | succ n ih =>
    by_cases e : i = n + 1
    · rw [e]
    · show hoS (hoF s b here n) b here n = _
      rw [ih (fun j h1 h2 => h j h1 (by omega)) (by omega)]
      exact if_neg (h n (by omega) (by omega))
theorem car0 {s : Sg} {b n4 : Nat} (h : s 0 0 4 = nI n4) (h2 : n4 ≤ 20) (hc : car s b ≤ 0) : ∀ j, j < n4 → s 5 j 2 ≠ nI b := by
  intro j hj e
  obtain ⟨c, h3, h4, h5⟩ := carF_nat s b n4
  rw [car_def h h2, h4] at hc
  exact nI_nle (h5 j hj e) (by omega) hc
theorem CI.house {a0 F n1 n2 n3 n4 q b : Nat} {g : g_H} {s : Sg} (c : CI a0 F g s n1 n2 n3 n4 q) (hb : b < n3) : ∃ z p, s 3 b 5 = nI z ∧ z ≤ 7 ∧ s 3 b 0 = nI p ∧ p < z ∧ gI g (F + 2 + 5 * b) 2 = nI p ∧ gI g (a0 + 46 + 5 * b) 0 = nI z ∧ gI g (a0 + 47 + 5 * b) p = s 4 b p ∧ inR (nI n1) (s 4 b p) := by
  obtain ⟨⟨w1, w2, w3, w4, w5, w6, w7, w8, w9⟩, ⟨r0, r1, r2, r3, r4, r5⟩, ⟨d1, d2, d3, d4, d5⟩⟩ := c
  obtain ⟨⟨z, p, l, st, ho, e1, e2, e3, e4, e5, e6, e7, e8, e9, e10, e11, e12, e13, e14, e15⟩, -⟩ := w8 b hb
  have r6 := r5 b hb
  rw [e1, show cl (nI z) = z from cl_nI (by omega)] at r6
  exact ⟨z, p, e1, e3, e4, e5, (d2 b hb).2.2.1.trans e4, r6.1, r6.2.1 p e5, e14 p e5⟩
theorem clHouse {a0 F n1 n2 n3 n4 q b : Nat} {g : g_H} {s : Sg} (c : CI a0 F g s n1 n2 n3 n4 q) (hb : b < n3) : f0_house g (F + 2 + 5 * b) = some (s 4 b (cl (s 3 b 0)), g) := by
  obtain ⟨b1, b2, b3, b4, b5, b6, b7, b8, b9, b10, b11, b12, b13, b14, b15, b16, b17, b18, b19, b20⟩ := clB c hb
  obtain ⟨z, p, h1, h2, h3, h4, h5, h6, h7, h8⟩ := c.house hb
  rw [p_house b11 b12 b15 h6 h2, h5, if_pos (inR_of (by omega) h4), h3, show cl (nI p) = p from cl_nI (by omega), show a0 + 46 + 5 * b + 1 = a0 + 47 + 5 * b by omega, h7]
theorem clDel {a0 F n1 n2 n3 n4 q b i : Nat} {g : g_H} {s : Sg} (c : CI a0 F g s n1 n2 n3 n4 q) (hb : b < n3) (hi : i < n4) (h : s 5 i 2 = nI b) (hc : ¬ car s b ≤ 0) :
    ∃ h1 h2, f0_deliver g (F + 2 + 5 * b) (F + 33 + i) (s 0 0 0) = some h1 ∧ h2 = gPI h1 F 6 (gI h1 F 6 + 1) ∧ (gS h1 F).1 = 2 ∧ Fr F g h2 ∧ CI a0 F h2 (delS s b i) n1 n2 n3 n4 q := by
  obtain ⟨b1, b2, b3, b4, b5, b6, b7, b8, b9, b10, b11, b12, b13, b14, b15, b16, b17, b18, b19, b20⟩ := clB c hb
  obtain ⟨l1, l2, l3⟩ := clL c hi
  have c' := c
  obtain ⟨w, rs, ⟨d1, d2, d3, d4, d5⟩⟩ := c
  have hne : F + 2 + 5 * b ≠ F + 33 + i := by omega
  have e8 : gI g (F + 2 + 5 * b) 8 = s 3 b 6 := (d2 b hb).2.2.2.2.2.2.2.1
  have e5 : gI g (F + 2 + 5 * b) 5 = s 3 b 3 := (d2 b hb).2.2.2.2.2.1
  have cb : chg F (F + 2 + 5 * b) := Or.inr (Or.inl ⟨b, by omega, rfl⟩)
  have cL : chg F (F + 33 + i) := Or.inr (Or.inr ⟨i, by omega, rfl⟩)
  have cF : chg F F := Or.inl rfl
  have hF : F ≠ F + 2 + 5 * b := by omega
  have hF' : F ≠ F + 33 + i := by omega
  have hfr : Fr F g (gPI (gPI (gPI (gPI (gPI (gPI g (F + 33 + i) 2 (-1)) (F + 33 + i) 3 (s 0 0 0)) (F + 2 + 5 * b) 6 (gI g (F + 2 + 5 * b) 6 - 1)) (F + 2 + 5 * b) 8 (gI g (F + 2 + 5 * b) 8 + 1)) (F + 2 + 5 * b) 5 (clip (gI g (F + 2 + 5 * b) 5 + 1))) F 6 (gI g F 6 + 1)) :=
    (((((Fr.put cL (Or.inr (by omega))).tr (Fr.put cL (Or.inr (by omega)))).tr (Fr.put cb (Or.inr (by omega)))).tr (Fr.put cb (Or.inl hF.symm))).tr (Fr.put cb (Or.inr (by omega)))).tr (Fr.put cF (Or.inr (by omega)))
  refine ⟨_, _, p_deliver b11 l2 hne _, rfl, b1, ?_, ?_⟩
  · simpa [gI_PI, hF, hF'] using hfr
  · have eF : gI (gPI (gPI (gPI (gPI (gPI g (F + 33 + i) 2 (-1)) (F + 33 + i) 3 (s 0 0 0)) (F + 2 + 5 * b) 6 (gI g (F + 2 + 5 * b) 6 - 1)) (F + 2 + 5 * b) 8 (gI g (F + 2 + 5 * b) 8 + 1)) (F + 2 + 5 * b) 5 (clip (gI g (F + 2 + 5 * b) 5 + 1))) F 6 = gI g F 6 := by simp [gI_PI, hF, hF']
    rw [eF]
    refine c'.step hfr delS_same (w.del hb hi h hc) ⟨?_, ?_, ?_, ?_, ?_⟩
    · exact R2.c (R2.o (R2.o (R2.o (R2.o (R2.o d1 hF' (su_T (by omega))) hF' (su_T (by omega))) hF rfl) hF (su_T (by omega))) hF (su_T (by omega)))
    · rw [e8, e5]
      have q1 : R3 a0 F (gPI g (F + 33 + i) 2 (-1)) (su s 5 i 2 (-1)) n3 := R3.o d2 (fun b' _ => by omega) (su_T (by omega))
      have q2 : R3 a0 F (gPI (gPI g (F + 33 + i) 2 (-1)) (F + 33 + i) 3 (s 0 0 0)) (su (su s 5 i 2 (-1)) 5 i 3 (s 0 0 0)) n3 := R3.o q1 (fun b' _ => by omega) (su_T (by omega))
      have q3 := R3.c (b := b) (v := gI g (F + 2 + 5 * b) 6 - 1) q2
      have q4 := R3.b (b := b) (k := 8) (k' := 6) (v := s 3 b 6 + 1) q3 (by unfold fld; omega)
      have q5 := R3.b (b := b) (k := 5) (k' := 3) (v := clip (s 3 b 3 + 1)) q4 (by unfold fld; omega)
      exact R3.o q5 (fun b' _ => by omega) rfl
    · intro b' hb'
      have hn4 := w.2.2.2.1
      rw [delS_car hn4 b19 (by omega) hi h b' (by omega)]
      by_cases e : b' = b
      · subst e
        simp [gI_PI, hF.symm, hne, b14]
      · have e1 : F + 2 + 5 * b' ≠ F + 2 + 5 * b := by omega
        have e2 : F + 2 + 5 * b' ≠ F := by omega
        have e3 : F + 2 + 5 * b' ≠ F + 33 + i := by omega
        rw [if_neg e, gI_PI, if_neg e2, gI_PI, if_neg e1, gI_PI, if_neg e1, gI_PI, if_neg e1, gI_PI, if_neg e3, gI_PI, if_neg e3]
        exact d3 b' hb'
    · show gI _ F 6 = _
      rw [gI_PI, if_pos rfl, if_pos rfl, b4]
      have hn4 := w.2.2.2.1
      have e4 : (delS s b i) 0 0 4 = nI n4 := (delS_same.1 4 (by omega)).trans hn4
      rw [arr_def e4 b19, arr_def hn4 b19]
      refine (arrF_more hi ?_ ?_ ?_).symm
      · exact (w.2.2.2.2.2.2.2.2 i hi).2.2.2.1 (by rw [h]; exact nI_m1 (by omega)) |>.2
      · have : delS s b i 5 i 3 = s 0 0 0 := by simp [delS, su]
        rw [this, w.2.2.2.2.2.1]
        exact nI_m1 (by have := w.2.2.2.2.2.2.1; omega)
      · intro j _ hj
        simp [delS, su, hj]
    · have q1 := R7.l (i := i) (k := 2) (v := -1) d5
      have q2 := R7.l (i := i) (k := 3) (v := s 0 0 0) q1
      have q3 := R7.o (a := F + 2 + 5 * b) (k := 6) (v := gI g (F + 2 + 5 * b) 6 - 1) q2 (fun j _ => by omega) rfl
      have q4 : R7 F _ (su (su (su s 5 i 2 (-1)) 5 i 3 (s 0 0 0)) 3 b 6 (s 3 b 6 + 1)) n4 := R7.o (a := F + 2 + 5 * b) (k := 8) (v := gI g (F + 2 + 5 * b) 8 + 1) q3 (fun j _ => by omega) (su_T (by omega))
      have q5 : R7 F _ (delS s b i) n4 := R7.o (a := F + 2 + 5 * b) (k := 5) (v := clip (gI g (F + 2 + 5 * b) 5 + 1)) q4 (fun j _ => by omega) (su_T (by omega))
      exact R7.o q5 (fun j _ => by omega) rfl
theorem clLay {a0 F n1 n2 n3 n4 q b i : Nat} {g : g_H} {s : Sg} (c : CI a0 F g s n1 n2 n3 n4 q) (hb : b < n3) (hi : i < n4) (h : s 5 i 2 = nI b) (hc : ¬ car s b ≤ 0) :
    ∃ h1, f0_layDown g (F + 2 + 5 * b) (F + 33 + i) = some h1 ∧ Fr F g h1 ∧ CI a0 F h1 (layS s i (s 4 b (cl (s 3 b 0)))) n1 n2 n3 n4 q := by
  obtain ⟨b1, b2, b3, b4, b5, b6, b7, b8, b9, b10, b11, b12, b13, b14, b15, b16, b17, b18, b19, b20⟩ := clB c hb
  obtain ⟨l1, l2, l3⟩ := clL c hi
  obtain ⟨z, p, h1, h2, h3, h4, h5, h6, h7, h8⟩ := c.house hb
  have c' := c
  obtain ⟨w, rs, ⟨d1, d2, d3, d4, d5⟩⟩ := c
  have hne : F + 2 + 5 * b ≠ F + 33 + i := by omega
  have cb : chg F (F + 2 + 5 * b) := Or.inr (Or.inl ⟨b, by omega, rfl⟩)
  have cL : chg F (F + 33 + i) := Or.inr (Or.inr ⟨i, by omega, rfl⟩)
  have hF : F ≠ F + 2 + 5 * b := by omega
  have hF' : F ≠ F + 33 + i := by omega
  have e0 : s 4 b (cl (s 3 b 0)) = s 4 b p := by rw [h3, show cl (nI p) = p from cl_nI (by omega)]
  have eh : gI g (a0 + 46 + 5 * b + 1) (cl (gI g (F + 2 + 5 * b) 2)) = s 4 b p := by rw [h5, show cl (nI p) = p from cl_nI (by omega), show a0 + 46 + 5 * b + 1 = a0 + 47 + 5 * b by omega, h7]
  rw [e0]
  have hfr : Fr F g (gPI (gPI (gPI g (F + 33 + i) 2 (-1)) (F + 33 + i) 1 (s 4 b p)) (F + 2 + 5 * b) 6 (gI g (F + 2 + 5 * b) 6 - 1)) :=
    ((Fr.put cL (Or.inr (by omega))).tr (Fr.put cL (Or.inr (by omega)))).tr (Fr.put cb (Or.inr (by omega)))
  refine ⟨_, ?_, hfr, ?_⟩
  · rw [p_layDown b11 l2 hne b12 b15 h6 h2 (by omega) (by omega) (by rw [h5]; exact inR_of (by omega) h4), eh]
  · refine c'.step hfr layS_same (w.lay hb hi h hc h8) ⟨?_, ?_, ?_, ?_, ?_⟩
    · exact R2.o (R2.o (R2.o d1 hF' (su_T (by omega))) hF' (su_T (by omega))) hF rfl
    · have q1 : R3 a0 F (gPI g (F + 33 + i) 2 (-1)) (su s 5 i 2 (-1)) n3 := R3.o d2 (fun b' _ => by omega) (su_T (by omega))
      have q2 : R3 a0 F (gPI (gPI g (F + 33 + i) 2 (-1)) (F + 33 + i) 1 (s 4 b p)) (layS s i (s 4 b p)) n3 := R3.o q1 (fun b' _ => by omega) (su_T (by omega))
      exact R3.c q2
    · intro b' hb'
      rw [layS_car w.2.2.2.1 b19 (by omega) hi h b' (by omega)]
      by_cases e : b' = b
      · subst e
        simp [gI_PI, b14]
      · have e1 : F + 2 + 5 * b' ≠ F + 2 + 5 * b := by omega
        have e3 : F + 2 + 5 * b' ≠ F + 33 + i := by omega
        rw [if_neg e, gI_PI, if_neg e1, gI_PI, if_neg e3, gI_PI, if_neg e3]
        exact d3 b' hb'
    · show gI _ F 6 = _
      have hn4 := w.2.2.2.1
      have e4 : (layS s i (s 4 b p)) 0 0 4 = nI n4 := (layS_same.1 4 (by omega)).trans hn4
      rw [gI_PI, if_neg hF, gI_PI, if_neg hF', gI_PI, if_neg hF', b4, arr_def e4 b19, arr_def hn4 b19]
      refine (arrF_keep fun j _ => ?_).symm
      simp [layS, su]
    · have q1 := R7.l (i := i) (k := 2) (v := -1) d5
      have q2 := R7.l (i := i) (k := 1) (v := s 4 b p) q1
      exact R7.o q2 (fun j _ => by omega) rfl
