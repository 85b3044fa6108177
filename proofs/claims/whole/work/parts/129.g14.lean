/-! PURE: the flight copied for looking ahead -/
theorem p_copyBee {g : g_H} {D S r : Nat} (hD : (gS g D).1 = 1) (hS : (gS g S).1 = 1) (hn : S ≠ D) (hr : gR g S 1 = some r) (h7 : gI g S 7 = 0 ∨ gI g S 7 = 1) (h9 : gI g S 9 = 0 ∨ gI g S 9 = 1) :
    ∃ h, f0_copyFrom g D S = some h ∧ gS h = gS g ∧ gJ h = gJ g ∧ gZ h = gZ g ∧ (∀ a, a ≠ D → gI h a = gI g a ∧ gR h a = gR g a) ∧ gI h D 0 = gI g D 0 ∧ gR h D 1 = some r ∧ ∀ j, 2 ≤ j → j ≤ 9 → gI h D j = gI g S j := by
  have e : ∀ (g' : g_H) (k : Nat) (v : Int32) (j : Nat), gI (gPI g' D k v) S j = gI g' S j := fun g' k v j => by rw [gI_PI, if_neg hn]
  refine ⟨gPI (gPI (gPI (gPI (gPI (gPI (gPI (gPI (gPR g D 1 (some r)) D 2 (gI g S 2)) D 3 (gI g S 3)) D 4 (gI g S 4)) D 5 (gI g S 5)) D 6 (gI g S 6)) D 7 (gI g S 7)) D 8 (gI g S 8)) D 9 (gI g S 9), ?_, rfl, rfl, rfl, fun a ha => ⟨?_, ?_⟩, ?_, ?_, fun j h1 h2 => ?_⟩
  · unfold f0_copyFrom gLt
    rw [if_pos hS, hr, ob_some, if_pos hD]
    simp only [e, gI_PR, if_pos h7, if_pos h9]
  · exact (((((((gU_o ha).trans (gU_o ha)).trans (gU_o ha)).trans (gU_o ha)).trans (gU_o ha)).trans (gU_o ha)).trans (gU_o ha)).trans (gU_o ha)
  · exact gU_o ha
  · simp [gI_PI, gI_PR]
  · simp [gR_PI, gR_PR]
  · have : j = 2 ∨ j = 3 ∨ j = 4 ∨ j = 5 ∨ j = 6 ∨ j = 7 ∨ j = 8 ∨ j = 9 := by omega
    rcases this with rfl | rfl | rfl | rfl | rfl | rfl | rfl | rfl <;> simp [gI_PI, gI_PR]
theorem p_copyLetter {g : g_H} {D S : Nat} (hD : (gS g D).1 = 4) (hS : (gS g S).1 = 4) (hn : S ≠ D) :
    ∃ h, f3_copyFrom g D S = some h ∧ gS h = gS g ∧ gJ h = gJ g ∧ gZ h = gZ g ∧ gR h = gR g ∧ (∀ a, a ≠ D → gI h a = gI g a) ∧ ∀ j, j < 5 → gI h D j = gI g S j := by
  have e : ∀ (g' : g_H) (k : Nat) (v : Int32) (j : Nat), gI (gPI g' D k v) S j = gI g' S j := fun g' k v j => by rw [gI_PI, if_neg hn]
  refine ⟨gPI (gPI (gPI (gPI (gPI g D 0 (gI g S 0)) D 1 (gI g S 1)) D 2 (gI g S 2)) D 3 (gI g S 3)) D 4 (gI g S 4), ?_, rfl, rfl, rfl, rfl, fun a ha => ?_, fun j h1 => ?_⟩
  · unfold f3_copyFrom gLt
    rw [if_pos hS, if_pos hD]
    simp only [e]
  · exact ((((gU_o ha).trans (gU_o ha)).trans (gU_o ha)).trans (gU_o ha)).trans (gU_o ha)
  · have : j = 0 ∨ j = 1 ∨ j = 2 ∨ j = 3 ∨ j = 4 := by omega
    rcases this with rfl | rfl | rfl | rfl | rfl <;> simp [gI_PI]
/-- the bees -/
theorem p_cpBees {a0 n3 : Nat} {g0 : g_H} (h6 : n3 ≤ 6) (sh : FL a0 (a0 + 43) g0) (sa : FL a0 (a0 + 96) g0) (hn : gI g0 (a0 + 96) 3 = nI n3) (hr : ∀ b, b < n3 → gR g0 (a0 + 43 + 2 + 5 * b) 1 = some (a0 + 46 + 5 * b) ∧ (gI g0 (a0 + 43 + 2 + 5 * b) 7 = 0 ∨ gI g0 (a0 + 43 + 2 + 5 * b) 7 = 1) ∧ (gI g0 (a0 + 43 + 2 + 5 * b) 9 = 0 ∨ gI g0 (a0 + 43 + 2 + 5 * b) 9 = 1)) :
    ∀ k b fuel : Nat, ∀ g : g_H, b + k = n3 → k < fuel → gS g = gS g0 → gJ g = gJ g0 → gZ g = gZ g0 → (∀ a, (∀ b', b' < b → a ≠ a0 + 96 + 2 + 5 * b') → gI g a = gI g0 a ∧ gR g a = gR g0 a) → (∀ b', b' < b → gI g (a0 + 96 + 2 + 5 * b') 0 = gI g0 (a0 + 96 + 2 + 5 * b') 0 ∧ gR g (a0 + 96 + 2 + 5 * b') 1 = some (a0 + 46 + 5 * b') ∧ ∀ j, 2 ≤ j → j ≤ 9 → gI g (a0 + 96 + 2 + 5 * b') j = gI g0 (a0 + 43 + 2 + 5 * b') j) →
    ∃ g', f1_copyFrom_10 fuel g (a0 + 96) (a0 + 43) (nI b) = f1_copyFrom_49 300 (gPI g' (a0 + 96) 4 (gI g0 (a0 + 43) 4)) (a0 + 96) (a0 + 43) 0 ∧ gS g' = gS g0 ∧ gJ g' = gJ g0 ∧ gZ g' = gZ g0 ∧ (∀ a, (∀ b', b' < n3 → a ≠ a0 + 96 + 2 + 5 * b') → gI g' a = gI g0 a ∧ gR g' a = gR g0 a) ∧ ∀ b', b' < n3 → gI g' (a0 + 96 + 2 + 5 * b') 0 = gI g0 (a0 + 96 + 2 + 5 * b') 0 ∧ gR g' (a0 + 96 + 2 + 5 * b') 1 = some (a0 + 46 + 5 * b') ∧ ∀ j, 2 ≤ j → j ≤ 9 → gI g' (a0 + 96 + 2 + 5 * b') j = gI g0 (a0 + 43 + 2 + 5 * b') j := by
  obtain ⟨t1, t2, t3, t4, t5, t6, t7, t8⟩ := sh
  obtain ⟨u1, u2, u3, u4, u5, u6, u7, u8⟩ := sa
  intro k
  induction k with
  | zero =>
    intro b fuel g hbk hf hS hJ hZ ho hc
    obtain ⟨fu, rfl⟩ : ∃ fu, fuel = fu + 1 := ⟨fuel - 1, by omega⟩
    have : b = n3 := by omega
    subst this
    refine ⟨g, ?_, hS, hJ, hZ, ho, hc⟩
    show f1_copyFrom_10b _ g (a0 + 96) (a0 + 43) (nI b) = _
    unfold f1_copyFrom_10b
    rw [hS, if_pos u1, (ho (a0 + 96) fun b' _ => by omega).1, hn, if_pos (Int32.le_refl _), if_pos t1, (ho (a0 + 43) fun b' _ => by omega).1]
  | succ k ih =>
    intro b fuel g hbk hf hS hJ hZ ho hc
    obtain ⟨fu, rfl⟩ : ∃ fu, fuel = fu + 1 := ⟨fuel - 1, by omega⟩
    have cb : Int32.toNatClampNeg (nI b) = b := cl_nI (by omega)
    obtain ⟨r1, r2, r3⟩ := hr b (by omega)
    have oS := ho (a0 + 43 + 2 + 5 * b) fun b' _ => by omega
    obtain ⟨h, e1, e2, e3, e4, e5, e6, e7, e8⟩ := p_copyBee (g := g) (D := a0 + 96 + 2 + 5 * b) (S := a0 + 43 + 2 + 5 * b) (r := a0 + 46 + 5 * b) (by rw [hS]; exact (u7 b (by omega)).2) (by rw [hS]; exact (t7 b (by omega)).2) (by omega) (by rw [oS.2]; exact r1) (by rw [oS.1]; exact r2) (by rw [oS.1]; exact r3)
    obtain ⟨g', x1, x2⟩ := ih (b + 1) fu h (by omega) (by omega) (e2.trans hS) (e3.trans hJ) (e4.trans hZ) (fun a ha => by
        have := e5 a (ha b (by omega))
        have q := ho a fun b' hb' => ha b' (by omega)
        exact ⟨this.1.trans q.1, this.2.trans q.2⟩) (fun b' hb' => by
        by_cases c : b' = b
        · subst c
          have q := (ho (a0 + 96 + 2 + 5 * b') fun b'' _ => by omega).1
          refine ⟨by rw [e6, q], e7, fun j h1 h2 => by rw [e8 j h1 h2, oS.1]⟩
        · have := e5 (a0 + 96 + 2 + 5 * b') (by omega)
          rw [this.1, this.2]
          exact hc b' (by omega))
    refine ⟨g', ?_, x2⟩
    have hix' : ¬ (nI b < 0 ∨ 6 ≤ b) := fun k => k.elim (nI_pos (by omega)) (fun q => by omega)
    show f1_copyFrom_10b (f1_copyFrom_10 fu) g (a0 + 96) (a0 + 43) (nI b) = _
    unfold f1_copyFrom_10b
    rw [hS, if_pos u1, (ho (a0 + 96) fun b' _ => by omega).1, hn, if_neg (nI_ge (by omega) (by omega)), (ho (a0 + 96) fun b' _ => by omega).2, u3, ob_some, u5, if_pos rfl, if_pos (ixOk (by omega) (by omega)), cb, (ho (a0 + 96 + 1) fun b' _ => by omega).2, (u7 b (by omega)).1, ob_some, if_pos t1, (ho (a0 + 43) fun b' _ => by omega).2, t3, ob_some, t5, if_pos rfl, if_pos hix', (ho (a0 + 43 + 1) fun b' _ => by omega).2, (t7 b (by omega)).1, ob_some, if_pos (u7 b (by omega)).2, e1, ob_some, nI_1]
    exact x1
/-- the letters -/
theorem p_cpLetters {a0 n4 : Nat} {g0 : g_H} (h20 : n4 ≤ 20) (sh : FL a0 (a0 + 43) g0) (sa : FL a0 (a0 + 96) g0) (hn : gI g0 (a0 + 96) 4 = nI n4) :
    ∀ k i fuel : Nat, ∀ g : g_H, i + k = n4 → k < fuel → gS g = gS g0 → gJ g = gJ g0 → gZ g = gZ g0 → gR g = gR g0 → (∀ a, (∀ i', i' < i → a ≠ a0 + 96 + 33 + i') → gI g a = gI g0 a) → (∀ i', i' < i → ∀ j, j < 5 → gI g (a0 + 96 + 33 + i') j = gI g0 (a0 + 43 + 33 + i') j) →
    ∃ g', f1_copyFrom_49 fuel g (a0 + 96) (a0 + 43) (nI i) = some (gPI (gPI (gPI g' (a0 + 96) 5 (gI g0 (a0 + 43) 5)) (a0 + 96) 6 (gI g0 (a0 + 43) 6)) (a0 + 96) 7 (gI g0 (a0 + 43) 7)) ∧ gS g' = gS g0 ∧ gJ g' = gJ g0 ∧ gZ g' = gZ g0 ∧ gR g' = gR g0 ∧ (∀ a, (∀ i', i' < n4 → a ≠ a0 + 96 + 33 + i') → gI g' a = gI g0 a) ∧ ∀ i', i' < n4 → ∀ j, j < 5 → gI g' (a0 + 96 + 33 + i') j = gI g0 (a0 + 43 + 33 + i') j := by
  obtain ⟨t1, t2, t3, t4, t5, t6, t7, t8⟩ := sh
  obtain ⟨u1, u2, u3, u4, u5, u6, u7, u8⟩ := sa
  intro k
  induction k with
  | zero =>
    intro i fuel g hbk hf hS hJ hZ hR ho hc
    obtain ⟨fu, rfl⟩ : ∃ fu, fuel = fu + 1 := ⟨fuel - 1, by omega⟩
    have : i = n4 := by omega
    subst this
    refine ⟨g, ?_, hS, hJ, hZ, hR, ho, hc⟩
    have e : ∀ (g' : g_H) (k : Nat) (v : Int32) (j : Nat), gI (gPI g' (a0 + 96) k v) (a0 + 43) j = gI g' (a0 + 43) j := fun g' k v j => by rw [gI_PI, if_neg (by omega)]
    show f1_copyFrom_49b _ g (a0 + 96) (a0 + 43) (nI i) = _
    unfold f1_copyFrom_49b gLt
    rw [hS, if_pos u1, ho (a0 + 96) fun b' _ => by omega, hn, if_pos (Int32.le_refl _), if_pos t1]
    simp only [e, ho (a0 + 43) fun b' _ => by omega]
  | succ k ih =>
    intro i fuel g hbk hf hS hJ hZ hR ho hc
    obtain ⟨fu, rfl⟩ : ∃ fu, fuel = fu + 1 := ⟨fuel - 1, by omega⟩
    have ci : Int32.toNatClampNeg (nI i) = i := cl_nI (by omega)
    have oS := ho (a0 + 43 + 33 + i) fun b' _ => by omega
    obtain ⟨h, e1, e2, e3, e4, e5, e6, e7⟩ := p_copyLetter (g := g) (D := a0 + 96 + 33 + i) (S := a0 + 43 + 33 + i) (by rw [hS]; exact (u8 i (by omega)).2) (by rw [hS]; exact (t8 i (by omega)).2) (by omega)
    obtain ⟨g', x1, x2⟩ := ih (i + 1) fu h (by omega) (by omega) (e2.trans hS) (e3.trans hJ) (e4.trans hZ) (e5.trans hR) (fun a ha => (e6 a (ha i (by omega))).trans (ho a fun b' hb' => ha b' (by omega))) (fun i' hi' j hj => by
        by_cases c : i' = i
        · subst c
          rw [e7 j hj, oS]
        · rw [e6 (a0 + 96 + 33 + i') (by omega)]
          exact hc i' (by omega) j hj)
    refine ⟨g', ?_, x2⟩
    have hix' : ¬ (nI i < 0 ∨ 20 ≤ i) := fun k => k.elim (nI_pos (by omega)) (fun q => by omega)
    show f1_copyFrom_49b (f1_copyFrom_49 fu) g (a0 + 96) (a0 + 43) (nI i) = _
    unfold f1_copyFrom_49b
    rw [hS, if_pos u1, ho (a0 + 96) fun b' _ => by omega, hn, if_neg (nI_ge (by omega) (by omega)), hR, u4, ob_some, u6, if_pos rfl, if_pos (ixOk (by omega) (by omega)), ci, (u8 i (by omega)).1, ob_some, if_pos t1, t4, ob_some, t6, if_pos rfl, if_pos hix', (t8 i (by omega)).1, ob_some, if_pos (u8 i (by omega)).2, e1, ob_some, nI_1]
    exact x1
theorem p_copy {a0 n1 n2 n3 n4 q : Nat} {g : g_H} {s : Sg} (I : ClI a0 g s n1 n2 n3 n4 q) : ∃ h, f1_copyFrom g (a0 + 96) (a0 + 43) = some h ∧ Fc a0 g h ∧ ClI a0 h s n1 n2 n3 n4 q ∧ CI a0 (a0 + 96) h s n1 n2 n3 n4 q ∧ gI h (a0 + 96) 7 = -1 := by
  obtain ⟨c, sh, i7, ws⟩ := I
  have h6 := c.1.2.2.1
  have h20 := c.1.2.2.2.2.1
  have fn := c.2.1.2.2.1
  have fa := sh.2.2.2.2.2.1
  have e3 : gI g (a0 + 43) 3 = nI n3 := c.2.2.1.1.trans c.1.2.1
  have e4 : gI g (a0 + 43) 4 = nI n4 := c.2.2.1.2.1.trans c.1.2.2.2.1
  obtain ⟨g1, hg1⟩ : ∃ g1, g1 = gPI g (a0 + 96) 3 (nI n3) := ⟨_, rfl⟩
  have o1 : ∀ a, a ≠ a0 + 96 → gI g1 a = gI g a := fun a ha => by rw [hg1]; exact gU_o ha
  have fn1 : FL a0 (a0 + 43) g1 := by rw [hg1]; exact fn
  have fa1 : FL a0 (a0 + 96) g1 := by rw [hg1]; exact fa
  have S1 : gS g1 = gS g := by rw [hg1]; rfl
  have R1' : gR g1 = gR g := by rw [hg1]; rfl
  have J1 : gJ g1 = gJ g := by rw [hg1]; rfl
  have Z1 : gZ g1 = gZ g := by rw [hg1]; rfl
  obtain ⟨g2, a1, a2, a3, a4, a5, a6⟩ := p_cpBees h6 fn1 fa1 (by rw [hg1]; simp [gI_PI]) (fun b hb => by
    obtain ⟨b1, b2, b3, b4, b5, b6, b7, b8, b9, b10, b11, b12, -⟩ := clB c hb
    obtain ⟨x1, x2, x3, x4, x5, x6, x7, x8⟩ := clC c hb
    obtain ⟨z, p, l, st, ho, e1, e2, e3, e4, e5, e6, e7, e8, e9, e10, e11, e12, e13, -⟩ := c.wb hb
    rw [R1', o1 _ (by omega), x5, x7]
    exact ⟨b12, e12, e13⟩) n3 0 300 g1 (by omega) (by omega) rfl rfl rfl (fun _ _ => ⟨rfl, rfl⟩) (fun b' hb' => absurd hb' (by omega))
  obtain ⟨g3, hg3⟩ : ∃ g3, g3 = gPI g2 (a0 + 96) 4 (gI g1 (a0 + 43) 4) := ⟨_, rfl⟩
  have o3 : ∀ a, a ≠ a0 + 96 → gI g3 a = gI g2 a := fun a ha => by rw [hg3]; exact gU_o ha
  have S3 : gS g3 = gS g := by rw [hg3]; exact a2.trans S1
  have R3' : gR g3 = gR g2 := by rw [hg3]; rfl
  have gRo : ∀ a, (∀ b', b' < n3 → a ≠ a0 + 96 + 2 + 5 * b') → gR g3 a = gR g a := fun a ha => by rw [R3', (a5 a ha).2, R1']
  have flx : ∀ F, F = a0 + 43 ∨ F = a0 + 96 → FL a0 F g → FL a0 F g3 := by
    intro F hF hh
    obtain ⟨t1, t2, t3, t4, t5, t6, t7, t8⟩ := hh
    refine ⟨by rw [S3]; exact t1, ?_, ?_, ?_, by rw [S3]; exact t5, by rw [S3]; exact t6, fun b hb => ⟨?_, by rw [S3]; exact (t7 b hb).2⟩, fun i hi => ⟨?_, by rw [S3]; exact (t8 i hi).2⟩⟩
    · rw [gRo F fun b' _ => by omega]; exact t2
    · rw [gRo F fun b' _ => by omega]; exact t3
    · rw [gRo F fun b' _ => by omega]; exact t4
    · rw [gRo (F + 1) fun b' _ => by omega]; exact (t7 b hb).1
    · rw [gRo (F + 32) fun b' _ => by omega]; exact (t8 i hi).1
  have o12 : ∀ a, a ≠ a0 + 96 → (∀ b', b' < n3 → a ≠ a0 + 96 + 2 + 5 * b') → gI g3 a = gI g a := fun a h1 h2 => by rw [o3 a h1, (a5 a h2).1, o1 a h1]
  have e43 : gI g1 (a0 + 43) = gI g (a0 + 43) := o1 _ (by omega)
  obtain ⟨g4, c1, c2, c3', c4, c5, c6, c7⟩ := p_cpLetters h20 (flx _ (Or.inl rfl) fn) (flx _ (Or.inr rfl) fa) (by rw [hg3, e43, e4]; simp [gI_PI]) n4 0 300 g3 (by omega) (by omega) rfl rfl rfl rfl (fun _ _ => rfl) (fun i' hi' => absurd hi' (by omega))
  obtain ⟨h, hh⟩ : ∃ h, h = gPI (gPI (gPI g4 (a0 + 96) 5 (gI g3 (a0 + 43) 5)) (a0 + 96) 6 (gI g3 (a0 + 43) 6)) (a0 + 96) 7 (gI g3 (a0 + 43) 7) := ⟨_, rfl⟩
  have oh : ∀ a, a ≠ a0 + 96 → gI h a = gI g4 a := fun a ha => by rw [hh]; exact ((gU_o ha).trans (gU_o ha)).trans (gU_o ha)
  have Sh' : gS h = gS g := by rw [hh]; exact c2.trans S3
  have Rh : gR h = gR g3 := by rw [hh]; exact c5
  have Jh : gJ h = gJ g := by rw [hh]; exact (c3'.trans (by rw [hg3]; rfl)).trans (a3.trans J1)
  have Zh : gZ h = gZ g := by rw [hh]; exact (c4.trans (by rw [hg3]; rfl)).trans (a4.trans Z1)
  have oa : ∀ a, a ≠ a0 + 96 → (∀ b', b' < n3 → a ≠ a0 + 96 + 2 + 5 * b') → (∀ i', i' < n4 → a ≠ a0 + 96 + 33 + i') → gI h a = gI g a := fun a h1 h2 h3 => by rw [oh a h1, c6 a h3, o12 a h1 h2]
  have ob : ∀ b, b < n3 → gI h (a0 + 96 + 2 + 5 * b) = gI g2 (a0 + 96 + 2 + 5 * b) := fun b hb => by rw [oh _ (by omega), c6 _ (fun i' _ => by omega), o3 _ (by omega)]
  have ag : Ag a0 (a0 + 95) g h := fun a h1 h2 => ⟨by rw [Sh'], by rw [Rh, gRo a fun b' _ => by omega], oa a (by omega) (fun _ _ => by omega) (fun _ _ => by omega)⟩
  have cn : CI a0 (a0 + 43) h s n1 n2 n3 n4 q := c.ag ag (by omega) (by omega)
  have g43 : gI g3 (a0 + 43) = gI g (a0 + 43) := o12 _ (by omega) fun _ _ => by omega
  have hF : ∀ k, k ≠ 5 → k ≠ 6 → k ≠ 7 → gI h (a0 + 96) k = gI g3 (a0 + 96) k := fun k h5 h6 h7 => by
    rw [hh, gI_PI, if_pos rfl, if_neg h7, gI_PI, if_pos rfl, if_neg h6, gI_PI, if_pos rfl, if_neg h5, c6 _ (fun i' _ => by omega)]
  have f3 : gI h (a0 + 96) 3 = nI n3 := by
    rw [hF 3 (by omega) (by omega) (by omega), hg3, gI_PI, if_pos rfl, if_neg (by omega), (a5 (a0 + 96) fun b' _ => by omega).1, hg1]
    simp [gI_PI]
  have f4 : gI h (a0 + 96) 4 = nI n4 := by
    rw [hF 4 (by omega) (by omega) (by omega), hg3, gI_PI, if_pos rfl, if_pos rfl, e43, e4]
  have f5 : gI h (a0 + 96) 5 = gI g (a0 + 43) 5 := by rw [hh, ← g43]; simp [gI_PI]
  have f6 : gI h (a0 + 96) 6 = gI g (a0 + 43) 6 := by rw [hh, ← g43]; simp [gI_PI]
  have f7 : gI h (a0 + 96) 7 = gI g (a0 + 43) 7 := by rw [hh, ← g43]; simp [gI_PI]
  have flA : FL a0 (a0 + 96) h := by
    have := flx _ (Or.inr rfl) fa
    unfold FL
    rw [Sh', Rh, ← S3]
    exact this
  have shH : Sh a0 h := by
    obtain ⟨t1, t2, t3, t4, t5, t6, t7, t8⟩ := sh
    have e0 := ag a0 (by omega) (by omega)
    refine ⟨by rw [e0.1]; exact t1, by rw [e0.2.1]; exact t2, by rw [e0.2.1]; exact t3, by rw [e0.2.1]; exact t4, by rw [e0.2.1]; exact t5, flA, ?_, fun b hb => ⟨?_, ?_, ?_⟩⟩
    · unfold RtL
      rw [Sh', Rh, gRo (a0 + 149) fun b' _ => by omega]
      exact t7
    · rw [(ag (a0 + 43 + 2 + 5 * b) (by omega) (by omega)).2.1]; exact (t8 b hb).1
    · rw [(ag (a0 + 43 + 2 + 5 * b) (by omega) (by omega)).2.2]; exact (t8 b hb).2.1
    · by_cases c : b < n3
      · rw [ob b c, (a6 b c).1, o1 _ (by omega)]; exact (t8 b hb).2.2
      · rw [oa (a0 + 96 + 2 + 5 * b) (by omega) (fun _ _ => by omega) (fun _ _ => by omega)]; exact (t8 b hb).2.2
  refine ⟨h, ?_, ⟨Zh, Sh', Jh, fun a ha => ⟨oa a (by omega) (fun _ _ => by omega) (fun _ _ => by omega), by rw [Rh, gRo a fun b' _ => by omega]⟩⟩, ⟨cn, shH, by rw [(ag (a0 + 43) (by omega) (by omega)).2.2]; exact i7, ws⟩, ?_, by rw [f7]; exact i7⟩
  · unfold f1_copyFrom
    rw [if_pos fn.1, if_pos fa.1, e3, ← hg1, show (0 : Int32) = nI 0 from rfl, a1, ← hg3, show (0 : Int32) = nI 0 from rfl, c1, ← hh]
  · obtain ⟨w, ⟨r0, r1, r2, r3, r4, r5⟩, ⟨d1, d2, d3, d4, d5⟩⟩ := cn
    have i7' : gI h (a0 + 43) 7 = -1 := by rw [(ag (a0 + 43) (by omega) (by omega)).2.2]; exact i7
    refine ⟨w, ⟨Or.inr rfl, r1, flA, r3, ?_, r5⟩, ⟨⟨?_, ?_, ?_⟩, fun b hb => ?_, fun b hb => ?_, ?_, fun i hi k hk => ?_⟩⟩
    · obtain ⟨q1, q2, q3, q4, q5⟩ := r4
      refine ⟨q1, q2, q3, fun i hi => ?_, q5⟩
      rw [f7, i7]
      have := q4 i hi
      rw [i7'] at this
      exact this
    · rw [f3]; exact w.2.1.symm
    · rw [f4]; exact w.2.2.2.1.symm
    · rw [f5]; exact c.2.2.1.2.2
    · obtain ⟨x1, x2, x3, x4, x5, x6, x7, x8, x9⟩ := c.2.2.2.1 b hb
      obtain ⟨y1, y2, y3⟩ := a6 b hb
      have oS : gI g1 (a0 + 43 + 2 + 5 * b) = gI g (a0 + 43 + 2 + 5 * b) := o1 _ (by omega)
      rw [Rh, R3', ob b hb]
      refine ⟨y2, ?_, ?_, ?_, ?_, ?_, ?_, ?_, ?_⟩
      · rw [y1, o1 _ (by omega)]; exact (sh.2.2.2.2.2.2.2 b (by omega)).2.2
      · rw [y3 2 (by omega) (by omega), oS]; exact x3
      · rw [y3 3 (by omega) (by omega), oS]; exact x4
      · rw [y3 4 (by omega) (by omega), oS]; exact x5
      · rw [y3 5 (by omega) (by omega), oS]; exact x6
      · rw [y3 7 (by omega) (by omega), oS]; exact x7
      · rw [y3 8 (by omega) (by omega), oS]; exact x8
      · rw [y3 9 (by omega) (by omega), oS]; exact x9
    · rw [ob b hb, (a6 b hb).2.2 6 (by omega) (by omega), o1 _ (by omega)]; exact c.2.2.2.2.1 b hb
    · unfold R5; rw [f6]; exact c.2.2.2.2.2.1
    · rw [oh _ (by omega), c7 i hi k hk, o12 _ (by omega) (fun _ _ => by omega)]; exact c.2.2.2.2.2.2 i hi k hk
