section
/-! PURE: count as a call -/
theorem m_cntLoop {M n1 n2 n3 n4 : Nat} {g : g_H} {s : Sg} {x1 : Int32} {w : Nat} (m : MX M g s n1 n2 n3 n4) (h20 : n4 ≤ 20) (w4 : s 0 0 4 = nI n4) (hx : (x1 = 5 ∧ w = 3) ∨ (x1 ≠ 5 ∧ w = 2)) : ∀ k i fuel : Nat, i + k = n4 → k < fuel → f7_counted_77 fuel g M x1 (sF (fun i => if s 5 i w = -1 then 0 else 1) i) (nI i) = some (sF (fun i => if s 5 i w = -1 then 0 else 1) n4, g) := by
  intro k
  have e9 : gI g M 9 = nI n4 := m.2.1.2.2.2.trans w4
  induction k with
  | zero =>
    intro i fuel h hf
    obtain ⟨fu, rfl⟩ : ∃ fu, fuel = fu + 1 := ⟨fuel - 1, by omega⟩
    have : i = n4 := by omega
    subst this
    show f7_counted_77b _ g M x1 _ (nI i) = _
    unfold f7_counted_77b
    rw [if_pos m.1.1, e9, if_pos (Int32.le_refl _)]
  | succ k ih =>
    intro i fuel h hf
    obtain ⟨fu, rfl⟩ : ∃ fu, fuel = fu + 1 := ⟨fuel - 1, by omega⟩
    have := ih (i + 1) fu (by omega) (by omega)
    have hs : sF (fun i => if s 5 i w = -1 then (0 : Int32) else 1) (i + 1) = sF (fun i => if s 5 i w = -1 then 0 else 1) i + (if s 5 i w = -1 then 0 else 1) := rfl
    rw [hs] at this
    have main : ∀ y : Int32, y = nI w → f7_counted_98 (f7_counted_77 fu) g M x1 (nI i) (sF (fun i => if s 5 i w = -1 then 0 else 1) i) M (nI i) y = some (sF (fun i => if s 5 i w = -1 then 0 else 1) n4, g) := by
      intro y hy
      unfold f7_counted_98 f7_counted_110
      rw [if_pos m.1.1, m_le (k := w) m h20 (show i < n4 by omega) (by omega) rfl hy, gB2_some, nI_1]
      by_cases c : s 5 i w = -1
      · rw [if_pos c]
        rw [if_pos c] at this
        exact this
      · rw [if_neg c]
        rw [if_neg c] at this
        exact this
    show f7_counted_77b (f7_counted_77 fu) g M x1 _ (nI i) = _
    unfold f7_counted_77b
    rw [if_pos m.1.1, e9, if_neg (nI_ge (by omega) (by omega))]
    rcases hx with ⟨h1, h2⟩ | ⟨h1, h2⟩
    · rw [if_pos h1]; exact main 3 (by rw [h2]; rfl)
    · rw [if_neg h1]; exact main 2 (by rw [h2]; rfl)
theorem m_restLoop {M n1 n2 n3 n4 : Nat} {g : g_H} {s : Sg} (m : MX M g s n1 n2 n3 n4) (h6 : n3 ≤ 6) (w3 : s 0 0 3 = nI n3) : ∀ k b fuel : Nat, b + k = n3 → k < fuel → f7_counted_122 fuel g M (sF (fun b => s 3 b 4) b) (nI b) = some (sF (fun b => s 3 b 4) n3, g) := by
  intro k
  have e6 : gI g M 6 = nI n3 := m.2.1.2.2.1.trans w3
  induction k with
  | zero =>
    intro b fuel h hf
    obtain ⟨fu, rfl⟩ : ∃ fu, fuel = fu + 1 := ⟨fuel - 1, by omega⟩
    have : b = n3 := by omega
    subst this
    show f7_counted_122b _ g M _ (nI b) = _
    unfold f7_counted_122b
    rw [if_pos m.1.1, e6, if_pos (Int32.le_refl _)]
  | succ k ih =>
    intro b fuel h hf
    obtain ⟨fu, rfl⟩ : ∃ fu, fuel = fu + 1 := ⟨fuel - 1, by omega⟩
    show f7_counted_122b (f7_counted_122 fu) g M _ (nI b) = _
    unfold f7_counted_122b
    rw [if_pos m.1.1, e6, if_neg (nI_ge (by omega) (by omega)), m_be (k := 4) (y := (4 : Int32)) m h6 (show b < n3 by omega) (by omega) rfl rfl, gB2_some, nI_1]
    exact ih (b + 1) fu (by omega) (by omega)
theorem m_gateLoop {M n1 n2 n3 n4 q : Nat} {g : g_H} {s : Sg} (m : MX M g s n1 n2 n3 n4) (wt : WT s n1 n2) (h0 : s 0 0 0 = nI q) (hq : q < 2 ^ 26) : ∀ k i fuel : Nat, i + k = n2 → k < fuel → f7_counted_149 fuel g M (sF (opI s) i) (nI i) = some (sF (opI s) n2, g) := by
  intro k
  have h24 := wt.2.2.2.1
  have e3 : gI g M 3 = nI n2 := m.2.1.2.1.trans wt.2.2.1
  induction k with
  | zero =>
    intro i fuel h hf
    obtain ⟨fu, rfl⟩ : ∃ fu, fuel = fu + 1 := ⟨fuel - 1, by omega⟩
    have : i = n2 := by omega
    subst this
    show f7_counted_149b _ g M _ (nI i) = _
    unfold f7_counted_149b
    rw [if_pos m.1.1, e3, if_pos (Int32.le_refl _)]
  | succ k ih =>
    intro i fuel h hf
    obtain ⟨fu, rfl⟩ : ∃ fu, fuel = fu + 1 := ⟨fuel - 1, by omega⟩
    obtain ⟨v, v1, v2, v3⟩ := m_isOpen m wt h0 hq (show i < n2 by omega) rfl
    have := ih (i + 1) fu (by omega) (by omega)
    have hs : sF (opI s) (i + 1) = sF (opI s) i + opI s i := rfl
    rw [hs] at this
    show f7_counted_149b (f7_counted_149 fu) g M _ (nI i) = _
    unfold f7_counted_149b f7_counted_171
    rw [if_pos m.1.1, e3, if_neg (nI_ge (by omega) (by omega)), v1, gB2_some, nI_1]
    rcases v2 with v2 | v2
    · have e : opI s i = 0 := by
        unfold opI
        by_cases c : hourS s < s 2 i 3 ∨ s 2 i 4 ≤ hourS s
        · rw [if_pos c]
        · exfalso
          have := v3.mpr ⟨fun k => c (Or.inl k), fun k => c (Or.inr k)⟩
          rw [v2] at this
          exact absurd this (by decide)
      rw [if_pos v2]
      rw [e] at this
      exact this
    · have e : opI s i = 1 := by
        have := v3.mp v2
        unfold opI
        rw [if_neg fun k => k.elim this.1 this.2]
      rw [if_neg (by rw [v2]; exact n10)]
      rw [e] at this
      exact this
theorem m_counted {M n1 n2 n3 n4 q k : Nat} {g : g_H} {s : Sg} (w : WF s n1 n2 n3 n4 q) (m : MX M g s n1 n2 n3 n4) (hk : k < 9) : f7_counted g M (nI k) = some (cnS s n2 n3 n4 k, g) := by
  have h6 := w.2.2.1
  have h20 := w.2.2.2.2.1
  have w4 := w.2.2.2.1
  unfold f7_counted cnS f7_counted_75
  match k, hk with
  | 0, _ => rw [if_pos (by decide), if_pos m.1.1, m.1.2.1.2.2.2.2.2.2.1, ob_some, m.1.2.2.2.2.2.2.2.2.1, if_pos rfl, if_pos (by decide), show Int32.toNatClampNeg (0 : Int32) = 0 from rfl, m.2.2.2.2.2, if_pos (by decide)]
  | 1, _ => rw [if_neg (by decide), if_pos (by decide), if_pos m.1.1, m.2.1.1, if_pos (by decide)]
  | 2, _ => rw [if_neg (by decide), if_neg (by decide), if_pos (by decide), if_pos m.1.1, m.2.1.2.1, if_pos (by decide)]
  | 3, _ => rw [if_neg (by decide), if_neg (by decide), if_neg (by decide), if_pos (by decide), if_pos m.1.1, m.2.1.2.2.1, if_pos (by decide)]
  | 4, _ => rw [if_neg (by decide), if_neg (by decide), if_neg (by decide), if_neg (by decide), if_pos (by decide), if_pos m.1.1, m.2.1.2.2.2, if_pos (by decide)]
  | 5, _ =>
    rw [if_neg (by decide), if_neg (by decide), if_neg (by decide), if_neg (by decide), if_neg (by decide), if_pos (by decide), if_neg (by decide), if_pos rfl, arr_def w4 h20, arrF_s]
    exact m_cntLoop m h20 w4 (Or.inl ⟨rfl, rfl⟩) n4 0 300 (by omega) (by omega)
  | 6, _ =>
    rw [if_neg (by decide), if_neg (by decide), if_neg (by decide), if_neg (by decide), if_neg (by decide), if_neg (by decide), if_pos (by decide), if_neg (by decide), if_neg (by decide), if_pos rfl]
    exact m_cntLoop m h20 w4 (Or.inr ⟨by decide, rfl⟩) n4 0 300 (by omega) (by omega)
  | 7, _ =>
    rw [if_neg (by decide), if_neg (by decide), if_neg (by decide), if_neg (by decide), if_neg (by decide), if_neg (by decide), if_neg (by decide), if_pos (by decide), if_neg (by decide), if_neg (by decide), if_neg (by decide), if_pos rfl]
    exact m_restLoop m h6 w.2.1 n3 0 300 (by omega) (by omega)
  | 8, _ =>
    rw [if_neg (by decide), if_neg (by decide), if_neg (by decide), if_neg (by decide), if_neg (by decide), if_neg (by decide), if_neg (by decide), if_neg (by decide), if_neg (by decide), if_neg (by decide), if_neg (by decide), if_neg (by decide)]
    exact m_gateLoop m w.1 w.2.2.2.2.2.1 w.2.2.2.2.2.2.1 n2 0 300 (by omega) (by have := w.1.2.2.2.1; omega)
theorem o_count {a0 n1 n2 n3 n4 q : Nat} {g : g_H} {s : Sg} (I : ClI a0 g s n1 n2 n3 n4 q) (x : Int32) : OpR a0 g s n1 n2 n3 n4 q (f6_count g a0 x) (fun h => f7_count h (a0 + 153) x) c1 := by
  obtain ⟨s1, s2, s3, s4, s5, s6, s7, s8, s9, s10, s11, s12, s13, s14, s15⟩ := I.sh
  have i8 : ∀ h, f7_isIn h x 0 8 = some (if inR (nI 9) x then 1 else 0, h) := fun h => isIn_w (by omega) (by decide)
  by_cases hx : inR (nI 9) x
  · obtain ⟨k, hk, rfl⟩ := inR_nat (by omega) hx
    refine OpR.qry I (cnS s n2 n3 n4 k) ?_ rfl fun h m => ?_
    · unfold f6_count
      rw [p_checkWhat, gB2_some, if_pos (show inR (9 : Int32) (nI k) from hx), if_pos n0e, if_pos s1, p_tellCount I hk, gB2_some]
    · have m' := m.thr (v := 0)
      unfold f7_count
      rw [if_pos m.1.1, i8, gB2_some, if_pos hx, if_neg n10, if_pos m'.1.1, m_counted I.1.1 m' hk, gB2_some]
  · refine OpR.thr I 1 (by omega) (by omega) ?_ fun h m => ?_
    · unfold f6_count
      rw [p_checkWhat, gB2_some, if_neg (show ¬ inR (9 : Int32) x from hx), if_neg n1e]
    · have m' := m.thr (v := 0)
      unfold f7_count
      rw [if_pos m.1.1, i8, gB2_some, if_neg hx, if_pos rfl, if_pos m'.1.1, m_fail m'.1.1, gB2_some]
      rfl
end
section
/-! PURE: the flight copied for looking ahead -/
theorem p_copyBee {g : g_H} {D S r : Nat} (hD : (gS g D).1 = 1) (hS : (gS g S).1 = 1) (hn : S ≠ D) (hr : gR g S 1 = some r) (h7 : gI g S 7 = 0 ∨ gI g S 7 = 1) (h9 : gI g S 9 = 0 ∨ gI g S 9 = 1) :
    ∃ h, f0_copyFrom g D S = some h ∧ gS h = gS g ∧ gJ h = gJ g ∧ gZ h = gZ g ∧ (∀ a, a ≠ D → gI h a = gI g a ∧ gR h a = gR g a) ∧ gI h D 0 = gI g D 0 ∧ gR h D 1 = some r ∧ ∀ j, 2 ≤ j → j ≤ 9 → gI h D j = gI g S j := by
  have e : ∀ (g' : g_H) (k : Nat) (v : Int32) (j : Nat), gI (gPI g' D k v) S j = gI g' S j := fun g' k v j => by rw [gI_PI, if_neg hn]
  refine ⟨gPI (gPI (gPI (gPI (gPI (gPI (gPI (gPI (gPR g D 1 (some r)) D 2 (gI g S 2)) D 3 (gI g S 3)) D 4 (gI g S 4)) D 5 (gI g S 5)) D 6 (gI g S 6)) D 7 (gI g S 7)) D 8 (gI g S 8)) D 9 (gI g S 9), ?_, rfl, rfl, rfl, fun a ha => ⟨?_, ?_⟩, ?_, ?_, fun j h1 h2 => ?_⟩
  · unfold f0_copyFrom gLt
    rw [if_pos hS, hr, ob_some, if_pos hD]
    simp only [e, gI_PR, if_pos h7, if_pos h9]
  · exact (((((((gU_o ha).trans (gU_o ha)).trans (gU_o ha)).trans (gU_o ha)).trans (gU_o ha)).trans (gU_o ha)).trans (gU_o ha)).trans (gU_o ha)
  · exact gU_o ha
  · simp [gI_PI, gI_PR]
  · simp [gR_PI, gR_PR]
  · have : j = 2 ∨ j = 3 ∨ j = 4 ∨ j = 5 ∨ j = 6 ∨ j = 7 ∨ j = 8 ∨ j = 9 := by omega
    rcases this with rfl | rfl | rfl | rfl | rfl | rfl | rfl | rfl <;> simp [gI_PI, gI_PR]
theorem p_copyLetter {g : g_H} {D S : Nat} (hD : (gS g D).1 = 4) (hS : (gS g S).1 = 4) (hn : S ≠ D) :
    ∃ h, f3_copyFrom g D S = some h ∧ gS h = gS g ∧ gJ h = gJ g ∧ gZ h = gZ g ∧ gR h = gR g ∧ (∀ a, a ≠ D → gI h a = gI g a) ∧ ∀ j, j < 5 → gI h D j = gI g S j := by
  have e : ∀ (g' : g_H) (k : Nat) (v : Int32) (j : Nat), gI (gPI g' D k v) S j = gI g' S j := fun g' k v j => by rw [gI_PI, if_neg hn]
  refine ⟨gPI (gPI (gPI (gPI (gPI g D 0 (gI g S 0)) D 1 (gI g S 1)) D 2 (gI g S 2)) D 3 (gI g S 3)) D 4 (gI g S 4), ?_, rfl, rfl, rfl, rfl, fun a ha => ?_, fun j h1 => ?_⟩
  · unfold f3_copyFrom gLt
    rw [if_pos hS, if_pos hD]
    simp only [e]
  · exact ((((gU_o ha).trans (gU_o ha)).trans (gU_o ha)).trans (gU_o ha)).trans (gU_o ha)
  · have : j = 0 ∨ j = 1 ∨ j = 2 ∨ j = 3 ∨ j = 4 := by omega
    rcases this with rfl | rfl | rfl | rfl | rfl <;> simp [gI_PI]
/-- the bees -/
theorem p_cpBees {a0 n3 : Nat} {g0 : g_H} (h6 : n3 ≤ 6) (sh : FL a0 (a0 + 43) g0) (sa : FL a0 (a0 + 96) g0) (hn : gI g0 (a0 + 96) 3 = nI n3) (hr : ∀ b, b < n3 → gR g0 (a0 + 43 + 2 + 5 * b) 1 = some (a0 + 46 + 5 * b) ∧ (gI g0 (a0 + 43 + 2 + 5 * b) 7 = 0 ∨ gI g0 (a0 + 43 + 2 + 5 * b) 7 = 1) ∧ (gI g0 (a0 + 43 + 2 + 5 * b) 9 = 0 ∨ gI g0 (a0 + 43 + 2 + 5 * b) 9 = 1)) :
    ∀ k b fuel : Nat, ∀ g : g_H, b + k = n3 → k < fuel → gS g = gS g0 → gJ g = gJ g0 → gZ g = gZ g0 → (∀ a, (∀ b', b' < b → a ≠ a0 + 96 + 2 + 5 * b') → gI g a = gI g0 a ∧ gR g a = gR g0 a) → (∀ b', b' < b → gI g (a0 + 96 + 2 + 5 * b') 0 = gI g0 (a0 + 96 + 2 + 5 * b') 0 ∧ gR g (a0 + 96 + 2 + 5 * b') 1 = some (a0 + 46 + 5 * b') ∧ ∀ j, 2 ≤ j → j ≤ 9 → gI g (a0 + 96 + 2 + 5 * b') j = gI g0 (a0 + 43 + 2 + 5 * b') j) →
    ∃ g', f1_copyFrom_10 fuel g (a0 + 96) (a0 + 43) (nI b) = f1_copyFrom_49 300 (gPI g' (a0 + 96) 4 (gI g0 (a0 + 43) 4)) (a0 + 96) (a0 + 43) 0 ∧ gS g' = gS g0 ∧ gJ g' = gJ g0 ∧ gZ g' = gZ g0 ∧ (∀ a, (∀ b', b' < n3 → a ≠ a0 + 96 + 2 + 5 * b') → gI g' a = gI g0 a ∧ gR g' a = gR g0 a) ∧ ∀ b', b' < n3 → gI g' (a0 + 96 + 2 + 5 * b') 0 = gI g0 (a0 + 96 + 2 + 5 * b') 0 ∧ gR g' (a0 + 96 + 2 + 5 * b') 1 = some (a0 + 46 + 5 * b') ∧ ∀ j, 2 ≤ j → j ≤ 9 → gI g' (a0 + 96 + 2 + 5 * b') j = gI g0 (a0 + 43 + 2 + 5 * b') j := by
  obtain ⟨t1, t2, t3, t4, t5, t6, t7, t8⟩ := sh
  obtain ⟨u1, u2, u3, u4, u5, u6, u7, u8⟩ := sa
  intro k
  induction k with
  | zero =>
    intro b fuel g hbk hf hS hJ hZ ho hc
    obtain ⟨fu, rfl⟩ : ∃ fu, fuel = fu + 1 := ⟨fuel - 1, by omega⟩
    have : b = n3 := by omega
    subst this
    refine ⟨g, ?_, hS, hJ, hZ, ho, hc⟩
    show f1_copyFrom_10b _ g (a0 + 96) (a0 + 43) (nI b) = _
    unfold f1_copyFrom_10b
    rw [hS, if_pos u1, (ho (a0 + 96) fun b' _ => by omega).1, hn, if_pos (Int32.le_refl _), if_pos t1, (ho (a0 + 43) fun b' _ => by omega).1]
  | succ k ih =>
    intro b fuel g hbk hf hS hJ hZ ho hc
    obtain ⟨fu, rfl⟩ : ∃ fu, fuel = fu + 1 := ⟨fuel - 1, by omega⟩
    have cb : Int32.toNatClampNeg (nI b) = b := cl_nI (by omega)
    obtain ⟨r1, r2, r3⟩ := hr b (by omega)
    have oS := ho (a0 + 43 + 2 + 5 * b) fun b' _ => by omega
    obtain ⟨h, e1, e2, e3, e4, e5, e6, e7, e8⟩ := p_copyBee (g := g) (D := a0 + 96 + 2 + 5 * b) (S := a0 + 43 + 2 + 5 * b) (r := a0 + 46 + 5 * b) (by rw [hS]; exact (u7 b (by omega)).2) (by rw [hS]; exact (t7 b (by omega)).2) (by omega) (by rw [oS.2]; exact r1) (by rw [oS.1]; exact r2) (by rw [oS.1]; exact r3)
    obtain ⟨g', x1, x2⟩ := ih (b + 1) fu h (by omega) (by omega) (e2.trans hS) (e3.trans hJ) (e4.trans hZ) (fun a ha => by
        have := e5 a (ha b (by omega))
        have q := ho a fun b' hb' => ha b' (by omega)
        exact ⟨this.1.trans q.1, this.2.trans q.2⟩) (fun b' hb' => by
        by_cases c : b' = b
        · subst c
          have q := (ho (a0 + 96 + 2 + 5 * b') fun b'' _ => by omega).1
          refine ⟨by rw [e6, q], e7, fun j h1 h2 => by rw [e8 j h1 h2, oS.1]⟩
        · have := e5 (a0 + 96 + 2 + 5 * b') (by omega)
          rw [this.1, this.2]
          exact hc b' (by omega))
    refine ⟨g', ?_, x2⟩
    have hix' : ¬ (nI b < 0 ∨ 6 ≤ b) := fun k => k.elim (nI_pos (by omega)) (fun q => by omega)
    show f1_copyFrom_10b (f1_copyFrom_10 fu) g (a0 + 96) (a0 + 43) (nI b) = _
    unfold f1_copyFrom_10b
    rw [hS, if_pos u1, (ho (a0 + 96) fun b' _ => by omega).1, hn, if_neg (nI_ge (by omega) (by omega)), (ho (a0 + 96) fun b' _ => by omega).2, u3, ob_some, u5, if_pos rfl, if_pos (ixOk (by omega) (by omega)), cb, (ho (a0 + 96 + 1) fun b' _ => by omega).2, (u7 b (by omega)).1, ob_some, if_pos t1, (ho (a0 + 43) fun b' _ => by omega).2, t3, ob_some, t5, if_pos rfl, if_pos hix', (ho (a0 + 43 + 1) fun b' _ => by omega).2, (t7 b (by omega)).1, ob_some, if_pos (u7 b (by omega)).2, e1, ob_some, nI_1]
    exact x1
/-- the letters -/
theorem p_cpLetters {a0 n4 : Nat} {g0 : g_H} (h20 : n4 ≤ 20) (sh : FL a0 (a0 + 43) g0) (sa : FL a0 (a0 + 96) g0) (hn : gI g0 (a0 + 96) 4 = nI n4) :
    ∀ k i fuel : Nat, ∀ g : g_H, i + k = n4 → k < fuel → gS g = gS g0 → gJ g = gJ g0 → gZ g = gZ g0 → gR g = gR g0 → (∀ a, (∀ i', i' < i → a ≠ a0 + 96 + 33 + i') → gI g a = gI g0 a) → (∀ i', i' < i → ∀ j, j < 5 → gI g (a0 + 96 + 33 + i') j = gI g0 (a0 + 43 + 33 + i') j) →
    ∃ g', f1_copyFrom_49 fuel g (a0 + 96) (a0 + 43) (nI i) = some (gPI (gPI (gPI g' (a0 + 96) 5 (gI g0 (a0 + 43) 5)) (a0 + 96) 6 (gI g0 (a0 + 43) 6)) (a0 + 96) 7 (gI g0 (a0 + 43) 7)) ∧ gS g' = gS g0 ∧ gJ g' = gJ g0 ∧ gZ g' = gZ g0 ∧ gR g' = gR g0 ∧ (∀ a, (∀ i', i' < n4 → a ≠ a0 + 96 + 33 + i') → gI g' a = gI g0 a) ∧ ∀ i', i' < n4 → ∀ j, j < 5 → gI g' (a0 + 96 + 33 + i') j = gI g0 (a0 + 43 + 33 + i') j := by
  obtain ⟨t1, t2, t3, t4, t5, t6, t7, t8⟩ := sh
  obtain ⟨u1, u2, u3, u4, u5, u6, u7, u8⟩ := sa
  intro k
  induction k with
  | zero =>
    intro i fuel g hbk hf hS hJ hZ hR ho hc
    obtain ⟨fu, rfl⟩ : ∃ fu, fuel = fu + 1 := ⟨fuel - 1, by omega⟩
    have : i = n4 := by omega
    subst this
    refine ⟨g, ?_, hS, hJ, hZ, hR, ho, hc⟩
    have e : ∀ (g' : g_H) (k : Nat) (v : Int32) (j : Nat), gI (gPI g' (a0 + 96) k v) (a0 + 43) j = gI g' (a0 + 43) j := fun g' k v j => by rw [gI_PI, if_neg (by omega)]
    show f1_copyFrom_49b _ g (a0 + 96) (a0 + 43) (nI i) = _
    unfold f1_copyFrom_49b gLt
    rw [hS, if_pos u1, ho (a0 + 96) fun b' _ => by omega, hn, if_pos (Int32.le_refl _), if_pos t1]
    simp only [e, ho (a0 + 43) fun b' _ => by omega]
  | succ k ih =>
    intro i fuel g hbk hf hS hJ hZ hR ho hc
    obtain ⟨fu, rfl⟩ : ∃ fu, fuel = fu + 1 := ⟨fuel - 1, by omega⟩
    have ci : Int32.toNatClampNeg (nI i) = i := cl_nI (by omega)
    have oS := ho (a0 + 43 + 33 + i) fun b' _ => by omega
    obtain ⟨h, e1, e2, e3, e4, e5, e6, e7⟩ := p_copyLetter (g := g) (D := a0 + 96 + 33 + i) (S := a0 + 43 + 33 + i) (by rw [hS]; exact (u8 i (by omega)).2) (by rw [hS]; exact (t8 i (by omega)).2) (by omega)
    obtain ⟨g', x1, x2⟩ := ih (i + 1) fu h (by omega) (by omega) (e2.trans hS) (e3.trans hJ) (e4.trans hZ) (e5.trans hR) (fun a ha => (e6 a (ha i (by omega))).trans (ho a fun b' hb' => ha b' (by omega))) (fun i' hi' j hj => by
        by_cases c : i' = i
        · subst c
          rw [e7 j hj, oS]
        · rw [e6 (a0 + 96 + 33 + i') (by omega)]
          exact hc i' (by omega) j hj)
    refine ⟨g', ?_, x2⟩
    have hix' : ¬ (nI i < 0 ∨ 20 ≤ i) := fun k => k.elim (nI_pos (by omega)) (fun q => by omega)
    show f1_copyFrom_49b (f1_copyFrom_49 fu) g (a0 + 96) (a0 + 43) (nI i) = _
    unfold f1_copyFrom_49b
    rw [hS, if_pos u1, ho (a0 + 96) fun b' _ => by omega, hn, if_neg (nI_ge (by omega) (by omega)), hR, u4, ob_some, u6, if_pos rfl, if_pos (ixOk (by omega) (by omega)), ci, (u8 i (by omega)).1, ob_some, if_pos t1, t4, ob_some, t6, if_pos rfl, if_pos hix', (t8 i (by omega)).1, ob_some, if_pos (u8 i (by omega)).2, e1, ob_some, nI_1]
    exact x1
theorem p_copy {a0 n1 n2 n3 n4 q : Nat} {g : g_H} {s : Sg} (I : ClI a0 g s n1 n2 n3 n4 q) : ∃ h, f1_copyFrom g (a0 + 96) (a0 + 43) = some h ∧ Fc a0 g h ∧ ClI a0 h s n1 n2 n3 n4 q ∧ CI a0 (a0 + 96) h s n1 n2 n3 n4 q ∧ gI h (a0 + 96) 7 = -1 := by
  obtain ⟨c, sh, i7, ws⟩ := I
  have h6 := c.1.2.2.1
  have h20 := c.1.2.2.2.2.1
  have fn := c.2.1.2.2.1
  have fa := sh.2.2.2.2.2.1
  have e3 : gI g (a0 + 43) 3 = nI n3 := c.2.2.1.1.trans c.1.2.1
  have e4 : gI g (a0 + 43) 4 = nI n4 := c.2.2.1.2.1.trans c.1.2.2.2.1
  obtain ⟨g1, hg1⟩ : ∃ g1, g1 = gPI g (a0 + 96) 3 (nI n3) := ⟨_, rfl⟩
  have o1 : ∀ a, a ≠ a0 + 96 → gI g1 a = gI g a := fun a ha => by rw [hg1]; exact gU_o ha
  have fn1 : FL a0 (a0 + 43) g1 := by rw [hg1]; exact fn
  have fa1 : FL a0 (a0 + 96) g1 := by rw [hg1]; exact fa
  have S1 : gS g1 = gS g := by rw [hg1]; rfl
  have R1' : gR g1 = gR g := by rw [hg1]; rfl
  have J1 : gJ g1 = gJ g := by rw [hg1]; rfl
  have Z1 : gZ g1 = gZ g := by rw [hg1]; rfl
  obtain ⟨g2, a1, a2, a3, a4, a5, a6⟩ := p_cpBees h6 fn1 fa1 (by rw [hg1]; simp [gI_PI]) (fun b hb => by
    obtain ⟨b1, b2, b3, b4, b5, b6, b7, b8, b9, b10, b11, b12, -⟩ := clB c hb
    obtain ⟨x1, x2, x3, x4, x5, x6, x7, x8⟩ := clC c hb
    obtain ⟨z, p, l, st, ho, e1, e2, e3, e4, e5, e6, e7, e8, e9, e10, e11, e12, e13, -⟩ := c.wb hb
    rw [R1', o1 _ (by omega), x5, x7]
    exact ⟨b12, e12, e13⟩) n3 0 300 g1 (by omega) (by omega) rfl rfl rfl (fun _ _ => ⟨rfl, rfl⟩) (fun b' hb' => absurd hb' (by omega))
  obtain ⟨g3, hg3⟩ : ∃ g3, g3 = gPI g2 (a0 + 96) 4 (gI g1 (a0 + 43) 4) := ⟨_, rfl⟩
  have o3 : ∀ a, a ≠ a0 + 96 → gI g3 a = gI g2 a := fun a ha => by rw [hg3]; exact gU_o ha
  have S3 : gS g3 = gS g := by rw [hg3]; exact a2.trans S1
  have R3' : gR g3 = gR g2 := by rw [hg3]; rfl
  have gRo : ∀ a, (∀ b', b' < n3 → a ≠ a0 + 96 + 2 + 5 * b') → gR g3 a = gR g a := fun a ha => by rw [R3', (a5 a ha).2, R1']
  have flx : ∀ F, F = a0 + 43 ∨ F = a0 + 96 → FL a0 F g → FL a0 F g3 := by
    intro F hF hh
    obtain ⟨t1, t2, t3, t4, t5, t6, t7, t8⟩ := hh
    refine ⟨by rw [S3]; exact t1, ?_, ?_, ?_, by rw [S3]; exact t5, by rw [S3]; exact t6, fun b hb => ⟨?_, by rw [S3]; exact (t7 b hb).2⟩, fun i hi => ⟨?_, by rw [S3]; exact (t8 i hi).2⟩⟩
    · rw [gRo F fun b' _ => by omega]; exact t2
    · rw [gRo F fun b' _ => by omega]; exact t3
    · rw [gRo F fun b' _ => by omega]; exact t4
    · rw [gRo (F + 1) fun b' _ => by omega]; exact (t7 b hb).1
    · rw [gRo (F + 32) fun b' _ => by omega]; exact (t8 i hi).1
  have o12 : ∀ a, a ≠ a0 + 96 → (∀ b', b' < n3 → a ≠ a0 + 96 + 2 + 5 * b') → gI g3 a = gI g a := fun a h1 h2 => by rw [o3 a h1, (a5 a h2).1, o1 a h1]
  have e43 : gI g1 (a0 + 43) = gI g (a0 + 43) := o1 _ (by omega)
  obtain ⟨g4, c1, c2, c3', c4, c5, c6, c7⟩ := p_cpLetters h20 (flx _ (Or.inl rfl) fn) (flx _ (Or.inr rfl) fa) (by rw [hg3, e43, e4]; simp [gI_PI]) n4 0 300 g3 (by omega) (by omega) rfl rfl rfl rfl (fun _ _ => rfl) (fun i' hi' => absurd hi' (by omega))
  obtain ⟨h, hh⟩ : ∃ h, h = gPI (gPI (gPI g4 (a0 + 96) 5 (gI g3 (a0 + 43) 5)) (a0 + 96) 6 (gI g3 (a0 + 43) 6)) (a0 + 96) 7 (gI g3 (a0 + 43) 7) := ⟨_, rfl⟩
  have oh : ∀ a, a ≠ a0 + 96 → gI h a = gI g4 a := fun a ha => by rw [hh]; exact ((gU_o ha).trans (gU_o ha)).trans (gU_o ha)
  have Sh' : gS h = gS g := by rw [hh]; exact c2.trans S3
  have Rh : gR h = gR g3 := by rw [hh]; exact c5
  have Jh : gJ h = gJ g := by rw [hh]; exact (c3'.trans (by rw [hg3]; rfl)).trans (a3.trans J1)
  have Zh : gZ h = gZ g := by rw [hh]; exact (c4.trans (by rw [hg3]; rfl)).trans (a4.trans Z1)
  have oa : ∀ a, a ≠ a0 + 96 → (∀ b', b' < n3 → a ≠ a0 + 96 + 2 + 5 * b') → (∀ i', i' < n4 → a ≠ a0 + 96 + 33 + i') → gI h a = gI g a := fun a h1 h2 h3 => by rw [oh a h1, c6 a h3, o12 a h1 h2]
  have ob : ∀ b, b < n3 → gI h (a0 + 96 + 2 + 5 * b) = gI g2 (a0 + 96 + 2 + 5 * b) := fun b hb => by rw [oh _ (by omega), c6 _ (fun i' _ => by omega), o3 _ (by omega)]
  have ag : Ag a0 (a0 + 95) g h := fun a h1 h2 => ⟨by rw [Sh'], by rw [Rh, gRo a fun b' _ => by omega], oa a (by omega) (fun _ _ => by omega) (fun _ _ => by omega)⟩
  have cn : CI a0 (a0 + 43) h s n1 n2 n3 n4 q := c.ag ag (by omega) (by omega)
  have g43 : gI g3 (a0 + 43) = gI g (a0 + 43) := o12 _ (by omega) fun _ _ => by omega
  have hF : ∀ k, k ≠ 5 → k ≠ 6 → k ≠ 7 → gI h (a0 + 96) k = gI g3 (a0 + 96) k := fun k h5 h6 h7 => by
    rw [hh, gI_PI, if_pos rfl, if_neg h7, gI_PI, if_pos rfl, if_neg h6, gI_PI, if_pos rfl, if_neg h5, c6 _ (fun i' _ => by omega)]
  have f3 : gI h (a0 + 96) 3 = nI n3 := by
    rw [hF 3 (by omega) (by omega) (by omega), hg3, gI_PI, if_pos rfl, if_neg (by omega), (a5 (a0 + 96) fun b' _ => by omega).1, hg1]
    simp [gI_PI]
  have f4 : gI h (a0 + 96) 4 = nI n4 := by
    rw [hF 4 (by omega) (by omega) (by omega), hg3, gI_PI, if_pos rfl, if_pos rfl, e43, e4]
  have f5 : gI h (a0 + 96) 5 = gI g (a0 + 43) 5 := by rw [hh, ← g43]; simp [gI_PI]
  have f6 : gI h (a0 + 96) 6 = gI g (a0 + 43) 6 := by rw [hh, ← g43]; simp [gI_PI]
  have f7 : gI h (a0 + 96) 7 = gI g (a0 + 43) 7 := by rw [hh, ← g43]; simp [gI_PI]
  have flA : FL a0 (a0 + 96) h := by
    have := flx _ (Or.inr rfl) fa
    unfold FL
    rw [Sh', Rh, ← S3]
    exact this
  have shH : Sh a0 h := by
    obtain ⟨t1, t2, t3, t4, t5, t6, t7, t8⟩ := sh
    have e0 := ag a0 (by omega) (by omega)
    refine ⟨by rw [e0.1]; exact t1, by rw [e0.2.1]; exact t2, by rw [e0.2.1]; exact t3, by rw [e0.2.1]; exact t4, by rw [e0.2.1]; exact t5, flA, ?_, fun b hb => ⟨?_, ?_, ?_⟩⟩
    · unfold RtL
      rw [Sh', Rh, gRo (a0 + 149) fun b' _ => by omega]
      exact t7
    · rw [(ag (a0 + 43 + 2 + 5 * b) (by omega) (by omega)).2.1]; exact (t8 b hb).1
    · rw [(ag (a0 + 43 + 2 + 5 * b) (by omega) (by omega)).2.2]; exact (t8 b hb).2.1
    · by_cases c : b < n3
      · rw [ob b c, (a6 b c).1, o1 _ (by omega)]; exact (t8 b hb).2.2
      · rw [oa (a0 + 96 + 2 + 5 * b) (by omega) (fun _ _ => by omega) (fun _ _ => by omega)]; exact (t8 b hb).2.2
  refine ⟨h, ?_, ⟨Zh, Sh', Jh, fun a ha => ⟨oa a (by omega) (fun _ _ => by omega) (fun _ _ => by omega), by rw [Rh, gRo a fun b' _ => by omega]⟩⟩, ⟨cn, shH, by rw [(ag (a0 + 43) (by omega) (by omega)).2.2]; exact i7, ws⟩, ?_, by rw [f7]; exact i7⟩
  · unfold f1_copyFrom
    rw [if_pos fn.1, if_pos fa.1, e3, ← hg1, show (0 : Int32) = nI 0 from rfl, a1, ← hg3, show (0 : Int32) = nI 0 from rfl, c1, ← hh]
  · obtain ⟨w, ⟨r0, r1, r2, r3, r4, r5⟩, ⟨d1, d2, d3, d4, d5⟩⟩ := cn
    have i7' : gI h (a0 + 43) 7 = -1 := by rw [(ag (a0 + 43) (by omega) (by omega)).2.2]; exact i7
    refine ⟨w, ⟨Or.inr rfl, r1, flA, r3, ?_, r5⟩, ⟨⟨?_, ?_, ?_⟩, fun b hb => ?_, fun b hb => ?_, ?_, fun i hi k hk => ?_⟩⟩
    · obtain ⟨q1, q2, q3, q4, q5⟩ := r4
      refine ⟨q1, q2, q3, fun i hi => ?_, q5⟩
      rw [f7, i7]
      have := q4 i hi
      rw [i7'] at this
      exact this
    · rw [f3]; exact w.2.1.symm
    · rw [f4]; exact w.2.2.2.1.symm
    · rw [f5]; exact c.2.2.1.2.2
    · obtain ⟨x1, x2, x3, x4, x5, x6, x7, x8, x9⟩ := c.2.2.2.1 b hb
      obtain ⟨y1, y2, y3⟩ := a6 b hb
      have oS : gI g1 (a0 + 43 + 2 + 5 * b) = gI g (a0 + 43 + 2 + 5 * b) := o1 _ (by omega)
      rw [Rh, R3', ob b hb]
      refine ⟨y2, ?_, ?_, ?_, ?_, ?_, ?_, ?_, ?_⟩
      · rw [y1, o1 _ (by omega)]; exact (sh.2.2.2.2.2.2.2 b (by omega)).2.2
      · rw [y3 2 (by omega) (by omega), oS]; exact x3
      · rw [y3 3 (by omega) (by omega), oS]; exact x4
      · rw [y3 4 (by omega) (by omega), oS]; exact x5
      · rw [y3 5 (by omega) (by omega), oS]; exact x6
      · rw [y3 7 (by omega) (by omega), oS]; exact x7
      · rw [y3 8 (by omega) (by omega), oS]; exact x8
      · rw [y3 9 (by omega) (by omega), oS]; exact x9
    · rw [ob b hb, (a6 b hb).2.2 6 (by omega) (by omega), o1 _ (by omega)]; exact c.2.2.2.2.1 b hb
    · unfold R5; rw [f6]; exact c.2.2.2.2.2.1
    · rw [oh _ (by omega), c7 i hi k hk, o12 _ (by omega) (fun _ _ => by omega)]; exact c.2.2.2.2.2.2 i hi k hk
end
section
/-! PURE: kept and brought back -/
theorem MX.offR {M n1 n2 n3 n4 a k : Nat} {g : g_H} {s : Sg} {v : Option Nat} (m : MX M g s n1 n2 n3 n4) (h : M + 8 < a) : MX M (gPR g a k v) s n1 n2 n3 n4 :=
  m.ag fun b h1 h2 => ⟨rfl, gU_o (by omega), rfl⟩
theorem Fmm.upR {M a k : Nat} {g h : g_H} {v : Option Nat} (f : Fmm M g h) (ha : gZ g ≤ a) : Fmm M g (gPR h a k v) :=
  ⟨f.1, fun b hb => ⟨(f.2 b hb).1, (f.2 b hb).2.1, (show gR (gPR h a k v) b = gR h b from gU_o (by omega)).trans (f.2 b hb).2.2.1, (f.2 b hb).2.2.2⟩⟩
theorem gN_o {g : g_H} {kd n a : Nat} {r : Nat → Int32} (h : a ≠ gZ g) : gS (gN g kd n r) a = gS g a ∧ gI (gN g kd n r) a = gI g a ∧ gR (gN g kd n r) a = gR g a := ⟨if_neg h, gW_o h, gW_o h⟩
/-- what is kept at z -/
def KP (z : Nat) (g : g_H) (w4 w6 w7 : Nat → Int32) : Prop := gS g z = (14, 3) ∧ gR g z 0 = some (z + 1) ∧ gR g z 1 = some (z + 2) ∧ gR g z 2 = some (z + 3) ∧ gS g (z + 1) = (11, 48) ∧ gS g (z + 2) = (11, 100) ∧ gS g (z + 3) = (11, 1) ∧ gI g (z + 1) = w4 ∧ gI g (z + 2) = w6 ∧ gI g (z + 3) = w7 ∧ z + 4 ≤ gZ g
theorem KP.mm {M z : Nat} {g h : g_H} {w4 w6 w7 : Nat → Int32} (k : KP z g w4 w6 w7) (f : Fmm M g h) (hz : M + 8 < z) : KP z h w4 w6 w7 := by
  obtain ⟨k1, k2, k3, k4, k5, k6, k7, k8, k9, k10, k11⟩ := k
  obtain ⟨f0, f1⟩ := f
  obtain ⟨a1, a2, a3, a4⟩ := f1 z (by omega)
  obtain ⟨b1, b2, b3, b4⟩ := f1 (z + 1) (by omega)
  obtain ⟨c1, c2, c3, c4⟩ := f1 (z + 2) (by omega)
  obtain ⟨d1, d2, d3, d4⟩ := f1 (z + 3) (by omega)
  exact ⟨a1.trans k1, by rw [a3]; exact k2, by rw [a3]; exact k3, by rw [a3]; exact k4, b1.trans k5, c1.trans k6, d1.trans k7, (b4 (by omega)).trans k8, (c4 (by omega)).trans k9, (d4 (by omega)).trans k10, by omega⟩
theorem m_kept {M n1 n2 n3 n4 : Nat} {g : g_H} {s : Sg} (m : MX M g s n1 n2 n3 n4) (hz : M + 8 < gZ g) : ∃ g', f7_kept g M = some (gZ g, g') ∧ Fmm M g g' ∧ MX M g' s n1 n2 n3 n4 ∧ KP (gZ g) g' (gI g (M + 4)) (gI g (M + 6)) (gI g (M + 7)) ∧ gI g' M = gI g M := by
  obtain ⟨z, hzz⟩ : ∃ z, z = gZ g := ⟨_, rfl⟩
  rw [← hzz] at hz ⊢
  obtain ⟨G1, hG1⟩ : ∃ G, G = gN g 14 3 (fun _ => 0) := ⟨_, rfl⟩
  have z1 : gZ G1 = z + 1 := by rw [hG1, hzz]; rfl
  have m1 : MX M G1 s n1 n2 n3 n4 := by rw [hG1]; exact m.gN (by omega)
  have o1 : ∀ a, a ≠ z → gS G1 a = gS g a ∧ gI G1 a = gI g a ∧ gR G1 a = gR g a := fun a ha => by rw [hG1]; exact gN_o (by omega)
  have s1 : gS G1 z = (14, 3) := by rw [hG1, hzz]; exact gS_gN rfl
  obtain ⟨G2, hG2⟩ : ∃ G, G = gN G1 11 48 (gI G1 (M + 4)) := ⟨_, rfl⟩
  have z2 : gZ G2 = z + 2 := by rw [hG2]; show gZ G1 + 1 = _; omega
  have m2 : MX M G2 s n1 n2 n3 n4 := by rw [hG2]; exact m1.gN (by omega)
  have o2 : ∀ a, a ≠ z + 1 → gS G2 a = gS G1 a ∧ gI G2 a = gI G1 a ∧ gR G2 a = gR G1 a := fun a ha => by rw [hG2]; exact gN_o (by omega)
  have s2 : gS G2 (z + 1) = (11, 48) := by rw [hG2]; exact gS_gN z1
  have i2 : gI G2 (z + 1) = gI G1 (M + 4) := by rw [hG2]; exact gI_gN z1
  obtain ⟨P2, hP2⟩ : ∃ G, G = gPR G2 z 0 (some (z + 1)) := ⟨_, rfl⟩
  have mp2 : MX M P2 s n1 n2 n3 n4 := by rw [hP2]; exact m2.offR (by omega)
  have zp2 : gZ P2 = z + 2 := by rw [hP2]; exact z2
  have sp2 : gS P2 = gS G2 := by rw [hP2]; rfl
  have ip2 : gI P2 = gI G2 := by rw [hP2]; rfl
  obtain ⟨G3, hG3⟩ : ∃ G, G = gN P2 11 100 (gI P2 (M + 6)) := ⟨_, rfl⟩
  have z3 : gZ G3 = z + 3 := by rw [hG3]; show gZ P2 + 1 = _; omega
  have m3 : MX M G3 s n1 n2 n3 n4 := by rw [hG3]; exact mp2.gN (by omega)
  have o3 : ∀ a, a ≠ z + 2 → gS G3 a = gS P2 a ∧ gI G3 a = gI P2 a ∧ gR G3 a = gR P2 a := fun a ha => by rw [hG3]; exact gN_o (by omega)
  have s3 : gS G3 (z + 2) = (11, 100) := by rw [hG3]; exact gS_gN zp2
  have i3 : gI G3 (z + 2) = gI P2 (M + 6) := by rw [hG3]; exact gI_gN zp2
  obtain ⟨P3, hP3⟩ : ∃ G, G = gPR G3 z 1 (some (z + 2)) := ⟨_, rfl⟩
  have mp3 : MX M P3 s n1 n2 n3 n4 := by rw [hP3]; exact m3.offR (by omega)
  have zp3 : gZ P3 = z + 3 := by rw [hP3]; exact z3
  have sp3 : gS P3 = gS G3 := by rw [hP3]; rfl
  have ip3 : gI P3 = gI G3 := by rw [hP3]; rfl
  obtain ⟨G4, hG4⟩ : ∃ G, G = gN P3 11 1 (gI P3 (M + 7)) := ⟨_, rfl⟩
  have z4 : gZ G4 = z + 4 := by rw [hG4]; show gZ P3 + 1 = _; omega
  have m4 : MX M G4 s n1 n2 n3 n4 := by rw [hG4]; exact mp3.gN (by omega)
  have o4 : ∀ a, a ≠ z + 3 → gS G4 a = gS P3 a ∧ gI G4 a = gI P3 a ∧ gR G4 a = gR P3 a := fun a ha => by rw [hG4]; exact gN_o (by omega)
  have s4 : gS G4 (z + 3) = (11, 1) := by rw [hG4]; exact gS_gN zp3
  have i4 : gI G4 (z + 3) = gI P3 (M + 7) := by rw [hG4]; exact gI_gN zp3
  obtain ⟨P4, hP4⟩ : ∃ G, G = gPR G4 z 2 (some (z + 3)) := ⟨_, rfl⟩
  have mp4 : MX M P4 s n1 n2 n3 n4 := by rw [hP4]; exact m4.offR (by omega)
  have iM : ∀ a, a < z → gI P4 a = gI g a := fun a ha => by
    rw [hP4, show gI (gPR G4 z 2 (some (z + 3))) = gI G4 from rfl, (o4 a (by omega)).2.1, ip3, (o3 a (by omega)).2.1, ip2, (o2 a (by omega)).2.1, (o1 a (by omega)).2.1]
  have sz2 : gS G2 z = (14, 3) := by rw [(o2 z (by omega)).1, s1]
  have sz3 : gS G3 z = (14, 3) := by rw [(o3 z (by omega)).1, sp2, sz2]
  have sz4 : gS G4 z = (14, 3) := by rw [(o4 z (by omega)).1, sp3, sz3]
  refine ⟨P4, ?_, ?_, mp4, ?_, iM M (by omega)⟩
  · unfold f7_kept gNw
    rw [← hzz, ← hG1]
    dsimp only
    rw [if_pos m1.1.1, m1.1.2.1.2.2.2.1, ob_some, m1.1.2.2.2.2.2.1, if_pos rfl, if_pos (by decide), z1, ← hG2, sz2, if_pos rfl, if_pos (by decide), if_pos m2.1.1]
    rw [show Int32.toNatClampNeg (0 : Int32) = 0 from rfl, ← hP2, mp2.1.2.1.2.2.2.2.2.1, ob_some, m2.1.2.2.2.2.2.2.2.1, if_pos rfl, if_pos (by decide), zp2, sp2, m2.1.2.2.2.2.2.2.2.1]
    dsimp only
    rw [← hG3, sz3, if_pos rfl, if_pos (by decide), if_pos m3.1.1]
    rw [show Int32.toNatClampNeg (1 : Int32) = 1 from rfl, ← hP3, mp3.1.2.1.2.2.2.2.2.2.1, ob_some, m3.1.2.2.2.2.2.2.2.2.1, if_pos rfl, if_pos (by decide), zp3, sp3, m3.1.2.2.2.2.2.2.2.2.1]
    dsimp only
    rw [← hG4, sz4, if_pos rfl, if_pos (by decide), show Int32.toNatClampNeg (2 : Int32) = 2 from rfl, ← hP4]
  · rw [hP4]
    refine Fmm.upR ?_ (by omega)
    rw [hG4]
    refine Fmm.tr ?_ Fmm.gN
    rw [hP3]
    refine Fmm.upR ?_ (by omega)
    rw [hG3]
    refine Fmm.tr ?_ Fmm.gN
    rw [hP2]
    refine Fmm.upR ?_ (by omega)
    rw [hG2]
    refine Fmm.tr ?_ Fmm.gN
    rw [hG1]
    exact Fmm.gN
  · have r4 : gR P4 z = fun j => if j = 2 then some (z + 3) else if j = 1 then some (z + 2) else if j = 0 then some (z + 1) else gR G1 z j := by
      funext j
      rw [hP4, gR_PR, if_pos rfl, (o4 z (by omega)).2.2, hP3, gR_PR, if_pos rfl, (o3 z (by omega)).2.2, hP2, gR_PR, if_pos rfl, (o2 z (by omega)).2.2]
    have S4 : gS P4 = gS G4 := by rw [hP4]; rfl
    have I4 : gI P4 = gI G4 := by rw [hP4]; rfl
    refine ⟨by rw [S4]; exact sz4, by rw [r4]; rfl, by rw [r4]; rfl, by rw [r4]; rfl, ?_, ?_, by rw [S4]; exact s4, ?_, ?_, ?_, by rw [hP4]; exact Nat.le_of_eq z4.symm⟩
    · rw [S4, (o4 _ (by omega)).1, sp3, (o3 _ (by omega)).1, sp2, s2]
    · rw [S4, (o4 _ (by omega)).1, sp3, s3]
    · rw [I4, (o4 _ (by omega)).2.1, ip3, (o3 _ (by omega)).2.1, ip2, i2, (o1 _ (by omega)).2.1]
    · rw [I4, (o4 _ (by omega)).2.1, ip3, i3, ip2, (o2 _ (by omega)).2.1, (o1 _ (by omega)).2.1]
    · rw [I4, i4, ip3, (o3 _ (by omega)).2.1, ip2, (o2 _ (by omega)).2.1, (o1 _ (by omega)).2.1]
end
section
/-! PURE: brought back; comes -/
theorem cpy_in {f g : Nat → Int32} {n i : Nat} (h : i < n) : va_cpy f g 0 0 n i = f i := by
  unfold va_cpy
  rw [if_pos (by omega), show 0 + (i - 0) = i by omega]
theorem m_bring {M n1 n2 n3 n4 z : Nat} {h : g_H} {t : Sg} {w4 w6 w7 : Nat → Int32} (m : MX M h t n1 n2 n3 n4) (kp : KP z h w4 w6 w7) (hz : M + 8 < z) :
    ∃ h', f7_bringBack h M z = some h' ∧ Fm M h h' ∧ (∀ i, i < 48 → gI h' (M + 4) i = w4 i) ∧ (∀ i, i < 100 → gI h' (M + 6) i = w6 i) ∧ gI h' (M + 7) 0 = w7 0 := by
  obtain ⟨k1, k2, k3, k4, k5, k6, k7, k8, k9, k10, k11⟩ := kp
  obtain ⟨A, hA⟩ : ∃ A, A = gPW h (M + 4) (va_cpy w4 (gI h (M + 4)) 0 0 48) := ⟨_, rfl⟩
  obtain ⟨B, hB⟩ : ∃ B, B = gPW A (M + 6) (va_cpy w6 (gI A (M + 6)) 0 0 100) := ⟨_, rfl⟩
  have SA : gS A = gS h := by rw [hA]; rfl
  have RA : gR A = gR h := by rw [hA]; rfl
  have SB : gS B = gS h := by rw [hB]; exact SA
  have RB : gR B = gR h := by rw [hB]; exact RA
  have IA : ∀ a, a ≠ M + 4 → gI A a = gI h a := fun a ha => by rw [hA]; exact gW_o ha
  have IB : ∀ a, a ≠ M + 6 → gI B a = gI A a := fun a ha => by rw [hB]; exact gW_o ha
  have c48 : ¬ (0 : Int32) < 0 ∧ ¬ (0 : Int32) < 0 ∧ ¬ nI 48 < 0 ∧ 0 + Int32.toNatClampNeg (nI 48) ≤ 48 ∧ 0 + Int32.toNatClampNeg (nI 48) ≤ 48 := by decide
  have c100 : ¬ (0 : Int32) < 0 ∧ ¬ (0 : Int32) < 0 ∧ ¬ nI 100 < 0 ∧ 0 + Int32.toNatClampNeg (nI 100) ≤ 100 ∧ 0 + Int32.toNatClampNeg (nI 100) ≤ 100 := by decide
  refine ⟨gPI B (M + 7) 0 (w7 0), ?_, ?_, fun i hi => ?_, fun i hi => ?_, ?_⟩
  · unfold f7_bringBack gLt
    rw [k1, if_pos rfl, if_pos (by decide), show Int32.toNatClampNeg (0 : Int32) = 0 from rfl, k2, ob_some, if_pos m.1.1, m.1.2.1.2.2.2.1, ob_some, ob_some, m.1.2.2.2.2.2.1, if_pos rfl, k5, if_pos rfl, if_pos rfl, if_pos c48, if_pos (by decide)]
    rw [show Int32.toNatClampNeg (nI 48) = 48 from rfl, k8, ← hA, show Int32.toNatClampNeg (1 : Int32) = 1 from rfl, RA, k3, ob_some, m.1.2.1.2.2.2.2.2.1, ob_some, ob_some, m.1.2.2.2.2.2.2.2.1, if_pos rfl, k6, if_pos rfl, if_pos rfl, SA, m.1.2.2.2.2.2.2.2.1, if_pos c100]
    dsimp only
    rw [show Int32.toNatClampNeg (nI 100) = 100 from rfl, show gI A (z + 2) = w6 by rw [IA _ (by omega)]; exact k9, ← hB, RB, m.1.2.1.2.2.2.2.2.2.1, ob_some, SB, k1, if_pos (by decide), show Int32.toNatClampNeg (2 : Int32) = 2 from rfl, k4, ob_some, k7, if_pos rfl, if_pos (by decide), m.1.2.2.2.2.2.2.2.2.1, if_pos rfl]
    dsimp only
    rw [if_pos (by decide), show gI B (z + 3) = w7 by rw [IB _ (by omega), IA _ (by omega)]; exact k10]
  · refine ⟨SB, RB, by rw [hB, hA]; rfl, by rw [hB, hA]; rfl, fun a ha => ?_⟩
    unfold chm at ha
    rw [show gI (gPI B (M + 7) 0 (w7 0)) a = gI B a from gU_o (by omega), IB a (by omega), IA a (by omega)]
  · rw [gI_PI, if_neg (by omega), IB _ (by omega), hA, gI_PW, if_pos rfl, cpy_in hi]
  · rw [gI_PI, if_neg (by omega), hB, gI_PW, if_pos rfl, cpy_in hi]
  · rw [gI_PI, if_pos rfl, if_pos rfl]
theorem Same.sym {s t : Sg} (h : Same s t) : Same t s := ⟨fun k hk => (h.1 k hk).symm, h.2.1.symm, h.2.2.1.symm, h.2.2.2.1.symm, h.2.2.2.2.1.symm, fun b => (h.2.2.2.2.2 b).symm⟩
/-- back to where it was -/
theorem m_back {M n1 n2 n3 n4 z : Nat} {g h : g_H} {s t u : Sg} (m0 : MX M g s n1 n2 n3 n4) (m : MX M h t n1 n2 n3 n4) (kp : KP z h (gI g (M + 4)) (gI g (M + 6)) (gI g (M + 7))) (hz : M + 8 < z) (hs : Same u t) (h6 : n3 ≤ 6) (h20 : n4 ≤ 20) (e3 : u 3 = s 3) (e5 : u 5 = s 5) (e0 : u 0 0 0 = s 0 0 0) :
    ∃ h', f7_bringBack h M z = some h' ∧ Fm M h h' ∧ MX M h' u n1 n2 n3 n4 := by
  obtain ⟨h', x1, x2, x3, x4, x5⟩ := m_bring m kp hz
  refine ⟨h', x1, x2, m.fm x2 hs.sym ⟨fun b hb k hk => ?_, fun i hi k hk => ?_, ?_⟩⟩
  · rw [x3 _ (by omega), e3]; exact m0.2.2.2.1 b hb k hk
  · rw [x4 _ (by omega), e5]; exact m0.2.2.2.2.1 i hi k hk
  · rw [x5, e0]; exact m0.2.2.2.2.2
/-- how many quarters until a letter has come, at most n, from quarter k on -/
theorem p_comesLoop {a0 n1 n2 n3 n4 q i : Nat} {s0 : Sg} (hi : i < n4) (hq : q + 241 < 2 ^ 26) :
    ∀ m k fuel : Nat, ∀ g : g_H, k + m = 241 → m < fuel → ClI a0 g s0 n1 n2 n3 n4 q → CI a0 (a0 + 96) g (quF s0 k) n1 n2 n3 n4 (q + k) →
    ∃ v g', f6_comes_28 fuel g a0 (a0 + 96 + 33 + i) (nI k) = some ((0, v), g') ∧ Fc a0 g g' ∧ ClI a0 g' s0 n1 n2 n3 n4 q ∧ ((v = -1 ∧ ∀ j, k ≤ j → j ≤ 240 → quF s0 j 5 i 3 = -1) ∨ ∃ j, k ≤ j ∧ j ≤ 240 ∧ v = nI j ∧ quF s0 j 5 i 3 ≠ -1 ∧ ∀ l, k ≤ l → l < j → quF s0 l 5 i 3 = -1) := by
  intro m
  induction m with
  | zero =>
    intro k fuel g hk hf I c
    obtain ⟨fu, rfl⟩ : ∃ fu, fuel = fu + 1 := ⟨fuel - 1, by omega⟩
    have : k = 241 := by omega
    subst this
    refine ⟨-1, g, ?_, Fc.rf, I, Or.inl ⟨rfl, fun j h1 h2 => absurd h1 (by omega)⟩⟩
    show f6_comes_28b (f6_comes_28 fu) g a0 (a0 + 96 + 33 + i) (nI 241) = _
    unfold f6_comes_28b
    rw [if_pos (by decide)]
  | succ m ih =>
    intro k fuel g hk hf I c
    obtain ⟨fu, rfl⟩ : ∃ fu, fuel = fu + 1 := ⟨fuel - 1, by omega⟩
    obtain ⟨l1, l2, l3⟩ := clL c hi
    obtain ⟨s1, s2, s3, s4, -⟩ := I.sh
    have hlt : ¬ (240 : Int32) < nI k := nI_nlt (a := 240) (by omega) (by omega)
    have v3 : gI g (a0 + 96 + 33 + i) 3 = quF s0 k 5 i 3 := l3 3 (by omega)
    show ∃ v g', f6_comes_28b (f6_comes_28 fu) g a0 (a0 + 96 + 33 + i) (nI k) = some ((0, v), g') ∧ _
    unfold f6_comes_28b f3_hasArrived
    rw [if_neg hlt, if_pos l2, if_pos l2, v3]
    by_cases a : quF s0 k 5 i 3 = -1
    · rw [if_pos a, gB2_some, if_pos rfl, if_pos s1, s4, ob_some, if_pos c.kF]
      obtain ⟨g1, y1, y2, y3⟩ := p_quarter c (by omega)
      have f1 : Fc a0 g g1 := y2.fc (Or.inr rfl)
      have I1 : ClI a0 g1 s0 n1 n2 n3 n4 q := by
        have ag : Ag a0 (a0 + 95) g g1 := fun a h1 h2 => ⟨by rw [y2.1], by rw [y2.2.1], y2.2.2.2.2.2 a (by
          intro hc
          rcases hc with h | ⟨b, hb, h⟩ | ⟨i, hi, h⟩ <;> omega)⟩
        obtain ⟨w1, w2, w3, w4⟩ := I
        refine ⟨w1.ag ag (by omega) (by omega), ?_, by rw [(ag (a0 + 43) (by omega) (by omega)).2.2]; exact w3, w4⟩
        obtain ⟨t1, t2, t3, t4, t5, t6, t7, t8⟩ := w2
        refine ⟨by rw [y2.1]; exact t1, by rw [y2.2.1]; exact t2, by rw [y2.2.1]; exact t3, by rw [y2.2.1]; exact t4, by rw [y2.2.1]; exact t5, ?_, ?_, fun b hb => ?_⟩
        · unfold FL; rw [y2.1, y2.2.1]; exact t6
        · unfold RtL; rw [y2.1, y2.2.1]; exact t7
        · rw [y2.2.1, y2.2.2.2.2.1.2, y2.2.2.2.2.1.2]; exact t8 b hb
      obtain ⟨v, g2, z1, z2, z3, z4⟩ := ih (k + 1) fu g1 (by omega) (by omega) I1 y3
      refine ⟨v, g2, ?_, f1.tr z2, z3, ?_⟩
      · rw [y1, ob_some, nI_1]; exact z1
      · rcases z4 with ⟨z5, z6⟩ | ⟨j, j1, j2, j3, j4, j5⟩
        · refine Or.inl ⟨z5, fun j h1 h2 => ?_⟩
          by_cases e : j = k
          · rw [e]; exact a
          · exact z6 j (by omega) h2
        · refine Or.inr ⟨j, by omega, j2, j3, j4, fun l h1 h2 => ?_⟩
          by_cases e : l = k
          · rw [e]; exact a
          · exact j5 l (by omega) h2
    · rw [if_neg a, gB2_some, if_neg n10]
      exact ⟨nI k, g, rfl, Fc.rf, I, Or.inr ⟨k, Nat.le_refl _, by omega, rfl, a, fun l h1 h2 => absurd h1 (by omega)⟩⟩
end
section
/-! PURE: comes as a call -/
def cmP (s0 : Sg) (i k : Nat) (v : Int32) : Prop := (v = -1 ∧ ∀ j, k ≤ j → j ≤ 240 → quF s0 j 5 i 3 = -1) ∨ ∃ j, k ≤ j ∧ j ≤ 240 ∧ v = nI j ∧ quF s0 j 5 i 3 ≠ -1 ∧ ∀ l, k ≤ l → l < j → quF s0 l 5 i 3 = -1
theorem cmP.uni {s0 : Sg} {i k : Nat} {v w : Int32} (h : cmP s0 i k v) (h' : cmP s0 i k w) : w = v := by
  rcases h with ⟨h1, h2⟩ | ⟨j, h1, h2, h3, h4, h5⟩
  · rcases h' with ⟨g1, g2⟩ | ⟨j', g1, g2, g3, g4, g5⟩
    · rw [h1, g1]
    · exact absurd (h2 j' g1 g2) g4
  · rcases h' with ⟨g1, g2⟩ | ⟨j', g1, g2, g3, g4, g5⟩
    · exact absurd (g2 j h1 h2) h4
    · rcases Nat.lt_trichotomy j j' with k | k | k
      · exact absurd (g5 j h1 k) h4
      · rw [h3, g3, k]
      · exact absurd (h5 j' g1 k) g4
theorem m_comesLoop {M a0 F n1 n2 n3 n4 q i z : Nat} {g0 gs : g_H} {s0 : Sg} (c0 : CI a0 F g0 s0 n1 n2 n3 n4 q) (ms : MX M gs s0 n1 n2 n3 n4) (hi : i < n4) (hq : q + 241 < 2 ^ 26) (hz : M + 8 < z) :
    ∀ m k fuel : Nat, ∀ h : g_H, k + m = 240 → m < fuel → MX M h (quF s0 k) n1 n2 n3 n4 → KP z h (gI gs (M + 4)) (gI gs (M + 6)) (gI gs (M + 7)) →
    ∃ v h', f7_comes_26 fuel h M (nI i) z (nI k) = some (v, h') ∧ Fmm M h h' ∧ MX M h' s0 n1 n2 n3 n4 ∧ cmP s0 i k v ∧ gI h' M = gI h M := by
  have h6 := c0.1.2.2.1
  have h20 := c0.1.2.2.2.2.1
  -- the end, whatever is told
  have fin : ∀ (k : Nat) (h : g_H), k ≤ 240 → MX M h (quF s0 k) n1 n2 n3 n4 → KP z h (gI gs (M + 4)) (gI gs (M + 6)) (gI gs (M + 7)) → (quF s0 k 5 i 3 ≠ -1 ∨ k = 240) → ∃ v h', f7_comes_54 h M (nI i) z (nI k) = some (v, h') ∧ Fmm M h h' ∧ MX M h' s0 n1 n2 n3 n4 ∧ cmP s0 i k v ∧ gI h' M = gI h M := by
    intro k h hk m kp ha
    obtain ⟨h', b1, b2, b3⟩ := m_back ms m kp hz (quF_same c0 k (by omega)) h6 h20 rfl rfl rfl
    have bM : gI h' M = gI h M := b2.2.2.2.2 M (by unfold chm; omega)
    unfold f7_comes_54 f7_comes_66
    rw [if_pos m.1.1, m_le (k := 3) (y := (3 : Int32)) m h20 hi (by omega) rfl rfl, gB2_some, b1]
    by_cases a : quF s0 k 5 i 3 = -1
    · have hk2 : k = 240 := ha.resolve_left fun w => w a
      rw [if_pos a, if_pos m.1.1, ob_some]
      refine ⟨-1, h', rfl, b2.mm, b3, Or.inl ⟨rfl, fun j h1 h2 => ?_⟩, bM⟩
      rw [show j = k by omega]; exact a
    · rw [if_neg a, if_pos m.1.1, ob_some]
      exact ⟨nI k, h', rfl, b2.mm, b3, Or.inr ⟨k, Nat.le_refl _, hk, rfl, a, fun l h1 h2 => absurd h1 (by omega)⟩, bM⟩
  intro m
  induction m with
  | zero =>
    intro k fuel h hk hf mx kp
    obtain ⟨fu, rfl⟩ : ∃ fu, fuel = fu + 1 := ⟨fuel - 1, by omega⟩
    have : k = 240 := by omega
    subst this
    show ∃ v h', f7_comes_26b (f7_comes_26 fu) h M (nI i) z (nI 240) = some (v, h') ∧ _
    unfold f7_comes_26b
    rw [if_pos (by decide)]
    exact fin 240 h (by omega) mx kp (Or.inr rfl)
  | succ m ih =>
    intro k fuel h hk hf mx kp
    obtain ⟨fu, rfl⟩ : ∃ fu, fuel = fu + 1 := ⟨fuel - 1, by omega⟩
    have hlt : ¬ (240 : Int32) ≤ nI k := nI_ge (b := 240) (by omega) (by omega)
    show ∃ v h', f7_comes_26b (f7_comes_26 fu) h M (nI i) z (nI k) = some (v, h') ∧ _
    unfold f7_comes_26b
    rw [if_neg hlt, if_pos mx.1.1, m_le (k := 3) (y := (3 : Int32)) mx h20 hi (by omega) rfl rfl, gB2_some]
    by_cases a : quF s0 k 5 i 3 = -1
    · obtain ⟨gk, ck⟩ := c_qus c0 k (by omega)
      obtain ⟨h1, y1, y2, y3⟩ := m_quarterOn ck mx
      obtain ⟨v, h2, x1, x2, x3, x4, x5⟩ := ih (k + 1) fu h1 (by omega) (by omega) y3 (kp.mm y2.mm hz)
      refine ⟨v, h2, ?_, y2.mm.tr x2, x3, ?_, x5.trans (y2.2.2.2.2 M (by unfold chm; omega))⟩
      · rw [if_pos a, if_pos mx.1.1, y1, gB2_some, nI_1]
        exact x1
      · rcases x4 with ⟨z5, z6⟩ | ⟨j, j1, j2, j3, j4, j5⟩
        · refine Or.inl ⟨z5, fun j h1 h2 => ?_⟩
          by_cases e : j = k
          · rw [e]; exact a
          · exact z6 j (by omega) h2
        · refine Or.inr ⟨j, by omega, j2, j3, j4, fun l h1 h2 => ?_⟩
          by_cases e : l = k
          · rw [e]; exact a
          · exact j5 l (by omega) h2
    · rw [if_neg a]
      exact fin k h (by omega) mx kp (Or.inl a)
theorem o_comes {a0 n1 n2 n3 n4 q : Nat} {g : g_H} {s : Sg} (I : ClI a0 g s n1 n2 n3 n4 q) (hq : q + 241 < 2 ^ 26) (x : Int32) : OpR a0 g s n1 n2 n3 n4 q (f6_comes g a0 x) (fun h => f7_comes h (a0 + 153) x) c1 := by
  obtain ⟨s1, s2, s3, s4, s5, s6, s7, s8, s9, s10, s11, s12, s13, s14, s15⟩ := I.sh
  have e4 := I.1.1.2.2.2.1
  by_cases hx : inR (nI n4) x
  · obtain ⟨i, hi, rfl⟩ := inR_nat (by omega) hx
    have ci : Int32.toNatClampNeg (nI i) = i := cl_nI (by omega)
    obtain ⟨g1, p1, p2, p3, p4, p5⟩ := p_copy I
    have fa := p4.2.1.2.2.1
    obtain ⟨t1, t2, t3, t4, t5, t6, t7, t8⟩ := fa
    obtain ⟨u1, u2, u3, u4, -⟩ := p3.sh
    obtain ⟨v, g2, r1, r2, r3, r4⟩ := p_comesLoop hi hq 241 0 300 g1 (by omega) (by omega) p3 p4
    refine ⟨0, v, g2, s, n1, n2, n3, n4, q, ?_, by omega, p2.tr r2, r3, by omega, fun h m hZ => ?_⟩
    · unfold f6_comes
      rw [if_pos s1, p_checkLetter I, gB2_some, if_pos hx, if_pos n0e, if_pos s1, s4, ob_some, s3, ob_some, if_pos I.2.1.2.2.2.2.2.1.1, p1, ob_some, if_pos u1, u4, ob_some, if_pos t1, t4, ob_some, t6, if_pos rfl, if_pos (ixOk (by omega) (by omega)), ci, (t8 i (by omega)).1, ob_some]
      exact r1
    · have m' := m.thr (v := 0)
      obtain ⟨h1, k1, k2, k3, k4, k5⟩ := m_kept m' (show a0 + 153 + 8 < gZ (gPI h (a0 + 153) 0 0) from by show _ < gZ h; omega)
      obtain ⟨v', h2, l1, l2, l3, l4, l5⟩ := m_comesLoop (z := gZ (gPI h (a0 + 153) 0 0)) I.1 m' hi hq (show a0 + 153 + 8 < gZ (gPI h (a0 + 153) 0 0) from by show _ < gZ h; omega) 240 0 300 h1 (by omega) (by omega) k3 k4
      refine ⟨v', h2, ?_, ((Fmm.put (a := a0 + 153) ⟨by omega, by omega⟩).tr k2).tr l2, l3, ?_, fun _ => ?_⟩
      · show f7_comes h (a0 + 153) (nI i) = _
        unfold f7_comes
        rw [if_pos m.1.1, m_isLetter m' e4 s15, gB2_some, if_pos hx, if_neg n10, if_pos m'.1.1, k1, gB2_some]
        exact l1
      · rw [l5, k5]
        simp [gI_PI]
        rfl
      · exact cmP.uni (show cmP s i 0 v from r4) l4
  · refine OpR.thr I 1 (by omega) (by omega) ?_ fun h m => ?_
    · unfold f6_comes
      rw [if_pos s1, p_checkLetter I, gB2_some, if_neg hx, if_neg n1e]
    · have m' := m.thr (v := 0)
      unfold f7_comes
      rw [if_pos m.1.1, m_isLetter m' e4 s15, gB2_some, if_neg hx, if_pos rfl, if_pos m'.1.1, m_fail m'.1.1, gB2_some]
      rfl
end
section
/-! PURE: advise, the class -/
theorem ClI.ax {a0 n1 n2 n3 n4 q : Nat} {g h : g_H} {s : Sg} (I : ClI a0 g s n1 n2 n3 n4 q) (hS : gS h = gS g) (hR : gR h = gR g) (hI : ∀ a, a0 ≤ a → a ≤ a0 + 95 → gI h a = gI g a) (h0 : ∀ a, gI h a 0 = gI g a 0) : ClI a0 h s n1 n2 n3 n4 q := by
  have ag : Ag a0 (a0 + 95) g h := fun a h1 h2 => ⟨by rw [hS], by rw [hR], hI a h1 h2⟩
  obtain ⟨w1, w2, w3, w4⟩ := I
  refine ⟨w1.ag ag (by omega) (by omega), ?_, by rw [(ag (a0 + 43) (by omega) (by omega)).2.2]; exact w3, w4⟩
  obtain ⟨t1, t2, t3, t4, t5, t6, t7, t8⟩ := w2
  refine ⟨by rw [hS]; exact t1, by rw [hR]; exact t2, by rw [hR]; exact t3, by rw [hR]; exact t4, by rw [hR]; exact t5, ?_, ?_, fun b hb => ?_⟩
  · unfold FL; rw [hS, hR]; exact t6
  · unfold RtL; rw [hS, hR]; exact t7
  · rw [hR, h0, h0]; exact t8 b hb
theorem ClI.ah {a0 n1 n2 n3 n4 q : Nat} {g h : g_H} {s : Sg} (I : ClI a0 g s n1 n2 n3 n4 q) (f : Fr (a0 + 96) g h) : ClI a0 h s n1 n2 n3 n4 q :=
  I.ax f.1 f.2.1 (fun a h1 h2 => f.2.2.2.2.2 a (by
    intro hc
    rcases hc with h | ⟨b, hb, h⟩ | ⟨i, hi, h⟩ <;> omega)) f.2.2.2.2.1.2
theorem WF.gt {s : Sg} {n1 n2 n3 n4 q l : Nat} (w : WF s n1 n2 n3 n4 q) : WF (gtS s l 0 24) n1 n2 n3 n4 q := by
  obtain ⟨w1, w2, w3, w4, w5, w6, w7, w8, w9⟩ := w
  have T : ∀ k, k ≠ 2 → gtS s l 0 24 k = s k := fun k hk => gt_T hk
  refine ⟨gt_WT (f := 0) (t := 24) w1 (by omega) (by omega) (by omega), by rw [T 0 (by omega)]; exact w2, w3, by rw [T 0 (by omega)]; exact w4, w5, by rw [T 0 (by omega)]; exact w6, w7, fun b hb => ⟨?_, by rw [car_5 (T 5 (by omega)) (T 0 (by omega))]; exact (w8 b hb).2⟩, fun i hi => by unfold WL; rw [T 5 (by omega)]; exact w9 i hi⟩
  obtain ⟨z, p, l', st, ho, e1, e2, e3, e4, e5, e6, e7, e8, e9, e10, e11, e12, e13, e14, e15⟩ := (w8 b hb).1
  refine ⟨z, p, l', st, ho, by rw [T 3 (by omega)]; exact e1, e2, e3, by rw [T 3 (by omega)]; exact e4, e5, by rw [T 3 (by omega)]; exact e6, e7, by rw [T 3 (by omega)]; exact e8, e9, by rw [T 3 (by omega)]; exact e10, e11, by rw [T 3 (by omega)]; exact e12, by rw [T 3 (by omega)]; exact e13, by rw [T 4 (by omega)]; exact e14, fun k hk => ?_⟩
  rw [T 4 (by omega), gt_sl]
  exact e15 k hk
theorem CI.gt {a0 F n1 n2 n3 n4 q l : Nat} {g : g_H} {s : Sg} (c : CI a0 F g s n1 n2 n3 n4 q) (h7 : gI g F 7 = -1) (hl : l < n2) : CI a0 F (gPI g F 7 (nI l)) (gtS s l 0 24) n1 n2 n3 n4 q := by
  obtain ⟨w, ⟨r0, r1, r2, r3, r4, r5⟩, ⟨d1, d2, d3, d4, d5⟩⟩ := c
  have hn3 := w.2.2.1
  have hn2 := w.1.2.2.2.1
  have hn4 := w.2.2.2.2.1
  have T : ∀ k, k ≠ 2 → gtS s l 0 24 k = s k := fun k hk => gt_T hk
  have o : ∀ a, a ≠ F → gI (gPI g F 7 (nI l)) a = gI g a := fun a ha => gU_o ha
  have oF : ∀ k, k ≠ 7 → gI (gPI g F 7 (nI l)) F k = gI g F k := fun k hk => by rw [gI_PI, if_pos rfl, if_neg hk]
  refine ⟨w.gt, ⟨r0, r1, r2, r3, ?_, fun b hb => ?_⟩, ⟨?_, fun b hb => ?_, fun b hb => ?_, ?_, fun i hi k hk => ?_⟩⟩
  · obtain ⟨q1, q2, q3, q4, q5⟩ := r4
    refine ⟨?_, ?_, fun x hx => ?_, fun i hi => ?_, fun x y hx hy => ?_⟩
    · rw [o _ (by omega), T 0 (by omega)]; exact q1
    · rw [o _ (by omega), T 0 (by omega)]; exact q2
    · rw [o _ (by omega), T 1 (by omega)]; exact q3 x hx
    · rw [o (a0 + 4 + i) (by omega), show gI (gPI g F 7 (nI l)) F 7 = nI l by simp [gI_PI]]
      obtain ⟨x1, x2, x3⟩ := q4 i hi
      refine ⟨fun k hk => by rw [gt_k hk]; exact x1 k hk, fun e => ?_, fun e => ?_⟩
      · have : i = l := nI_inj (by omega) (by omega) e
        rw [this, gt_3, gt_4]
        exact ⟨rfl, rfl⟩
      · have : i ≠ l := fun w => e (by rw [w])
        rw [gt_o this, gt_o this]
        exact x3 (by rw [h7]; exact nI_m1 (by omega))
    · rw [o _ (by omega), T 6 (by omega)]; exact q5 x y hx hy
  · obtain ⟨x1, x2, x3, x4⟩ := r5 b hb
    rw [T 3 (by omega), T 4 (by omega), o (a0 + 46 + 5 * b) (by omega), o (a0 + 47 + 5 * b) (by omega), o (a0 + 48 + 5 * b) (by omega), o (a0 + 49 + 5 * b) (by omega)]
    refine ⟨x1, x2, fun k hk => by rw [gt_sl]; exact x3 k hk, fun x hx => by rw [gt_tg]; exact x4 x hx⟩
  · unfold R2; rw [oF 3 (by omega), oF 4 (by omega), oF 5 (by omega), T 0 (by omega)]; exact d1
  · rw [o (F + 2 + 5 * b) (by omega), T 3 (by omega)]; exact d2 b hb
  · rw [o (F + 2 + 5 * b) (by omega), car_5 (T 5 (by omega)) (T 0 (by omega))]; exact d3 b hb
  · unfold R5; rw [oF 6 (by omega), arr_5 (T 5 (by omega)) (T 0 (by omega))]; exact d4
  · rw [o (F + 33 + i) (by omega), T 5 (by omega)]; exact d5 i hi k hk
theorem gt_arr {s : Sg} {l : Nat} {f t : Int32} : arr (gtS s l f t) = arr s := arr_5 (gt_T (by omega)) (gt_T (by omega))
/-- how many come, with the gate of a lane open always -/
def av (s : Sg) (N l : Nat) : Int32 := arr (quF (gtS s l 0 24) N) - arr s
def av0 (s : Sg) (N : Nat) : Int32 := arr (quF s N) - arr s
theorem p_ahead {a0 n1 n2 n3 n4 q N : Nat} {g : g_H} {s : Sg} {x v : Int32} (I : ClI a0 g s n1 n2 n3 n4 q) (hN : N ≤ 120) (hq : q + 120 < 2 ^ 26) (hx : (x = -1 ∧ v = av0 s N) ∨ ∃ l, l < n2 ∧ x = nI l ∧ v = av s N l) :
    ∃ g', f6_arrivalsAhead g a0 (nI N) x = some (v, g') ∧ Fc a0 g g' ∧ ClI a0 g' s n1 n2 n3 n4 q := by
  obtain ⟨s1, s2, s3, s4, s5, s6, s7, s8, s9, s10, s11, s12, s13, s14, s15⟩ := I.sh
  obtain ⟨g1, p1, p2, p3, p4, p5⟩ := p_copy I
  obtain ⟨u1, u2, u3, u4, -⟩ := p3.sh
  have fp : Fc a0 g1 (gPI g1 (a0 + 96) 7 x) := Fc.put ⟨by omega, by omega⟩
  have I2 : ClI a0 (gPI g1 (a0 + 96) 7 x) s n1 n2 n3 n4 q := p3.ax rfl rfl (fun a h1 h2 => gU_o (by omega)) (fun a => by
    rw [gI_PI]
    split
    · rw [if_neg (by omega)]
    · rfl)
  have main : ∃ g', f1_passQuarters (gPI g1 (a0 + 96) 7 x) (a0 + 96) (nI N) = some (v, g') ∧ Fr (a0 + 96) (gPI g1 (a0 + 96) 7 x) g' := by
    rcases hx with ⟨h1, h2⟩ | ⟨l, hl, h1, h2⟩
    · have e : CI a0 (a0 + 96) (gPI g1 (a0 + 96) 7 x) s n1 n2 n3 n4 q := by
        have : gI (gPI g1 (a0 + 96) 7 x) = gI g1 := by
          funext a j
          rw [gI_PI]
          by_cases c : a = a0 + 96
          · rw [if_pos c]
            by_cases d : j = 7
            · rw [if_pos d, c, d, p5, h1]
            · rw [if_neg d]
          · rw [if_neg c]
        exact p4.ag (hi := a0 + 152) (fun a _ _ => ⟨rfl, rfl, by rw [this]⟩) (by omega) (by omega)
      obtain ⟨g', x1, x2, -⟩ := p_quarters e (show N < 300 by omega) (by omega)
      exact ⟨g', by rw [x1, h2]; rfl, x2⟩
    · have e := p4.gt p5 hl
      rw [← h1] at e
      obtain ⟨g', x1, x2, -⟩ := p_quarters e (show N < 300 by omega) (by omega)
      refine ⟨g', ?_, x2⟩
      rw [x1, h2, gt_arr]
      rfl
  obtain ⟨g', x1, x2⟩ := main
  refine ⟨g', ?_, (p2.tr fp).tr (x2.fc (Or.inr rfl)), I2.ah x2⟩
  unfold f6_arrivalsAhead
  rw [if_pos s1, s4, ob_some, s3, ob_some, if_pos I.2.1.2.2.2.2.2.1.1, p1, ob_some, if_pos u1, u4, ob_some, if_pos p4.kF, gR_PI, u4, ob_some, if_pos (show (gS g1 (a0 + 96)).fst = 2 from p4.kF), x1, gB2_some]
/-- the best lane of the first i, and how many come by it -/
def bs (s : Sg) (N : Nat) : Nat → Int32 × Int32
  | 0 => (-1, av0 s N)
  | i + 1 => if (bs s N i).2 < av s N i then (nI i, av s N i) else bs s N i
theorem bs_ge {s : Sg} {N i : Nat} : av0 s N ≤ (bs s N i).2 := by
  induction i with
  | zero => exact Int32.le_refl _
  | succ i ih =>
    unfold bs
    by_cases c : (bs s N i).2 < av s N i
    · rw [if_pos c]
      exact Int32.le_of_lt (Int32.lt_of_le_of_lt ih c)
    · rw [if_neg c]; exact ih
theorem p_advLoop {a0 n1 n2 n3 n4 q N : Nat} {s : Sg} (hN : N ≤ 120) (hq : q + 120 < 2 ^ 26) :
    ∀ k i fuel : Nat, ∀ g : g_H, i + k = n2 → k < fuel → ClI a0 g s n1 n2 n3 n4 q →
    ∃ g', f6_advise_33 fuel g a0 (nI N) (bs s N i).1 (bs s N i).2 (nI i) = some ((0, (bs s N n2).1), g') ∧ Fc a0 g g' ∧ ClI a0 g' s n1 n2 n3 n4 q := by
  intro k
  induction k with
  | zero =>
    intro i fuel g h hf I
    obtain ⟨fu, rfl⟩ : ∃ fu, fuel = fu + 1 := ⟨fuel - 1, by omega⟩
    obtain ⟨s1, s2, s3, s4, s5, s6, s7, s8, s9, -⟩ := I.sh
    have : i = n2 := by omega
    subst this
    refine ⟨g, ?_, Fc.rf, I⟩
    show f6_advise_33b _ g a0 (nI N) _ _ (nI i) = _
    unfold f6_advise_33b
    rw [if_pos s1, s2, ob_some, if_pos s6, s9, if_pos (Int32.le_refl _)]
  | succ k ih =>
    intro i fuel g h hf I
    obtain ⟨fu, rfl⟩ : ∃ fu, fuel = fu + 1 := ⟨fuel - 1, by omega⟩
    obtain ⟨s1, s2, s3, s4, s5, s6, s7, s8, s9, s10, s11, s12, s13, s14, s15⟩ := I.sh
    obtain ⟨l1, l2, l3, l4, l5, l6, l7, l8⟩ := p_lane I.1 (show i < n2 by omega)
    have ci : Int32.toNatClampNeg (nI i) = i := cl_nI (by omega)
    obtain ⟨g3, g4⟩ := (I.1.2.1.2.2.2.2.1.2.2.2.1 i (by omega)).2.2 (by rw [I.2.2.1]; exact nI_m1 (by omega))
    have hbs : bs s N (i + 1) = if (bs s N i).2 < av s N i then (nI i, av s N i) else bs s N i := rfl
    show ∃ g', f6_advise_33b (f6_advise_33 fu) g a0 (nI N) _ _ (nI i) = _ ∧ _
    unfold f6_advise_33b f6_advise_82 f2_isOpenAlways
    rw [if_pos s1, s2, ob_some, if_pos s6, s9, if_neg (nI_ge (by omega) (by omega)), ob_some, if_pos s6, l1, ob_some, l2, if_pos rfl, if_pos (ixOk (by omega) (by omega)), ci, l3, ob_some, if_pos l4, if_pos l4, g3, g4, nI_1]
    have go : ∃ g', (if (gS g a0).1 = 7 then gB2 (f6_arrivalsAhead g a0 (nI N) (nI i)) fun v29 g28 => if v29 ≤ (bs s N i).2 then f6_advise_33 fu g28 a0 (nI N) (bs s N i).1 (bs s N i).2 (nI (i + 1)) else f6_advise_33 fu g28 a0 (nI N) (nI i) v29 (nI (i + 1)) else none) = some ((0, (bs s N n2).1), g') ∧ Fc a0 g g' ∧ ClI a0 g' s n1 n2 n3 n4 q := by
      obtain ⟨g1, a1, a2, a3⟩ := p_ahead I hN hq (Or.inr ⟨i, by omega, rfl, rfl⟩)
      obtain ⟨g2, b1, b2, b3⟩ := ih (i + 1) fu g1 (by omega) (by omega) a3
      rw [hbs] at b1
      refine ⟨g2, ?_, a2.tr b2, b3⟩
      rw [if_pos s1, a1, gB2_some]
      by_cases c : av s N i ≤ (bs s N i).2
      · rw [if_pos c]
        rw [if_neg (Int32.not_lt.mpr c)] at b1
        exact b1
      · rw [if_neg c]
        rw [if_pos (Int32.not_le.mp c)] at b1
        exact b1
    by_cases c1 : s 2 i 3 = 0
    · rw [if_pos c1]
      by_cases c2 : s 2 i 4 = (24 : Int32)
      · rw [if_pos c2, gB2_some, if_neg n10]
        obtain ⟨g2, b1, b2, b3⟩ := ih (i + 1) fu g (by omega) (by omega) I
        have e : gtS s i 0 24 = s := by
          unfold gtS
          rw [← c1, su_self, ← c2, su_self]
        have ea : av s N i = av0 s N := by unfold av av0; rw [e]
        rw [hbs, ea, if_neg (Int32.not_lt.mpr bs_ge)] at b1
        exact ⟨g2, b1, b2, b3⟩
      · rw [if_neg c2, gB2_some, if_pos rfl]
        exact go
    · rw [if_neg c1, gB2_some, if_pos rfl]
      exact go
end
section
/-! PURE: advise as a call -/
theorem gt_gt {s : Sg} {l : Nat} {f t : Int32} : gtS (gtS s l f t) l (s 2 l 3) (s 2 l 4) = s := by
  unfold gtS
  rw [su_comm (k := 4) (k' := 3) (Or.inr (Or.inr (by omega))), su_su, su_su, su_self, su_self]
/-- N quarters, and back -/
theorem m_advLoop {M n1 n2 n3 n4 q N z : Nat} {gs : g_H} {s t : Sg} {best most x5 x6 x7 : Int32} {K34 : g_H → Nat → Int32 → Nat → Int32 → Int32 → Int32 → Option (Int32 × g_H)} (ms : MX M gs s n1 n2 n3 n4) (ct : ∃ a0 F g0, CI a0 F g0 t n1 n2 n3 n4 q) (hq : q + 120 < 2 ^ 26) (hN : N ≤ 120) (hz : M + 8 < z) (e3 : t 3 = s 3) (e5 : t 5 = s 5) (e0 : t 0 0 0 = s 0 0 0)
    (ba : (x5 = -1 ∧ t = s) ∨ ∃ l f u, l < n2 ∧ f ≤ 23 ∧ f ≤ u ∧ u ≤ 24 ∧ x5 = nI l ∧ x6 = nI f ∧ x7 = nI u ∧ gtS t l (nI f) (nI u) = s ∧ WT t n1 n2) :
    ∀ m k fuel : Nat, ∀ h : g_H, k + m = N → m < fuel → MX M h (quF t k) n1 n2 n3 n4 → KP z h (gI gs (M + 4)) (gI gs (M + 6)) (gI gs (M + 7)) → gI h M 0 = 0 →
    ∃ h', f7_advise_103 K34 fuel h M (nI N) z best most x5 x6 x7 (arr (quF t k) - arr t) (nI k) = f7_advise_146 K34 h' M (nI N) z best most x5 (arr (quF t N) - arr t) ∧ Fmm M h h' ∧ MX M h' s n1 n2 n3 n4 ∧ KP z h' (gI gs (M + 4)) (gI gs (M + 6)) (gI gs (M + 7)) ∧ gI h' M 0 = 0 := by
  obtain ⟨a0, F, g0, c0⟩ := ct
  have h6 := c0.1.2.2.1
  have h20 := c0.1.2.2.2.2.1
  intro m
  induction m with
  | zero =>
    intro k fuel h hk hf mx kp hth
    obtain ⟨fu, rfl⟩ : ∃ fu, fuel = fu + 1 := ⟨fuel - 1, by omega⟩
    have : k = N := by omega
    subst this
    obtain ⟨h1, b1, b2, b3⟩ := m_back ms mx kp hz (quF_same c0 k (by omega)) h6 h20 e3 e5 e0
    have bM : gI h1 M 0 = 0 := by rw [b2.2.2.2.2 M (by unfold chm; omega)]; exact hth
    have kp1 := kp.mm b2.mm hz
    show ∃ h', f7_advise_103b K34 (f7_advise_103 K34 fu) h M (nI k) z best most x5 x6 x7 _ (nI k) = _ ∧ _
    unfold f7_advise_103b
    rw [if_pos (Int32.le_refl _), if_pos mx.1.1, b1, ob_some]
    rcases ba with ⟨y1, y2⟩ | ⟨l, f, u, l1, l2, l3, l4, y1, y2, y3, y4, y5⟩
    · rw [if_pos y1]
      exact ⟨h1, rfl, b2.mm, by rw [← y2]; exact b3, kp1, bM⟩
    · rw [if_neg (by rw [y1]; exact nI_m1 (by have := y5.2.2.2.1; omega)), if_pos b3.1.1, y1, y2, y3]
      obtain ⟨g', x1, x2, x3⟩ := m_setGate b3 y5 l1 l2 l3 l4
      have f2 : Fmm M h1 g' := by
        rw [x2]
        exact ((Fmm.put ⟨by omega, by omega⟩).tr (Fmm.put (a := M + 2) ⟨by omega, by omega⟩)).tr (Fmm.put (a := M + 2) ⟨by omega, by omega⟩)
      rw [x1, gB2_some]
      exact ⟨g', rfl, b2.mm.tr f2, by rw [← y4]; exact x3, kp1.mm f2 hz, by rw [x2]; simp [gI_PI]⟩
  | succ m ih =>
    intro k fuel h hk hf mx kp hth
    obtain ⟨fu, rfl⟩ : ∃ fu, fuel = fu + 1 := ⟨fuel - 1, by omega⟩
    obtain ⟨gk, ck⟩ := c_qus c0 k (by omega)
    obtain ⟨h1, y1, y2, y3⟩ := m_quarterOn ck mx
    obtain ⟨h2, x1, x2, x3⟩ := ih (k + 1) fu h1 (by omega) (by omega) y3 (kp.mm y2.mm hz) (by rw [y2.2.2.2.2 M (by unfold chm; omega)]; exact hth)
    refine ⟨h2, ?_, y2.mm.tr x2, x3⟩
    show f7_advise_103b K34 (f7_advise_103 K34 fu) h M (nI N) z best most x5 x6 x7 _ (nI k) = _
    have e : arr (quF t k) - arr t + (arr (quS (quF t k)) - arr (quF t k)) = arr (quF t (k + 1)) - arr t := by
      show _ = arr (quS (quF t k)) - arr t
      exact i_tel _ _ _
    unfold f7_advise_103b
    rw [if_neg (nI_ge (by omega) (by omega)), if_pos mx.1.1, y1, gB2_some, nI_1, e]
    exact x1
theorem m_advAll {M a0 F n1 n2 n3 n4 q N z : Nat} {gs g0 : g_H} {s : Sg} (c0 : CI a0 F g0 s n1 n2 n3 n4 q) (h7 : gI g0 F 7 = -1) (ms : MX M gs s n1 n2 n3 n4) (hq : q + 120 < 2 ^ 26) (hN : N ≤ 120) (hz : M + 8 < z) :
    ∀ m i fuel : Nat, ∀ h : g_H, i + m = n2 → m < fuel → MX M h s n1 n2 n3 n4 → KP z h (gI gs (M + 4)) (gI gs (M + 6)) (gI gs (M + 7)) → gI h M 0 = 0 →
    ∃ h', f7_advise_34 fuel h M (nI N) z (bs s N i).1 (bs s N i).2 (nI i) = some ((bs s N n2).1, h') ∧ Fmm M h h' ∧ MX M h' s n1 n2 n3 n4 ∧ gI h' M 0 = 0 := by
  intro m
  have wt := c0.1.1
  have h24 := wt.2.2.2.1
  induction m with
  | zero =>
    intro i fuel h hk hf mx kp hth
    obtain ⟨fu, rfl⟩ : ∃ fu, fuel = fu + 1 := ⟨fuel - 1, by omega⟩
    have : i = n2 := by omega
    subst this
    refine ⟨h, ?_, Fmm.rf, mx, hth⟩
    show f7_advise_34b _ h M (nI N) z _ _ (nI i) = _
    unfold f7_advise_34b
    rw [if_pos mx.1.1, mx.2.1.2.1, wt.2.2.1, if_pos (Int32.le_refl _)]
  | succ m ih =>
    intro i fuel h hk hf mx kp hth
    obtain ⟨fu, rfl⟩ : ∃ fu, fuel = fu + 1 := ⟨fuel - 1, by omega⟩
    have hi : i < n2 := by omega
    obtain ⟨-, -, -, -, f, u, hf1, hfu, hu, ef, eu⟩ := wt.2.2.2.2.1 i hi
    have m1i : nI i ≠ -1 := nI_m1 (by omega)
    obtain ⟨g1, x1, x2, x3⟩ := m_setGate mx wt hi (f := 0) (t := 24) (by omega) (by omega) (by omega)
    have f1 : Fmm M h g1 := by
      rw [x2]
      exact ((Fmm.put ⟨by omega, by omega⟩).tr (Fmm.put (a := M + 2) ⟨by omega, by omega⟩)).tr (Fmm.put (a := M + 2) ⟨by omega, by omega⟩)
    have ba : (nI i = -1 ∧ gtS s i 0 24 = s) ∨ ∃ l f' u', l < n2 ∧ f' ≤ 23 ∧ f' ≤ u' ∧ u' ≤ 24 ∧ nI i = nI l ∧ s 2 i 3 = nI f' ∧ s 2 i 4 = nI u' ∧ gtS (gtS s i 0 24) l (nI f') (nI u') = s ∧ WT (gtS s i 0 24) n1 n2 :=
      Or.inr ⟨i, f, u, hi, hf1, hfu, hu, rfl, ef, eu, by rw [← ef, ← eu]; exact gt_gt, gt_WT (f := 0) (t := 24) wt (by omega) (by omega) (by omega)⟩
    obtain ⟨h2, y1, y2, y3, y4, y5⟩ := m_advLoop (K34 := f7_advise_34 fu) (best := (bs s N i).1) (most := (bs s N i).2) (t := gtS s i 0 24) ms ⟨a0, F, _, c0.gt h7 hi⟩ hq hN hz (gt_T (by omega)) (gt_T (by omega)) (by rw [gt_T (by omega)]) ba N 0 300 g1 (by omega) (by omega) x3 (kp.mm f1 hz) (by rw [x2]; simp [gI_PI])
    rw [show arr (quF (gtS s i 0 24) 0) - arr (gtS s i 0 24) = 0 from Int32.sub_self _] at y1
    obtain ⟨h3, z1, z2, z3⟩ := ih (i + 1) fu h2 (by omega) (by omega) y3 y4 y5
    refine ⟨h3, ?_, (f1.tr y2).tr z2, z3⟩
    have hbs : bs s N (i + 1) = if (bs s N i).2 < av s N i then (nI i, av s N i) else bs s N i := rfl
    show f7_advise_34b (f7_advise_34 fu) h M (nI N) z _ _ (nI i) = _
    unfold f7_advise_34b f7_advise_60 f7_advise_79 f7_advise_97
    rw [if_pos mx.1.1, mx.2.1.2.1, wt.2.2.1, if_neg (nI_ge (by omega) (by omega)), if_neg m1i, m_ro (k := 3) (y := (3 : Int32)) mx h24 hi (by omega) rfl rfl, gB2_some, if_neg m1i, if_pos mx.1.1, m_ro (k := 4) (y := (4 : Int32)) mx h24 hi (by omega) rfl rfl, gB2_some, if_neg m1i, if_pos mx.1.1]
    rw [show f7_setGate h M (nI i) 0 24 = f7_setGate h M (nI i) (nI 0) (nI 24) from rfl, x1, gB2_some]
    refine y1.trans ?_
    have ea : arr (quF (gtS s i 0 24) N) - arr (gtS s i 0 24) = av s N i := by rw [gt_arr]; rfl
    unfold f7_advise_146 f7_advise_162 f7_advise_169
    rw [ea, if_neg m1i, nI_1]
    rw [hbs] at z1
    by_cases c : (bs s N i).2 < av s N i
    · rw [if_pos c]
      rw [if_pos c] at z1
      exact z1
    · rw [if_neg c]
      rw [if_neg c] at z1
      exact z1
theorem o_advise {a0 n1 n2 n3 n4 q : Nat} {g : g_H} {s : Sg} (I : ClI a0 g s n1 n2 n3 n4 q) (hq : q + 120 < 2 ^ 26) (x : Int32) : OpR a0 g s n1 n2 n3 n4 q (f6_advise g a0 x) (fun h => f7_advise h (a0 + 153) x) c1 := by
  obtain ⟨s1, s2, s3, s4, s5, s6, s7, s8, s9, s10, s11, s12, s13, s14, s15⟩ := I.sh
  have bad : (x < 1 ∨ ¬ x ≤ 120) → OpR a0 g s n1 n2 n3 n4 q (f6_advise g a0 x) (fun h => f7_advise h (a0 + 153) x) c1 := by
    intro hb
    refine OpR.thr I 2 (by omega) (by omega) ?_ fun h m => ?_
    · unfold f6_advise f6_advise_11
      by_cases c : x < 1
      · rw [if_pos c]
      · rw [if_neg c, if_neg (hb.resolve_left c)]
    · unfold f7_advise f7_isIn
      rw [if_pos m.1.1]
      by_cases c : x < 1
      · rw [if_pos c, gB2_some, if_pos rfl, if_pos m.thr.1.1, m_fail m.thr.1.1, gB2_some]
        rfl
      · rw [if_neg c, if_pos (Int32.not_le.mp (hb.resolve_left c)), gB2_some, if_pos rfl, if_pos m.thr.1.1, m_fail m.thr.1.1, gB2_some]
        rfl
  by_cases d1 : x < 1
  · exact bad (Or.inl d1)
  · by_cases d2 : x ≤ 120
    · obtain ⟨N, rfl, hN1, hN⟩ := rng d1 (n := 120) d2 (by omega)
      obtain ⟨g1, a1, a2, a3⟩ := p_ahead (x := -1) I hN hq (Or.inl ⟨rfl, rfl⟩)
      obtain ⟨g2, b1, b2, b3⟩ := p_advLoop (s := s) hN hq n2 0 300 g1 (by omega) (by omega) a3
      refine ⟨0, (bs s N n2).1, g2, s, n1, n2, n3, n4, q, ?_, by omega, a2.tr b2, b3, by omega, fun h m hZ => ?_⟩
      · unfold f6_advise
        rw [if_neg d1, if_pos d2, if_pos s1, a1, gB2_some]
        exact b1
      · have m' := m.thr (v := 0)
        have hz : a0 + 153 + 8 < gZ (gPI h (a0 + 153) 0 0) := by show _ < gZ h; omega
        obtain ⟨h1, k1, k2, k3, k4, k5⟩ := m_kept m' hz
        have th1 : gI h1 (a0 + 153) 0 = 0 := by rw [k5]; simp [gI_PI]
        obtain ⟨h2, y1, y2, y3, y4, y5⟩ := m_advLoop (K34 := f7_advise_34 299) (best := -1) (most := 0) (x5 := -1) (x6 := 0) (x7 := 0) (t := s) m' ⟨a0, a0 + 43, g, I.1⟩ hq hN hz rfl rfl rfl (Or.inl ⟨rfl, rfl⟩) N 0 300 h1 (by omega) (by omega) k3 k4 th1
        rw [show arr (quF s 0) - arr s = 0 from Int32.sub_self _] at y1
        obtain ⟨h3, z1, z2, z3, z4⟩ := m_advAll I.1 I.2.2.1 m' hq hN hz n2 0 299 h2 (by omega) (by omega) y3 y4 y5
        refine ⟨_, h3, ?_, (((Fmm.put (a := a0 + 153) ⟨by omega, by omega⟩).tr k2).tr y2).tr z2, z3, by rw [z4]; rfl, fun _ => rfl⟩
        show f7_advise h (a0 + 153) (nI N) = _
        unfold f7_advise f7_isIn
        rw [if_pos m.1.1, if_neg d1, if_neg (Int32.not_lt.mpr d2), gB2_some, if_neg n10, if_pos m'.1.1, k1, gB2_some]
        show f7_advise_34b (f7_advise_34 299) h1 (a0 + 153) (nI N) _ (-1) 0 (-1) = _
        unfold f7_advise_34b f7_advise_60 f7_advise_79 f7_advise_97
        have e3 : gI h1 (a0 + 153) 3 = nI n2 := k3.2.1.2.1.trans I.1.1.1.2.2.1
        have hneg : ¬ nI n2 ≤ (-1 : Int32) := by
          intro w
          have := Int32.le_iff_toInt_le.mp w
          rw [nI_toInt (by omega)] at this
          have e : (-1 : Int32).toInt = -1 := rfl
          omega
        rw [if_pos k3.1.1, e3, if_neg hneg, if_pos rfl, if_pos rfl, if_pos rfl]
        refine y1.trans ?_
        unfold f7_advise_146 f7_advise_162 f7_advise_169
        rw [if_pos rfl, show (-1 : Int32) + 1 = nI 0 from by decide]
        exact z1
    · exact bad (Or.inr d2)
end
section
/-! PURE: trusted as a call -/
theorem tgF_lt {s : Sg} {b : Nat} {to : Int32} {k : Nat} : ((tgF s b to k).1 = -1 ∧ (tgF s b to k).2 = 1000) ∨ (tgF s b to k).2 < 1000 := by
  induction k with
  | zero => exact Or.inl ⟨rfl, rfl⟩
  | succ k ih =>
    unfold tgF
    by_cases c : wy s (s 4 b k) to < (tgF s b to k).2
    · rw [if_pos c]
      refine Or.inr ?_
      rcases ih with ⟨-, h⟩ | h
      · rw [h] at c; exact c
      · exact Int32.lt_trans c h
    · rw [if_neg c]; exact ih
theorem tg_lt {s : Sg} {b n1 : Nat} {to : Int32} (wb : WB s n1 b) (h : tg s b to ≠ -1) : wy s (tg s b to) to < 1000 := by
  obtain ⟨z, p, l, st, ho, e1, e2, e3, e4, e5, e6, e7, e8, e9, e10, e11, e12, e13, e14, e15⟩ := wb
  unfold tg at h ⊢
  rw [e1, show cl (nI z) = z from cl_nI (by omega)] at h ⊢
  rcases tgF_in (s := s) (b := b) (to := to) (k := z) e14 with ⟨q1, -⟩ | ⟨q1, q2⟩
  · exact absurd q1 h
  · rcases tgF_lt (s := s) (b := b) (to := to) (k := z) with ⟨r1, -⟩ | r
    · exact absurd r1 h
    · rw [← q2]; exact r
theorem wy_m1 {s : Sg} {to : Int32} : wy s (-1) to = 1000 := if_neg fun q => q.1.1 (by decide)
theorem sub_s {a b : Nat} (ha : a < 2 ^ 26) (hb : b < 2 ^ 26) : (nI a - nI b < 0 ↔ a < b) ∧ (nI a - nI b = 0 ↔ a = b) := by
  have e : (nI a - nI b).toInt = (a : Int) - b := by
    rw [Int32.toInt_sub, nI_toInt (by omega), nI_toInt (by omega)]
    exact Int.bmod_eq_of_le (by omega) (by omega)
  constructor
  · rw [Int32.lt_iff_toInt_lt, e]
    have : (0 : Int32).toInt = 0 := rfl
    omega
  · rw [← Int32.toInt_inj, e]
    have : (0 : Int32).toInt = 0 := rfl
    omega
/-- the most trusted of the first b: who, how far, what honour -/
def tu (s : Sg) (to : Int32) : Nat → Int32 × Int32 × Int32
  | 0 => (-1, 1000, 0)
  | b + 1 =>
    if wy s (tg s b to) to < (tu s to b).2.1 then (nI b, wy s (tg s b to) to, s 3 b 3)
    else if (tu s to b).1 = -1 then tu s to b
    else if wy s (tg s b to) to = (tu s to b).2.1 then (if s 3 b 3 ≤ (tu s to b).2.2 then tu s to b else (nI b, wy s (tg s b to) to, s 3 b 3))
    else tu s to b
theorem tu_in {s : Sg} {to : Int32} {n1 n2 n3 n4 q : Nat} (w : WF s n1 n2 n3 n4 q) : ∀ b, b ≤ n3 → ((tu s to b).1 = -1 ∧ (tu s to b).2.1 = 1000) ∨ ∃ j, j < b ∧ (tu s to b).1 = nI j ∧ (tu s to b).2.1 = wy s (tg s j to) to ∧ (tu s to b).2.2 = s 3 j 3 ∧ tg s j to ≠ -1 := by
  intro b hb
  induction b with
  | zero => exact Or.inl ⟨rfl, rfl⟩
  | succ b ih =>
    have old : ((tu s to b).1 = -1 ∧ (tu s to b).2.1 = 1000) ∨ ∃ j, j < b + 1 ∧ (tu s to b).1 = nI j ∧ (tu s to b).2.1 = wy s (tg s j to) to ∧ (tu s to b).2.2 = s 3 j 3 ∧ tg s j to ≠ -1 := (ih (by omega)).imp id fun ⟨j, h1, h2⟩ => ⟨j, by omega, h2⟩
    have le1000 : ∀ x : Int32, ¬ (1000 : Int32) < wy s x to := fun x => by
      obtain ⟨d, hd, hd2⟩ := wy_nat w.1 x to
      rw [hd2]; exact nI_nlt (a := 1000) hd (by omega)
    unfold tu
    by_cases c1 : wy s (tg s b to) to < (tu s to b).2.1
    · rw [if_pos c1]
      refine Or.inr ⟨b, by omega, rfl, rfl, rfl, fun e => ?_⟩
      rw [e, wy_m1] at c1
      rcases ih (by omega) with ⟨-, h⟩ | ⟨j, -, -, h, -⟩
      · rw [h] at c1; exact Int32.lt_irrefl c1
      · rw [h] at c1; exact le1000 _ c1
    · rw [if_neg c1]
      by_cases c2 : (tu s to b).1 = -1
      · rw [if_pos c2]; exact old
      · rw [if_neg c2]
        by_cases c3 : wy s (tg s b to) to = (tu s to b).2.1
        · rw [if_pos c3]
          by_cases c4 : s 3 b 3 ≤ (tu s to b).2.2
          · rw [if_pos c4]; exact old
          · rw [if_neg c4]
            refine Or.inr ⟨b, by omega, rfl, rfl, rfl, fun e => ?_⟩
            rw [e, wy_m1] at c3
            rcases ih (by omega) with ⟨h, -⟩ | ⟨j, hj, -, h, -, h5⟩
            · exact c2 h
            · have := tg_lt (w.2.2.2.2.2.2.2.1 j (by omega)).1 h5
              rw [← h, ← c3] at this
              exact Int32.lt_irrefl this
        · rw [if_neg c3]; exact old
theorem p_truLoop {a0 n1 n2 n3 n4 q : Nat} {g : g_H} {s : Sg} {to : Int32} (I : ClI a0 g s n1 n2 n3 n4 q) (ht : inR (nI n1) to) :
    ∀ k b fuel : Nat, b + k = n3 → k < fuel → f6_trusted_17 fuel g a0 to (tu s to b).1 (tu s to b).2.1 (tu s to b).2.2 (nI b) = some ((0, (tu s to n3).1), g) := by
  intro k
  obtain ⟨s1, s2, s3, s4, s5, s6, s7, s8, s9, s10, s11, s12, s13, s14, s15⟩ := I.sh
  induction k with
  | zero =>
    intro b fuel h hf
    obtain ⟨fu, rfl⟩ : ∃ fu, fuel = fu + 1 := ⟨fuel - 1, by omega⟩
    have : b = n3 := by omega
    subst this
    show f6_trusted_17b _ g a0 to _ _ _ (nI b) = _
    unfold f6_trusted_17b
    rw [if_pos s1, s3, ob_some, if_pos s7, s10, if_pos (Int32.le_refl _)]
  | succ k ih =>
    intro b fuel h hf
    obtain ⟨fu, rfl⟩ : ∃ fu, fuel = fu + 1 := ⟨fuel - 1, by omega⟩
    have hb : b < n3 := by omega
    obtain ⟨b1, b2, b3, b4, b5, b6, b7, b8, b9, b10, b11, b12, b13, b14, b15, b16, b17, b18, b19, b20⟩ := clB I.1 hb
    obtain ⟨x1, x2, x3, x4, x5, x6, x7, x8⟩ := clC I.1 hb
    have cb : Int32.toNatClampNeg (nI b) = b := cl_nI (by omega)
    have hrec := ih (b + 1) fu (by omega) (by omega)
    have htu : tu s to (b + 1) = if wy s (tg s b to) to < (tu s to b).2.1 then (nI b, wy s (tg s b to) to, s 3 b 3) else if (tu s to b).1 = -1 then tu s to b else if wy s (tg s b to) to = (tu s to b).2.1 then (if s 3 b 3 ≤ (tu s to b).2.2 then tu s to b else (nI b, wy s (tg s b to) to, s 3 b 3)) else tu s to b := rfl
    rw [htu] at hrec
    show f6_trusted_17b (f6_trusted_17 fu) g a0 to _ _ _ (nI b) = _
    unfold f6_trusted_17b f6_trusted_87 f6_trusted_100
    rw [if_pos s1, s3, ob_some, if_pos s7, s10, if_neg (nI_ge hb (by omega)), ob_some, if_pos s7, b6, ob_some, b8, if_pos rfl, if_pos (ixOk (by omega) (by omega)), cb, b10, ob_some, s2, ob_some, if_pos b11, b12, ob_some, if_pos b16, clE I.1 hb ht, gB2_some, if_pos s6, I.1.wyE, gB2_some, if_pos b11, if_pos b11, x4, nI_1]
    by_cases c1 : wy s (tg s b to) to < (tu s to b).2.1
    · rw [if_pos c1]
      rw [if_pos c1] at hrec
      exact hrec
    · rw [if_neg c1]
      rw [if_neg c1] at hrec
      by_cases c2 : (tu s to b).1 = -1
      · rw [if_pos c2]
        rw [if_pos c2] at hrec
        exact hrec
      · rw [if_neg c2]
        rw [if_neg c2] at hrec
        by_cases c3 : wy s (tg s b to) to = (tu s to b).2.1
        · rw [if_pos c3]
          rw [if_pos c3] at hrec
          by_cases c4 : s 3 b 3 ≤ (tu s to b).2.2
          · rw [if_pos c4]
            rw [if_pos c4] at hrec
            exact hrec
          · rw [if_neg c4]
            rw [if_neg c4] at hrec
            exact hrec
        · rw [if_neg c3]
          rw [if_neg c3] at hrec
          exact hrec
theorem m_truLoop {M n1 n2 n3 n4 q : Nat} {h : g_H} {s : Sg} {to : Int32} (w : WF s n1 n2 n3 n4 q) (m : MX M h s n1 n2 n3 n4) (ht : inR (nI n1) to) :
    ∀ k b fuel : Nat, b + k = n3 → k < fuel → f7_trusted_23 fuel h M to (tu s to b).1 (nI b) = some ((tu s to n3).1, h) := by
  intro k
  have h6 := w.2.2.1
  have h14 := w.1.2.1
  have e6 : gI h M 6 = nI n3 := m.2.1.2.2.1.trans w.2.1
  obtain ⟨y, hy, hy2⟩ := inR_nat (by omega) ht
  have wb : ∀ b, b < n3 → WB s n1 b := fun b hb => (w.2.2.2.2.2.2.2.1 b hb).1
  have aw : ∀ j, j < n3 → tg s j to ≠ -1 → ∃ d, d < 1000 ∧ wy s (tg s j to) to = nI d ∧ f7_away h M (tg s j to) to = some (nI d, h) := by
    intro j hj hn
    obtain ⟨x, hx, hx2⟩ := inR_nat (by omega) ((tg_in (to := to) (wb j hj)).resolve_left hn)
    obtain ⟨d, hd, hd2⟩ := wy_nat w.1 (tg s j to) to
    have hl := tg_lt (wb j hj) hn
    rw [hd2] at hl
    have hd3 : d < 1000 := (nI_ltI (b := 1000) (by omega) (by omega)).mp hl
    refine ⟨d, hd3, hd2, ?_⟩
    rw [m_away m w.1 hx hy hx2 hy2, hd2]
    congr 2
    exact if_neg fun q => by
      have := (nI_eq (b := 1000) (by omega) (by omega)).mp q
      omega
  induction k with
  | zero =>
    intro b fuel hbk hf
    obtain ⟨fu, rfl⟩ : ∃ fu, fuel = fu + 1 := ⟨fuel - 1, by omega⟩
    have : b = n3 := by omega
    subst this
    show f7_trusted_23b _ h M to _ (nI b) = _
    unfold f7_trusted_23b
    rw [if_pos m.1.1, e6, if_pos (Int32.le_refl _)]
  | succ k ih =>
    intro b fuel hbk hf
    obtain ⟨fu, rfl⟩ : ∃ fu, fuel = fu + 1 := ⟨fuel - 1, by omega⟩
    have hb : b < n3 := by omega
    have hrec := ih (b + 1) fu (by omega) (by omega)
    have htu : tu s to (b + 1) = if wy s (tg s b to) to < (tu s to b).2.1 then (nI b, wy s (tg s b to) to, s 3 b 3) else if (tu s to b).1 = -1 then tu s to b else if wy s (tg s b to) to = (tu s to b).2.1 then (if s 3 b 3 ≤ (tu s to b).2.2 then tu s to b else (nI b, wy s (tg s b to) to, s 3 b 3)) else tu s to b := rfl
    rw [htu] at hrec
    show f7_trusted_23b (f7_trusted_23 fu) h M to _ (nI b) = _
    unfold f7_trusted_23b f7_trusted_76 f7_trusted_98 f7_trusted_105
    rw [if_pos m.1.1, e6, if_neg (nI_ge hb (by omega)), m_targetOf m w.1 h6 hb (wb b hb) ht rfl, gB2_some, nI_1]
    have le1000 : ∀ x : Int32, ¬ (1000 : Int32) < wy s x to := fun x => by
      obtain ⟨d, hd, hd2⟩ := wy_nat w.1 x to
      rw [hd2]; exact nI_nlt (a := 1000) hd (by omega)
    by_cases t1 : tg s b to = -1
    · rw [if_pos t1]
      rw [t1, wy_m1] at hrec
      rcases tu_in (to := to) w b (by omega) with ⟨h1, h2⟩ | ⟨j, hj, h1, h2, h3, h4⟩
      · rw [h2, if_neg Int32.lt_irrefl, if_pos h1] at hrec
        exact hrec
      · obtain ⟨d, hd, hd2, -⟩ := aw j (by omega) h4
        rw [h2, if_neg (le1000 _), if_neg (by rw [h1]; exact nI_m1 (by omega)), hd2, if_neg (c := (1000 : Int32) = nI d) fun q => by
          have := (nI_eq (a := 1000) (by omega) (by omega)).mp q
          omega] at hrec
        exact hrec
    · rw [if_neg t1]
      obtain ⟨d, hd, hd2, hd3⟩ := aw b hb t1
      rcases tu_in (to := to) w b (by omega) with ⟨h1, h2⟩ | ⟨j, hj, h1, h2, h3, h4⟩
      · rw [if_pos h1, if_neg (by decide), if_neg (by decide)]
        rw [h2, if_pos (tg_lt (wb b hb) t1)] at hrec
        exact hrec
      · have hjn : nI j ≠ -1 := nI_m1 (by omega)
        obtain ⟨d', hd', hd2', hd3'⟩ := aw j (by omega) h4
        obtain ⟨z, p, l, st, ho, e1, e2, e3, e4, e5, e6, e7, e8, e9, e10, e11, -⟩ := wb b hb
        obtain ⟨z', p', l', st', ho', f1, f2, f3, f4, f5, f6, f7, f8, f9, f10, f11, -⟩ := wb j (by omega)
        obtain ⟨q1, q2⟩ := sub_s (a := d) (b := d') (by omega) (by omega)
        obtain ⟨q3, -⟩ := sub_s (a := ho') (b := ho) (by omega) (by omega)
        rw [if_neg (by rw [h1]; exact hjn), if_pos m.1.1, hd3, gB2_some, if_pos m.1.1, m_targetOf m w.1 h6 (show j < n3 by omega) (wb j (by omega)) ht h1, gB2_some, if_pos m.1.1, hd3', gB2_some]
        rw [hd2, h2, hd2', h3, e10, f10, if_neg (c := (tu s to b).1 = -1) (by rw [h1]; exact hjn)] at hrec
        by_cases c0 : d = d'
        · rw [if_pos (q2.mpr c0), if_pos m.1.1, m_be (k := 3) (y := (3 : Int32)) m h6 (show j < n3 by omega) (by omega) h1 rfl, gB2_some, if_pos m.1.1, m_be (k := 3) (y := (3 : Int32)) m h6 hb (by omega) rfl rfl, gB2_some, e10, f10]
          rw [c0, if_neg Int32.lt_irrefl, if_pos rfl] at hrec
          by_cases c1 : ho' < ho
          · rw [if_neg (Int32.not_le.mpr (q3.mpr c1))]
            rw [if_neg (Int32.not_le.mpr (nI_lt c1 (by omega)))] at hrec
            exact hrec
          · rw [if_pos (Int32.not_lt.mp fun k => c1 (q3.mp k))]
            rw [if_pos (nI_le (by omega) (by omega))] at hrec
            exact hrec
        · rw [if_neg fun k => c0 (q2.mp k)]
          by_cases c1 : d < d'
          · rw [if_neg (Int32.not_le.mpr (q1.mpr c1))]
            rw [if_pos (nI_lt c1 (by omega))] at hrec
            exact hrec
          · rw [if_pos (Int32.not_lt.mp fun k => c1 (q1.mp k))]
            rw [if_neg (nI_nlt (by omega) (by omega)), if_neg (c := nI d = nI d') fun k => c0 (nI_inj (by omega) (by omega) k)] at hrec
            exact hrec
theorem o_trusted {a0 n1 n2 n3 n4 q : Nat} {g : g_H} {s : Sg} (I : ClI a0 g s n1 n2 n3 n4 q) (x : Int32) : OpR a0 g s n1 n2 n3 n4 q (f6_trusted g a0 x) (fun h => f7_trusted h (a0 + 153) x) c1 := by
  obtain ⟨s1, s2, s3, s4, s5, s6, s7, s8, s9, s10, s11, s12, s13, s14, s15⟩ := I.sh
  have e1 := I.1.1.1.1
  by_cases hx : inR (nI n1) x
  · refine OpR.qry I (tu s x n3).1 ?_ rfl fun h m => ?_
    · unfold f6_trusted
      rw [if_pos s1, p_checkHouse I, gB2_some, if_pos hx, if_pos n0e]
      exact p_truLoop I hx n3 0 300 (by omega) (by omega)
    · have m' := m.thr (v := 0)
      unfold f7_trusted
      rw [if_pos m.1.1, m_isHouse m' e1 s12, gB2_some, if_pos hx, if_neg n10]
      exact m_truLoop I.1.1 m' hx n3 0 300 (by omega) (by omega)
  · refine OpR.thr I 1 (by omega) (by omega) ?_ fun h m => ?_
    · unfold f6_trusted
      rw [if_pos s1, p_checkHouse I, gB2_some, if_neg hx, if_neg n1e]
    · have m' := m.thr (v := 0)
      unfold f7_trusted
      rw [if_pos m.1.1, m_isHouse m' e1 s12, gB2_some, if_neg hx, if_pos rfl, if_pos m'.1.1, m_fail m'.1.1, gB2_some]
      rfl
end
section
/-! PURE: mean -/
def smS (s : Sg) (n : Nat) : Int32 := sF (fun i => if s 5 i 3 = -1 then 0 else s 5 i 3) n
def smL (s : Sg) : Nat → Int64
  | 0 => 0
  | i + 1 => if s 5 i 3 = -1 then smL s i else smL s i + Int32.toInt64 (s 5 i 3)
set_option maxRecDepth 8000 in
theorem sm_eq {s : Sg} {n : Nat} (h20 : n ≤ 20) (h : ∀ i, i < n → s 5 i 3 = -1 ∨ ∃ t, t < 2 ^ 26 ∧ s 5 i 3 = nI t) : ∀ m, m ≤ n → ∃ S, S ≤ m * 2 ^ 26 ∧ smS s m = nI S ∧ (smL s m).toInt = S := by
  intro m hm
  induction m with
  | zero => exact ⟨0, Nat.zero_le _, rfl, rfl⟩
  | succ m ih =>
    obtain ⟨S, h1, h2, h3⟩ := ih (by omega)
    have hs : smS s (m + 1) = smS s m + (if s 5 m 3 = -1 then 0 else s 5 m 3) := rfl
    by_cases e : s 5 m 3 = -1
    · refine ⟨S, Nat.le_trans h1 (Nat.mul_le_mul_right _ (Nat.le_succ m)), ?_, ?_⟩
      · rw [hs, if_pos e, h2, Int32.add_zero]
      · show (if s 5 m 3 = -1 then smL s m else _).toInt = _
        rw [if_pos e]; exact h3
    · obtain ⟨t, ht, ht2⟩ := (h m (by omega)).resolve_left e
      have h4 : S + t ≤ (m + 1) * 2 ^ 26 := by rw [Nat.succ_mul]; exact Nat.add_le_add h1 (Nat.le_of_lt ht)
      have h5 : S + t < 2 ^ 31 := Nat.lt_of_le_of_lt (Nat.le_trans h4 (Nat.mul_le_mul_right _ (show m + 1 ≤ 20 by omega))) (by decide)
      refine ⟨S + t, h4, ?_, ?_⟩
      · rw [hs, if_neg e, h2, ht2, nI_add]
      · show (if s 5 m 3 = -1 then smL s m else _).toInt = _
        rw [if_neg e, Int64.toInt_add, h3, Int32.toInt_toInt64, ht2, nI_toInt (by omega)]
        rw [Int.bmod_eq_of_le (by omega) (by omega)]
        omega
end
section
/-! PURE: mean as a call of both; what is said of doubles is a premise here -/
theorem ixOj {n j : Nat} (h : j < n) (hn : n < 2 ^ 31) : ¬ (nI j < 0 ∨ n ≤ j) := fun k => k.elim (nI_pos (by omega)) (by omega)
def gdD : Prop := ∀ (j : Int64) (x : Int32), x ≠ 0 → FP.ddiv (FP.l2d j) (FP.i2d x) &&& 0x7fffffffffffffff ≤ 0x7ff0000000000000
def gdE : Prop := ∀ (x : Int32) (j : Int64), j.toInt = x.toInt → FP.i2d x = FP.l2d j
def meV (s : Sg) (n4 : Nat) : UInt64 := if arr s = 0 then FP.dconst0 else FP.ddiv (FP.l2d (smL s n4)) (FP.i2d (arr s))
set_option maxRecDepth 8000 in
theorem p_meanLoop {a0 n1 n2 n3 n4 q : Nat} {g : g_H} {s : Sg} (I : ClI a0 g s n1 n2 n3 n4 q) (ha : arr s ≠ 0) (hG : gdD) :
    ∀ k i fuel : Nat, i + k = n4 → k < fuel → f6_mean_16 fuel g a0 (smL s i) (nI i) = some (FP.ddiv (FP.l2d (smL s n4)) (FP.i2d (arr s)), g) := by
  obtain ⟨s1, s2, s3, s4, s5, s6, s7, s8, s9, s10, s11, s12, s13, s14, s15⟩ := I.sh
  have b7 : gR g (a0 + 43) 2 = some (a0 + 43 + 32) := I.1.2.1.2.2.1.2.2.2.1
  have b9 : gS g (a0 + 43 + 32) = (17, 20) := I.1.2.1.2.2.1.2.2.2.2.2.1
  have r5 : gI g (a0 + 43) 6 = arr s := I.1.2.2.2.2.2.1
  intro k
  induction k with
  | zero =>
    intro i fuel h hf
    obtain ⟨fu, rfl⟩ : ∃ fu, fuel = fu + 1 := ⟨fuel - 1, by omega⟩
    have : i = n4 := by omega
    subst this
    show f6_mean_16b (f6_mean_16 fu) g a0 _ (nI i) = _
    unfold f6_mean_16b
    rw [if_pos s1, s3, ob_some, if_pos s7, s11, if_pos (Int32.le_refl _), ob_some, if_pos s7, r5, if_pos (hG _ _ ha)]
  | succ k ih =>
    intro i fuel h hf
    obtain ⟨fu, rfl⟩ : ∃ fu, fuel = fu + 1 := ⟨fuel - 1, by omega⟩
    obtain ⟨b10, b11⟩ := I.1.2.1.2.2.1.2.2.2.2.2.2.2 i (by omega)
    have d3 : gI g (a0 + 43 + 33 + i) 3 = s 5 i 3 := I.1.2.2.2.2.2.2 i (by omega) 3 (by omega)
    have ci : Int32.toNatClampNeg (nI i) = i := cl_nI (by omega)
    have hr := ih (i + 1) fu (by omega) (by omega)
    show f6_mean_16b (f6_mean_16 fu) g a0 _ (nI i) = _
    unfold f6_mean_16b f6_mean_58 f3_hasArrived
    rw [if_pos s1, s3, ob_some, if_pos s7, s11, if_neg (nI_ge (by omega) (by omega)), ob_some, if_pos s7, b7, ob_some, b9, if_pos rfl, if_pos (ixOk (by omega) (by omega)), ci, b10, ob_some, if_pos b11, if_pos b11, d3, nI_1]
    by_cases e : s 5 i 3 = -1
    · have e' : smL s (i + 1) = smL s i := if_pos e
      rw [e'] at hr
      rw [if_pos e, gB2_some, if_pos rfl]; exact hr
    · have e' : smL s (i + 1) = smL s i + Int32.toInt64 (s 5 i 3) := if_neg e
      rw [e'] at hr
      rw [if_neg e, gB2_some, if_neg n10, if_pos s1, s3, ob_some, if_pos s7, b7, ob_some, b9, if_pos rfl, if_pos (ixOj (by omega) (by omega)), b10, ob_some, if_pos b11, d3]; exact hr
set_option maxRecDepth 8000 in
theorem m_meanLoop {M n1 n2 n3 n4 : Nat} {h : g_H} {s : Sg} (m : MX M h s n1 n2 n3 n4) (h20 : n4 ≤ 20) (e4 : s 0 0 4 = nI n4) (hl : ∀ i, i < n4 → s 5 i 3 = -1 ∨ ∃ t, t < 2 ^ 26 ∧ s 5 i 3 = nI t) (hG : gdD) (hE : gdE) :
    ∀ k i fuel : Nat, i + k = n4 → k < fuel → f7_mean_11 fuel h M (smS s i) (arrF s i) (nI i) = some (if arrF s n4 = 0 then FP.dconst0 else FP.ddiv (FP.l2d (smL s n4)) (FP.i2d (arrF s n4)), h) := by
  intro k
  induction k with
  | zero =>
    intro i fuel h hf
    obtain ⟨fu, rfl⟩ : ∃ fu, fuel = fu + 1 := ⟨fuel - 1, by omega⟩
    have : i = n4 := by omega
    subst this
    obtain ⟨S, x1, x2, x3⟩ := sm_eq h20 hl i (Nat.le_refl _)
    have hb : S < 2 ^ 31 := Nat.lt_of_le_of_lt (Nat.le_trans x1 (Nat.mul_le_mul_right _ h20)) (by decide)
    have eq : FP.i2d (smS s i) = FP.l2d (smL s i) := hE _ _ (by rw [x2, nI_toInt hb, x3])
    show f7_mean_11b (f7_mean_11 fu) _ M _ _ (nI i) = _
    unfold f7_mean_11b
    rw [if_pos m.1.1, m.2.1.2.2.2, e4, if_pos (Int32.le_refl _), eq]
    by_cases a : arrF s i = 0
    · rw [if_pos a, if_pos a]
    · rw [if_neg a, if_neg a, if_pos (hG _ _ a)]
  | succ k ih =>
    intro i fuel h hf
    obtain ⟨fu, rfl⟩ : ∃ fu, fuel = fu + 1 := ⟨fuel - 1, by omega⟩
    have hr := ih (i + 1) fu (by omega) (by omega)
    have hs : smS s (i + 1) = smS s i + (if s 5 i 3 = -1 then 0 else s 5 i 3) := rfl
    have ha : arrF s (i + 1) = arrF s i + (if s 5 i 3 = -1 then 0 else 1) := rfl
    show f7_mean_11b (f7_mean_11 fu) _ M _ _ (nI i) = _
    unfold f7_mean_11b f7_mean_44
    rw [if_pos m.1.1, m.2.1.2.2.2, e4, if_neg (nI_ge (by omega) (by omega)), m_le (i := i) (k := 3) (y := (3 : Int32)) m h20 (by omega) (by omega) rfl rfl, gB2_some, nI_1]
    by_cases e : s 5 i 3 = -1
    · rw [if_pos e, Int32.add_zero] at hs ha
      rw [hs, ha] at hr
      rw [if_pos e]; exact hr
    · rw [if_neg e] at hs ha
      rw [hs, ha] at hr
      rw [if_neg e, if_pos m.1.1, m_le (i := i) (k := 3) (y := (3 : Int32)) m h20 (by omega) (by omega) rfl rfl, gB2_some]; exact hr
set_option maxRecDepth 8000 in
theorem o_mean {a0 n1 n2 n3 n4 q : Nat} {g : g_H} {s : Sg} (I : ClI a0 g s n1 n2 n3 n4 q) (hG : gdD) (hE : gdE) :
    f6_mean g a0 = some (meV s n4, g) ∧ ∀ h, MX (a0 + 153) h s n1 n2 n3 n4 → f7_mean h (a0 + 153) = some (meV s n4, gPI h (a0 + 153) 0 0) := by
  obtain ⟨s1, s2, s3, s4, s5, s6, s7, s8, s9, s10, s11, s12, s13, s14, s15⟩ := I.sh
  have r5 : gI g (a0 + 43) 6 = arr s := I.1.2.2.2.2.2.1
  have e4 := I.1.1.2.2.2.1
  have hl : ∀ i, i < n4 → s 5 i 3 = -1 ∨ ∃ t, t < 2 ^ 26 ∧ s 5 i 3 = nI t := fun i hi => (I.1.1.2.2.2.2.2.2.2.2 i hi).2.2.2.2.2
  refine ⟨?_, fun h m => ?_⟩
  · unfold f6_mean meV
    rw [if_pos s1, s3, ob_some, if_pos s7, r5]
    by_cases a : arr s = 0
    · rw [if_pos a, if_pos a]
    · rw [if_neg a, if_neg a]
      exact p_meanLoop I a hG n4 0 300 (by omega) (by omega)
  · unfold f7_mean meV
    rw [if_pos m.1.1, arr_def e4 s15]
    exact m_meanLoop (m.thr (v := 0)) s15 e4 hl hG hE n4 0 300 (by omega) (by omega)
end
section
/-! PURE: digest, the class -/
def dS (d : Int64) (v : Int32) : Int64 := d * 31 + Int32.toInt64 v
def dF (f : Nat → Int32) (d : Int64) : Nat → Int64
  | 0 => d
  | k + 1 => dS (dF f d k) (f k)
def fl (t : Nat → Nat → Int32) (k : Nat) : Int32 := t (k / 5) (k % 5)
theorem fl_5 {t : Nat → Nat → Int32} {i j : Nat} (h : j < 5) : fl t (5 * i + j) = t i j := by
  unfold fl
  rw [show (5 * i + j) / 5 = i by omega, show (5 * i + j) % 5 = j by omega]
theorem dF_5 {t : Nat → Nat → Int32} {d : Int64} {i : Nat} : dF (fl t) d (5 * (i + 1)) = dS (dS (dS (dS (dS (dF (fl t) d (5 * i)) (t i 0)) (t i 1)) (t i 2)) (t i 3)) (t i 4) := by
  show dS (dS (dS (dS (dS (dF (fl t) d (5 * i)) (fl t (5 * i + 0))) (fl t (5 * i + 1))) (fl t (5 * i + 2))) (fl t (5 * i + 3))) (fl t (5 * i + 4)) = _
  rw [fl_5 (by omega), fl_5 (by omega), fl_5 (by omega), fl_5 (by omega), fl_5 (by omega)]
/-- the bees' part -/
def dB (s : Sg) (d : Int64) : Nat → Int64
  | 0 => d
  | b + 1 => dF (s 4 b) (dF (tl s b) (dB s d b) 9) (cl (s 3 b 5))
def dgV (s : Sg) (n1 n2 n3 n4 : Nat) : Int64 := dF (fl (s 5)) (dB s (dF (fl (s 2)) (dF (fun h => s 1 h 0) (dF (cnS s n2 n3 n4) 811 9) n1) (5 * n2)) n3) (5 * n4)
theorem p_dgLet {g : g_H} {L : Nat} {s : Sg} {i : Nat} {d : Int64} (hL : (gS g L).1 = 4) (h : ∀ k, k < 5 → gI g L k = s 5 i k) : f3_digestFrom g L d = some (dF (s 5 i) d 5, g) := by
  have lp : ∀ k j fuel : Nat, j + k = 5 → k < fuel → f3_digestFrom_5 fuel g L (dF (s 5 i) d j) (nI j) = some (dF (s 5 i) d 5, g) := by
    intro k
    induction k with
    | zero =>
      intro j fuel h hf
      obtain ⟨fu, rfl⟩ : ∃ fu, fuel = fu + 1 := ⟨fuel - 1, by omega⟩
      have : j = 5 := by omega
      subst this
      show f3_digestFrom_5b (f3_digestFrom_5 fu) g L _ (nI 5) = _
      unfold f3_digestFrom_5b
      rw [if_pos (by decide)]
    | succ k ih =>
      intro j fuel hj hf
      obtain ⟨fu, rfl⟩ : ∃ fu, fuel = fu + 1 := ⟨fuel - 1, by omega⟩
      show f3_digestFrom_5b (f3_digestFrom_5 fu) g L _ (nI j) = _
      unfold f3_digestFrom_5b
      rw [if_neg (show ¬ (5 : Int32) ≤ nI j from nI_ge (b := 5) (by omega) (by omega)), if_pos hL, p_tellL hL (by omega), gB2_some, nI_1, h j (by omega)]
      exact ih (j + 1) fu (by omega) (by omega)
  exact lp 5 0 300 (by omega) (by omega)
theorem p_dgBee {a0 n1 n2 n3 n4 q b : Nat} {g : g_H} {s : Sg} {d : Int64} (I : ClI a0 g s n1 n2 n3 n4 q) (hb : b < n3) : f0_digestFrom g (a0 + 43 + 2 + 5 * b) d = some (dF (s 4 b) (dF (tl s b) d 9) (cl (s 3 b 5)), g) := by
  obtain ⟨s1, s2, s3, s4, s5, s6, s7, s8, s9, s10, s11, s12, s13, s14, s15⟩ := I.sh
  have wb := I.1.wb hb
  obtain ⟨z, p, l, st, ho, e1, e2, e3, -⟩ := wb
  have hB : (gS g (a0 + 43 + 2 + 5 * b)).1 = 1 := (I.1.2.1.2.2.1.2.2.2.2.2.2.1 b (by omega)).2
  have hr : gR g (a0 + 43 + 2 + 5 * b) 1 = some (a0 + 46 + 5 * b) := (I.1.2.2.2.1 b hb).1
  obtain ⟨t1, t2, t3, t4, t5, t6, t7⟩ := I.1.2.1.2.2.2.1 b (by omega)
  obtain ⟨q1, q2, -⟩ := I.1.2.1.2.2.2.2.2 b hb
  have cz : cl (nI z) = z := cl_nI (by omega)
  rw [e1, cz] at q2 ⊢
  rw [e1] at q1
  have l2 : ∀ k j fuel : Nat, ∀ d' : Int64, j + k = z → k < fuel → f0_digestFrom_35 fuel g (a0 + 43 + 2 + 5 * b) (dF (s 4 b) d' j) (nI j) = some (dF (s 4 b) d' z, g) := by
    intro k
    induction k with
    | zero =>
      intro j fuel d' h hf
      obtain ⟨fu, rfl⟩ : ∃ fu, fuel = fu + 1 := ⟨fuel - 1, by omega⟩
      have : j = z := by omega
      subst this
      show f0_digestFrom_35b (f0_digestFrom_35 fu) g _ _ (nI j) = _
      unfold f0_digestFrom_35b f4_length
      rw [if_pos hB, hr, ob_some, if_pos t1, if_pos t1, gB2_some, q1, if_pos (Int32.le_refl _)]
    | succ k ih =>
      intro j fuel d' h hf
      obtain ⟨fu, rfl⟩ : ∃ fu, fuel = fu + 1 := ⟨fuel - 1, by omega⟩
      have cj : Int32.toNatClampNeg (nI j) = j := cl_nI (by omega)
      show f0_digestFrom_35b (f0_digestFrom_35 fu) g _ _ (nI j) = _
      unfold f0_digestFrom_35b f4_length f4_houseAt
      rw [if_pos hB, hr, ob_some, if_pos t1, if_pos t1, gB2_some, q1, if_neg (nI_ge (by omega) (by omega)), if_pos hB, hr, ob_some, if_pos t1, if_neg (nI_pos (by omega)), if_pos t1, q1, if_neg (nI_ge (by omega) (by omega)), t2, ob_some, show a0 + 46 + 5 * b + 1 = a0 + 47 + 5 * b by omega, show gS g (a0 + 47 + 5 * b) = (11, 7) from (show a0 + 46 + 5 * b + 1 = a0 + 47 + 5 * b by omega) ▸ t5, if_pos rfl, if_pos (ixOk (by omega) (by omega)), cj, q2 j (by omega), gB2_some, nI_1]
      exact ih (j + 1) fu d' (by omega) (by omega)
  have l1 : ∀ k j fuel : Nat, j + k = 9 → k < fuel → f0_digestFrom_5 fuel g (a0 + 43 + 2 + 5 * b) (dF (tl s b) d j) (nI j) = some (dF (s 4 b) (dF (tl s b) d 9) z, g) := by
    intro k
    induction k with
    | zero =>
      intro j fuel h hf
      obtain ⟨fu, rfl⟩ : ∃ fu, fuel = fu + 1 := ⟨fuel - 1, by omega⟩
      have : j = 9 := by omega
      subst this
      show f0_digestFrom_5b (f0_digestFrom_5 fu) g _ _ (nI 9) = _
      unfold f0_digestFrom_5b
      rw [if_pos (by decide)]
      exact l2 z 0 300 _ (by omega) (by omega)
    | succ k ih =>
      intro j fuel h hf
      obtain ⟨fu, rfl⟩ : ∃ fu, fuel = fu + 1 := ⟨fuel - 1, by omega⟩
      show f0_digestFrom_5b (f0_digestFrom_5 fu) g _ _ (nI j) = _
      unfold f0_digestFrom_5b
      rw [if_neg (show ¬ (9 : Int32) ≤ nI j from nI_ge (b := 9) (by omega) (by omega)), if_pos hB, p_tell I.1 hb (by omega), gB2_some, nI_1]
      exact ih (j + 1) fu (by omega) (by omega)
  exact l1 9 0 300 (by omega) (by omega)
theorem p_dgTown {a0 n1 n2 n3 n4 q : Nat} {g : g_H} {s : Sg} {d : Int64} (I : ClI a0 g s n1 n2 n3 n4 q) : f5_digestFrom g (a0 + 1) d = some (dF (fl (s 2)) (dF (fun h => s 1 h 0) d n1) (5 * n2), g) := by
  obtain ⟨s1, s2, s3, s4, s5, s6, s7, s8, s9, s10, s11, s12, s13, s14, s15⟩ := I.sh
  obtain ⟨h1, h2, h3, h4, h5, h6, h7, h8, h9⟩ := I.1.2.1.2.1
  obtain ⟨r1, r2, r3, r4, r5⟩ := I.1.2.1.2.2.2.2.1
  have hv := I.1.1.1.2.2.2.2.2.1
  have l2 : ∀ k i fuel : Nat, ∀ d' : Int64, i + k = n2 → k < fuel → f5_digestFrom_46 fuel g (a0 + 1) (dF (fl (s 2)) d' (5 * i)) (nI i) = some (dF (fl (s 2)) d' (5 * n2), g) := by
    intro k
    induction k with
    | zero =>
      intro i fuel d' h hf
      obtain ⟨fu, rfl⟩ : ∃ fu, fuel = fu + 1 := ⟨fuel - 1, by omega⟩
      have : i = n2 := by omega
      subst this
      show f5_digestFrom_46b (f5_digestFrom_46 fu) g _ _ (nI i) = _
      unfold f5_digestFrom_46b
      rw [if_pos h1, s9, if_pos (Int32.le_refl _)]
    | succ k ih =>
      intro i fuel d' h hf
      obtain ⟨fu, rfl⟩ : ∃ fu, fuel = fu + 1 := ⟨fuel - 1, by omega⟩
      have ci : Int32.toNatClampNeg (nI i) = i := cl_nI (by omega)
      obtain ⟨b1, b2⟩ := h8 i (by omega)
      obtain ⟨c1, c2, c3⟩ := r4 i (by omega)
      obtain ⟨c4, c5⟩ := c3 (by rw [I.2.2.1]; exact nI_m1 (by omega))
      show f5_digestFrom_46b (f5_digestFrom_46 fu) g _ _ (nI i) = _
      unfold f5_digestFrom_46b
      rw [if_pos h1, s9, if_neg (nI_ge (by omega) (by omega)), h3, ob_some, h6, if_pos rfl, if_pos (ixOk (by omega) (by omega)), ci, b1, ob_some, if_pos b2, ob_some, h6, if_pos rfl, if_pos (ixOj (by omega) (by omega)), b1, ob_some, if_pos b2, ob_some, h6, if_pos rfl, if_pos (ixOj (by omega) (by omega)), b1, ob_some, if_pos b2, ob_some, h6, if_pos rfl, if_pos (ixOj (by omega) (by omega)), b1, ob_some, if_pos b2, ob_some, h6, if_pos rfl, if_pos (ixOj (by omega) (by omega)), b1, ob_some, if_pos b2, c1 0 (by omega), c1 1 (by omega), c1 2 (by omega), c4, c5, nI_1]
      have hr := ih (i + 1) fu d' (by omega) (by omega)
      rw [dF_5] at hr
      exact hr
  have l1 : ∀ k i fuel : Nat, i + k = n1 → k < fuel → f5_digestFrom_5 fuel g (a0 + 1) (dF (fun h => s 1 h 0) d i) (nI i) = some (dF (fl (s 2)) (dF (fun h => s 1 h 0) d n1) (5 * n2), g) := by
    intro k
    induction k with
    | zero =>
      intro i fuel h hf
      obtain ⟨fu, rfl⟩ : ∃ fu, fuel = fu + 1 := ⟨fuel - 1, by omega⟩
      have : i = n1 := by omega
      subst this
      show f5_digestFrom_5b (f5_digestFrom_5 fu) g _ _ (nI i) = _
      unfold f5_digestFrom_5b
      rw [if_pos h1, s8, if_pos (Int32.le_refl _)]
      exact l2 n2 0 300 _ (by omega) (by omega)
    | succ k ih =>
      intro i fuel h hf
      obtain ⟨fu, rfl⟩ : ∃ fu, fuel = fu + 1 := ⟨fuel - 1, by omega⟩
      have ci : Int32.toNatClampNeg (nI i) = i := cl_nI (by omega)
      have hr := ih (i + 1) fu (by omega) (by omega)
      show f5_digestFrom_5b (f5_digestFrom_5 fu) g _ _ (nI i) = _
      unfold f5_digestFrom_5b f5_digestFrom_34
      rw [if_pos h1, s8, if_neg (nI_ge (by omega) (by omega)), h2, ob_some, h5, if_pos rfl, if_pos (ixOk (by omega) (by omega)), ci, r3 i (by omega), nI_1]
      have hd : dF (fun h => s 1 h 0) d (i + 1) = dF (fun h => s 1 h 0) d i * 31 + Int32.toInt64 (s 1 i 0) := rfl
      rcases hv i (by omega) with e | e
      · rw [hd, e] at hr
        rw [e, if_pos rfl]; exact hr
      · rw [hd, e] at hr
        rw [e, if_neg n10]; exact hr
  exact l1 n1 0 300 (by omega) (by omega)
theorem p_digest {a0 n1 n2 n3 n4 q : Nat} {g : g_H} {s : Sg} (I : ClI a0 g s n1 n2 n3 n4 q) : f6_digest g a0 = some (dgV s n1 n2 n3 n4, g) := by
  obtain ⟨s1, s2, s3, s4, s5, s6, s7, s8, s9, s10, s11, s12, s13, s14, s15⟩ := I.sh
  have b6 : gR g (a0 + 43) 1 = some (a0 + 43 + 1) := I.1.2.1.2.2.1.2.2.1
  have b8 : gS g (a0 + 43 + 1) = (15, 6) := I.1.2.1.2.2.1.2.2.2.2.1
  have b7 : gR g (a0 + 43) 2 = some (a0 + 43 + 32) := I.1.2.1.2.2.1.2.2.2.1
  have b9 : gS g (a0 + 43 + 32) = (17, 20) := I.1.2.1.2.2.1.2.2.2.2.2.1
  have l3 : ∀ k i fuel : Nat, ∀ d' : Int64, i + k = n4 → k < fuel → f6_digest_75 fuel g a0 (dF (fl (s 5)) d' (5 * i)) (nI i) = some (dF (fl (s 5)) d' (5 * n4), g) := by
    intro k
    induction k with
    | zero =>
      intro i fuel d' h hf
      obtain ⟨fu, rfl⟩ : ∃ fu, fuel = fu + 1 := ⟨fuel - 1, by omega⟩
      have : i = n4 := by omega
      subst this
      show f6_digest_75b (f6_digest_75 fu) g _ _ (nI i) = _
      unfold f6_digest_75b
      rw [if_pos s1, s3, ob_some, if_pos s7, s11, if_pos (Int32.le_refl _)]
    | succ k ih =>
      intro i fuel d' h hf
      obtain ⟨fu, rfl⟩ : ∃ fu, fuel = fu + 1 := ⟨fuel - 1, by omega⟩
      have ci : Int32.toNatClampNeg (nI i) = i := cl_nI (by omega)
      obtain ⟨b10, b11⟩ := I.1.2.1.2.2.1.2.2.2.2.2.2.2 i (by omega)
      have hr := ih (i + 1) fu d' (by omega) (by omega)
      rw [dF_5] at hr
      show f6_digest_75b (f6_digest_75 fu) g _ _ (nI i) = _
      unfold f6_digest_75b
      rw [if_pos s1, s3, ob_some, if_pos s7, s11, if_neg (nI_ge (by omega) (by omega)), ob_some, if_pos s7, b7, ob_some, b9, if_pos rfl, if_pos (ixOk (by omega) (by omega)), ci, b10, ob_some, if_pos b11, p_dgLet b11 (I.1.2.2.2.2.2.2 i (by omega)), gB2_some, nI_1]
      exact hr
  have l2 : ∀ k b fuel : Nat, ∀ d' : Int64, b + k = n3 → k < fuel → f6_digest_42 fuel g a0 (dB s d' b) (nI b) = some (dF (fl (s 5)) (dB s d' n3) (5 * n4), g) := by
    intro k
    induction k with
    | zero =>
      intro b fuel d' h hf
      obtain ⟨fu, rfl⟩ : ∃ fu, fuel = fu + 1 := ⟨fuel - 1, by omega⟩
      have : b = n3 := by omega
      subst this
      show f6_digest_42b (f6_digest_42 fu) g _ _ (nI b) = _
      unfold f6_digest_42b
      rw [if_pos s1, s3, ob_some, if_pos s7, s10, if_pos (Int32.le_refl _)]
      exact l3 n4 0 300 _ (by omega) (by omega)
    | succ k ih =>
      intro b fuel d' h hf
      obtain ⟨fu, rfl⟩ : ∃ fu, fuel = fu + 1 := ⟨fuel - 1, by omega⟩
      have cb : Int32.toNatClampNeg (nI b) = b := cl_nI (by omega)
      obtain ⟨b10, b11⟩ := I.1.2.1.2.2.1.2.2.2.2.2.2.1 b (by omega)
      have hr := ih (b + 1) fu d' (by omega) (by omega)
      show f6_digest_42b (f6_digest_42 fu) g _ _ (nI b) = _
      unfold f6_digest_42b
      rw [if_pos s1, s3, ob_some, if_pos s7, s10, if_neg (nI_ge (by omega) (by omega)), ob_some, if_pos s7, b6, ob_some, b8, if_pos rfl, if_pos (ixOk (by omega) (by omega)), cb, b10, ob_some, if_pos b11, p_dgBee I (show b < n3 by omega), gB2_some, nI_1]
      exact hr
  have l1 : ∀ k j fuel : Nat, j + k = 9 → k < fuel → f6_digest_6 fuel g a0 (dF (cnS s n2 n3 n4) 811 j) (nI j) = some (dgV s n1 n2 n3 n4, g) := by
    intro k
    induction k with
    | zero =>
      intro j fuel h hf
      obtain ⟨fu, rfl⟩ : ∃ fu, fuel = fu + 1 := ⟨fuel - 1, by omega⟩
      have : j = 9 := by omega
      subst this
      show f6_digest_6b (f6_digest_6 fu) g _ _ (nI 9) = _
      unfold f6_digest_6b
      rw [if_pos (by decide), if_pos s1, s2, ob_some, if_pos s6, p_dgTown I, gB2_some]
      exact l2 n3 0 300 _ (by omega) (by omega)
    | succ k ih =>
      intro j fuel h hf
      obtain ⟨fu, rfl⟩ : ∃ fu, fuel = fu + 1 := ⟨fuel - 1, by omega⟩
      show f6_digest_6b (f6_digest_6 fu) g _ _ (nI j) = _
      unfold f6_digest_6b
      rw [if_neg (show ¬ (9 : Int32) ≤ nI j from nI_ge (b := 9) (by omega) (by omega)), if_pos s1, p_tellCount I (by omega), gB2_some, nI_1]
      exact ih (j + 1) fu (by omega) (by omega)
  exact l1 9 0 300 (by omega) (by omega)
end
section
/-! PURE: digest, the model -/
theorem m_digest {M n1 n2 n3 n4 q : Nat} {h0 : g_H} {s : Sg} (w : WF s n1 n2 n3 n4 q) (m0 : MX M h0 s n1 n2 n3 n4) (hZ0 : M + 8 < gZ h0) :
    ∃ g', f7_digest h0 M = some (dgV s n1 n2 n3 n4, g') ∧ Fmm M h0 g' ∧ MX M g' s n1 n2 n3 n4 := by
  obtain ⟨wt, w2, w3, w4, w5, w6, w7, w8, w9⟩ := w
  obtain ⟨e1, e2, e3, e4, e5, e6, e7⟩ := wt
  have l4 : ∀ h, MX M h s n1 n2 n3 n4 → ∀ k i fuel : Nat, ∀ d : Int64, i + k = 5 * n4 → k < fuel → f7_digest_195 fuel h M (dF (fl (s 5)) d i) (nI i) = some (dF (fl (s 5)) d (5 * n4), h) := by
    intro h m k
    induction k with
    | zero =>
      intro i fuel d hi hf
      obtain ⟨fu, rfl⟩ : ∃ fu, fuel = fu + 1 := ⟨fuel - 1, by omega⟩
      have : i = 5 * n4 := by omega
      subst this
      show f7_digest_195b (f7_digest_195 fu) h M _ (nI (5 * n4)) = _
      unfold f7_digest_195b
      rw [if_pos m.1.1, m.2.1.2.2.2, w4, show (5 : Int32) * nI n4 = nI (5 * n4) by rw [show (5 : Int32) = nI 5 from rfl, pk_mul], if_pos (Int32.le_refl _)]
    | succ k ih =>
      intro i fuel d hi hf
      obtain ⟨fu, rfl⟩ : ∃ fu, fuel = fu + 1 := ⟨fuel - 1, by omega⟩
      have ci : Int32.toNatClampNeg (nI i) = i := cl_nI (by omega)
      have hv : gI h (M + 6) i = fl (s 5) i := by
        have := m.2.2.2.2.1 (i / 5) (by omega) (i % 5) (by omega)
        rw [show 5 * (i / 5) + i % 5 = i by omega] at this
        exact this
      have hr := ih (i + 1) fu d (by omega) (by omega)
      show f7_digest_195b (f7_digest_195 fu) h M _ (nI i) = _
      unfold f7_digest_195b
      rw [if_pos m.1.1, m.2.1.2.2.2, w4, show (5 : Int32) * nI n4 = nI (5 * n4) by rw [show (5 : Int32) = nI 5 from rfl, pk_mul], if_neg (nI_ge (by omega) (by omega)), m.1.2.1.2.2.2.2.2.1, ob_some, m.1.2.2.2.2.2.2.2.1, if_pos rfl, if_pos (ixOk (by omega) (by omega)), ci, hv, nI_1]
      exact hr
  have l3 : ∀ (b : Nat) (K : g_H → Nat → Int64 → Int32 → Option (Int64 × g_H)) (h : g_H), b < n3 → MX M h s n1 n2 n3 n4 → ∀ k i fuel : Nat, ∀ d : Int64, i + k = cl (s 3 b 5) → k < fuel → f7_digest_150 K fuel h M (dF (s 4 b) d i) (nI b) (nI i) = K h M (dF (s 4 b) d (cl (s 3 b 5))) (nI (b + 1)) := by
    intro b K h hb m k
    obtain ⟨z, p, l, st, ho, x1, x2, x3, -⟩ := (w8 b hb).1
    have cz : cl (nI z) = z := cl_nI (by omega)
    rw [x1, cz]
    induction k with
    | zero =>
      intro i fuel d hi hf
      obtain ⟨fu, rfl⟩ : ∃ fu, fuel = fu + 1 := ⟨fuel - 1, by omega⟩
      have : i = z := by omega
      subst this
      show f7_digest_150b K (f7_digest_150 K fu) h M _ (nI b) (nI i) = _
      unfold f7_digest_150b
      rw [if_pos m.1.1, m_be (i := b) (k := 5) (y := (5 : Int32)) m w3 hb (by omega) rfl rfl, gB2_some, x1, if_pos (Int32.le_refl _), nI_1]
    | succ k ih =>
      intro i fuel d hi hf
      obtain ⟨fu, rfl⟩ : ∃ fu, fuel = fu + 1 := ⟨fuel - 1, by omega⟩
      have ci : Int32.toNatClampNeg (nI (7 * b + i)) = 7 * b + i := cl_nI (by omega)
      have hv : gI h (M + 5) (7 * b + i) = s 4 b i := m.2.2.1.2.2.2 b hb i (by rw [x1, cz]; omega)
      have hr := ih (i + 1) fu d (by omega) (by omega)
      show f7_digest_150b K (f7_digest_150 K fu) h M _ (nI b) (nI i) = _
      unfold f7_digest_150b
      rw [if_pos m.1.1, m_be (i := b) (k := 5) (y := (5 : Int32)) m w3 hb (by omega) rfl rfl, gB2_some, x1, if_neg (nI_ge (by omega) (by omega)), if_pos m.1.1, m.1.2.1.2.2.2.2.1, ob_some, m.1.2.2.2.2.2.2.1, if_pos rfl, ix7, if_pos (ixOk (by omega) (by omega)), ci, hv, nI_1]
      exact hr
  have l2 : ∀ (b : Nat) (K : g_H → Nat → Int64 → Int32 → Option (Int64 × g_H)), b < n3 → ∀ k i fuel : Nat, ∀ (d : Int64) (h : g_H), MX M h s n1 n2 n3 n4 → M + 8 < gZ h → i + k = 9 → k < fuel →
      ∃ h', f7_digest_119 K fuel h M (dF (tl s b) d i) (nI b) (nI i) = f7_digest_150 K 300 h' M (dF (tl s b) d 9) (nI b) 0 ∧ Fmm M h h' ∧ MX M h' s n1 n2 n3 n4 := by
    intro b K hb k
    induction k with
    | zero =>
      intro i fuel d h m hZ hi hf
      obtain ⟨fu, rfl⟩ : ∃ fu, fuel = fu + 1 := ⟨fuel - 1, by omega⟩
      have : i = 9 := by omega
      subst this
      refine ⟨h, ?_, Fmm.rf, m⟩
      show f7_digest_119b K (f7_digest_119 K fu) h M _ (nI b) (nI 9) = _
      unfold f7_digest_119b
      rw [if_pos (by decide)]
    | succ k ih =>
      intro i fuel d h m hZ hi hf
      obtain ⟨fu, rfl⟩ : ∃ fu, fuel = fu + 1 := ⟨fuel - 1, by omega⟩
      obtain ⟨g1, y1, y2, y3, y4⟩ := m_beeTold m hZ w3 w5 w4 hb (w8 b hb).1 (show i < 9 by omega)
      obtain ⟨g2, z1, z2, z3⟩ := ih (i + 1) fu d g1 y3 (Nat.lt_of_lt_of_le hZ y2.1) (by omega) (by omega)
      refine ⟨g2, ?_, y2.tr z2, z3⟩
      show f7_digest_119b K (f7_digest_119 K fu) h M _ (nI b) (nI i) = _
      unfold f7_digest_119b
      rw [if_neg (show ¬ (9 : Int32) ≤ nI i from nI_ge (b := 9) (by omega) (by omega)), if_pos m.1.1, y1, gB2_some, nI_1]
      exact z1
  have l1 : ∀ k b fuel : Nat, ∀ (d : Int64) (h : g_H), MX M h s n1 n2 n3 n4 → M + 8 < gZ h → b + k = n3 → k < fuel →
      ∃ h', f7_digest_108 fuel h M (dB s d b) (nI b) = some (dF (fl (s 5)) (dB s d n3) (5 * n4), h') ∧ Fmm M h h' ∧ MX M h' s n1 n2 n3 n4 := by
    intro k
    induction k with
    | zero =>
      intro b fuel d h m hZ hb hf
      obtain ⟨fu, rfl⟩ : ∃ fu, fuel = fu + 1 := ⟨fuel - 1, by omega⟩
      have : b = n3 := by omega
      subst this
      refine ⟨h, ?_, Fmm.rf, m⟩
      show f7_digest_108b (f7_digest_108 fu) h M _ (nI b) = _
      unfold f7_digest_108b
      rw [if_pos m.1.1, m.2.1.2.2.1, w2, if_pos (Int32.le_refl _)]
      exact l4 h m (5 * n4) 0 300 _ (by omega) (by omega)
    | succ k ih =>
      intro b fuel d h m hZ hb hf
      obtain ⟨fu, rfl⟩ : ∃ fu, fuel = fu + 1 := ⟨fuel - 1, by omega⟩
      obtain ⟨g1, y1, y2, y3⟩ := l2 b (f7_digest_108 fu) (by omega) 9 0 10 (dB s d b) h m hZ (by omega) (by omega)
      obtain ⟨g2, z1, z2, z3⟩ := ih (b + 1) fu d g1 y3 (Nat.lt_of_lt_of_le hZ y2.1) (by omega) (by omega)
      refine ⟨g2, ?_, y2.tr z2, z3⟩
      have hz : cl (s 3 b 5) < 300 := by
        obtain ⟨z, p, l, st, ho, x1, x2, x3, -⟩ := (w8 b (by omega)).1
        rw [x1, show cl (nI z) = z from cl_nI (by omega)]
        omega
      have y5 := l3 b (f7_digest_108 fu) g1 (by omega) y3 (cl (s 3 b 5)) 0 300 (dF (tl s b) (dB s d b) 9) (by omega) hz
      show f7_digest_108b (f7_digest_108 fu) h M _ (nI b) = _
      unfold f7_digest_108b
      rw [if_pos m.1.1, m.2.1.2.2.1, w2, if_neg (nI_ge (by omega) (by omega))]
      exact y1.trans (y5.trans z1)
  have l0 : ∀ h, MX M h s n1 n2 n3 n4 → M + 8 < gZ h → ∀ k i fuel : Nat, ∀ d : Int64, i + k = 5 * n2 → k < fuel →
      ∃ h', f7_digest_76 fuel h M (dF (fl (s 2)) d i) (nI i) = some (dF (fl (s 5)) (dB s (dF (fl (s 2)) d (5 * n2)) n3) (5 * n4), h') ∧ Fmm M h h' ∧ MX M h' s n1 n2 n3 n4 := by
    intro h m hZ k
    induction k with
    | zero =>
      intro i fuel d hi hf
      obtain ⟨fu, rfl⟩ : ∃ fu, fuel = fu + 1 := ⟨fuel - 1, by omega⟩
      have : i = 5 * n2 := by omega
      subst this
      show ∃ h', f7_digest_76b (f7_digest_76 fu) h M _ (nI (5 * n2)) = _ ∧ _
      unfold f7_digest_76b
      rw [if_pos m.1.1, m.2.1.2.1, e3, show (5 : Int32) * nI n2 = nI (5 * n2) by rw [show (5 : Int32) = nI 5 from rfl, pk_mul], if_pos (Int32.le_refl _)]
      exact l1 n3 0 7 _ h m hZ (by omega) (by omega)
    | succ k ih =>
      intro i fuel d hi hf
      obtain ⟨fu, rfl⟩ : ∃ fu, fuel = fu + 1 := ⟨fuel - 1, by omega⟩
      have ci : Int32.toNatClampNeg (nI i) = i := cl_nI (by omega)
      have hv : gI h (M + 2) i = fl (s 2) i := by
        have := m.2.2.1.2.1 (i / 5) (by omega) (i % 5) (by omega)
        rw [show 5 * (i / 5) + i % 5 = i by omega] at this
        exact this
      have hr := ih (i + 1) fu d (by omega) (by omega)
      show ∃ h', f7_digest_76b (f7_digest_76 fu) h M _ (nI i) = _ ∧ _
      unfold f7_digest_76b
      rw [if_pos m.1.1, m.2.1.2.1, e3, show (5 : Int32) * nI n2 = nI (5 * n2) by rw [show (5 : Int32) = nI 5 from rfl, pk_mul], if_neg (nI_ge (by omega) (by omega)), m.1.2.1.2.1, ob_some, m.1.2.2.2.1, if_pos rfl, if_pos (ixOk (by omega) (by omega)), ci, hv, nI_1]
      exact hr
  have lh : ∀ h, MX M h s n1 n2 n3 n4 → M + 8 < gZ h → ∀ k i fuel : Nat, ∀ d : Int64, i + k = n1 → k < fuel →
      ∃ h', f7_digest_38 fuel h M (dF (fun h => s 1 h 0) d i) (nI i) = some (dF (fl (s 5)) (dB s (dF (fl (s 2)) (dF (fun h => s 1 h 0) d n1) (5 * n2)) n3) (5 * n4), h') ∧ Fmm M h h' ∧ MX M h' s n1 n2 n3 n4 := by
    intro h m hZ k
    induction k with
    | zero =>
      intro i fuel d hi hf
      obtain ⟨fu, rfl⟩ : ∃ fu, fuel = fu + 1 := ⟨fuel - 1, by omega⟩
      have : i = n1 := by omega
      subst this
      show ∃ h', f7_digest_38b (f7_digest_38 fu) h M _ (nI i) = _ ∧ _
      unfold f7_digest_38b
      rw [if_pos m.1.1, m.2.1.1, e1, if_pos (Int32.le_refl _)]
      exact l0 h m hZ (5 * n2) 0 300 _ (by omega) (by omega)
    | succ k ih =>
      intro i fuel d hi hf
      obtain ⟨fu, rfl⟩ : ∃ fu, fuel = fu + 1 := ⟨fuel - 1, by omega⟩
      have ci : Int32.toNatClampNeg (nI i) = i := cl_nI (by omega)
      have hv : gI h (M + 1) i = s 1 i 0 := m.2.2.1.1 i (by omega)
      have hr := ih (i + 1) fu d (by omega) (by omega)
      have hd : dF (fun h => s 1 h 0) d (i + 1) = dF (fun h => s 1 h 0) d i * 31 + Int32.toInt64 (s 1 i 0) := rfl
      show ∃ h', f7_digest_38b (f7_digest_38 fu) h M _ (nI i) = _ ∧ _
      unfold f7_digest_38b f7_digest_65
      rw [if_pos m.1.1, m.2.1.1, e1, if_neg (nI_ge (by omega) (by omega)), m.1.2.1.1, ob_some, m.1.2.2.1, if_pos rfl, if_pos (ixOk (by omega) (by omega)), ci, hv, nI_1]
      rcases e6 i (by omega) with e | e
      · rw [hd, e] at hr
        rw [e, if_pos rfl]; exact hr
      · rw [hd, e] at hr
        rw [e, if_neg n10]; exact hr
  have lc : ∀ h, MX M h s n1 n2 n3 n4 → M + 8 < gZ h → ∀ k i fuel : Nat, i + k = 9 → k < fuel →
      ∃ h', f7_digest_11 fuel h M (dF (cnS s n2 n3 n4) 811 i) (nI i) = some (dgV s n1 n2 n3 n4, h') ∧ Fmm M h h' ∧ MX M h' s n1 n2 n3 n4 := by
    intro h m hZ k
    induction k with
    | zero =>
      intro i fuel hi hf
      obtain ⟨fu, rfl⟩ : ∃ fu, fuel = fu + 1 := ⟨fuel - 1, by omega⟩
      have : i = 9 := by omega
      subst this
      show ∃ h', f7_digest_11b (f7_digest_11 fu) h M _ (nI 9) = _ ∧ _
      unfold f7_digest_11b
      rw [if_pos (by decide)]
      exact lh h m hZ n1 0 300 _ (by omega) (by omega)
    | succ k ih =>
      intro i fuel hi hf
      obtain ⟨fu, rfl⟩ : ∃ fu, fuel = fu + 1 := ⟨fuel - 1, by omega⟩
      have hr := ih (i + 1) fu (by omega) (by omega)
      show ∃ h', f7_digest_11b (f7_digest_11 fu) h M _ (nI i) = _ ∧ _
      unfold f7_digest_11b
      rw [if_neg (show ¬ (9 : Int32) ≤ nI i from nI_ge (b := 9) (by omega) (by omega)), if_pos m.1.1, m_counted ⟨⟨e1, e2, e3, e4, e5, e6, e7⟩, w2, w3, w4, w5, w6, w7, w8, w9⟩ m (by omega), gB2_some, nI_1]
      exact hr
  have m' := m0.thr (v := 0)
  obtain ⟨g', x1, x2, x3⟩ := lc _ m' hZ0 9 0 300 (by omega) (by omega)
  refine ⟨g', ?_, (Fmm.put ⟨by omega, by omega⟩).tr x2, x3⟩
  unfold f7_digest
  rw [if_pos m0.1.1]
  exact x1
end
