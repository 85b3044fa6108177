/-! PURE: count as a call -/
theorem m_cntLoop {M n1 n2 n3 n4 : Nat} {g : g_H} {s : Sg} {x1 : Int32} {w : Nat} (m : MX M g s n1 n2 n3 n4) (h20 : n4 ≤ 20) (w4 : s 0 0 4 = nI n4) (hx : (x1 = 5 ∧ w = 3) ∨ (x1 ≠ 5 ∧ w = 2)) : ∀ k i fuel : Nat, i + k = n4 → k < fuel → f7_counted_77 fuel g M x1 (sF (fun i => if s 5 i w = -1 then 0 else 1) i) (nI i) = some (sF (fun i => if s 5 i w = -1 then 0 else 1) n4, g) := by
  intro k
  have e9 : gI g M 9 = nI n4 := m.2.1.2.2.2.trans w4
  induction k with
  | zero =>
    intro i fuel h hf
    obtain ⟨fu, rfl⟩ : ∃ fu, fuel = fu + 1 := ⟨fuel - 1, by omega⟩
    have : i = n4 := by omega
    subst this
    show f7_counted_77b _ g M x1 _ (nI i) = _
    unfold f7_counted_77b
    rw [if_pos m.1.1, e9, if_pos (Int32.le_refl _)]
  | succ k ih =>
    intro i fuel h hf
    obtain ⟨fu, rfl⟩ : ∃ fu, fuel = fu + 1 := ⟨fuel - 1, by omega⟩
    have := ih (i + 1) fu (by omega) (by omega)
    have hs : sF (fun i => if s 5 i w = -1 then (0 : Int32) else 1) (i + 1) = sF (fun i => if s 5 i w = -1 then 0 else 1) i + (if s 5 i w = -1 then 0 else 1) := rfl
    rw [hs] at this
    have main : ∀ y : Int32, y = nI w → f7_counted_98 (f7_counted_77 fu) g M x1 (nI i) (sF (fun i => if s 5 i w = -1 then 0 else 1) i) M (nI i) y = some (sF (fun i => if s 5 i w = -1 then 0 else 1) n4, g) := by
      intro y hy
      unfold f7_counted_98 f7_counted_110
      rw [if_pos m.1.1, m_le (k := w) m h20 (show i < n4 by omega) (by omega) rfl hy, gB2_some, nI_1]
      by_cases c : s 5 i w = -1
      · rw [if_pos c]
        rw [if_pos c] at this
        exact this
      · rw [if_neg c]
        rw [if_neg c] at this
        exact this
    show f7_counted_77b (f7_counted_77 fu) g M x1 _ (nI i) = _
    unfold f7_counted_77b
    rw [if_pos m.1.1, e9, if_neg (nI_ge (by omega) (by omega))]
    rcases hx with ⟨h1, h2⟩ | ⟨h1, h2⟩
    · rw [if_pos h1]; exact main 3 (by rw [h2]; rfl)
    · rw [if_neg h1]; exact main 2 (by rw [h2]; rfl)
theorem m_restLoop {M n1 n2 n3 n4 : Nat} {g : g_H} {s : Sg} (m : MX M g s n1 n2 n3 n4) (h6 : n3 ≤ 6) (w3 : s 0 0 3 = nI n3) : ∀ k b fuel : Nat, b + k = n3 → k < fuel → f7_counted_122 fuel g M (sF (fun b => s 3 b 4) b) (nI b) = some (sF (fun b => s 3 b 4) n3, g) := by
  intro k
  have e6 : gI g M 6 = nI n3 := m.2.1.2.2.1.trans w3
  induction k with
  | zero =>
    intro b fuel h hf
    obtain ⟨fu, rfl⟩ : ∃ fu, fuel = fu + 1 := ⟨fuel - 1, by omega⟩
    have : b = n3 := by omega
    subst this
    show f7_counted_122b _ g M _ (nI b) = _
    unfold f7_counted_122b
    rw [if_pos m.1.1, e6, if_pos (Int32.le_refl _)]
  | succ k ih =>
    intro b fuel h hf
    obtain ⟨fu, rfl⟩ : ∃ fu, fuel = fu + 1 := ⟨fuel - 1, by omega⟩
    show f7_counted_122b (f7_counted_122 fu) g M _ (nI b) = _
    unfold f7_counted_122b
    rw [if_pos m.1.1, e6, if_neg (nI_ge (by omega) (by omega)), m_be (k := 4) (y := (4 : Int32)) m h6 (show b < n3 by omega) (by omega) rfl rfl, gB2_some, nI_1]
    exact ih (b + 1) fu (by omega) (by omega)
theorem m_gateLoop {M n1 n2 n3 n4 q : Nat} {g : g_H} {s : Sg} (m : MX M g s n1 n2 n3 n4) (wt : WT s n1 n2) (h0 : s 0 0 0 = nI q) (hq : q < 2 ^ 26) : ∀ k i fuel : Nat, i + k = n2 → k < fuel → f7_counted_149 fuel g M (sF (opI s) i) (nI i) = some (sF (opI s) n2, g) := by
  intro k
  have h24 := wt.2.2.2.1
  have e3 : gI g M 3 = nI n2 := m.2.1.2.1.trans wt.2.2.1
  induction k with
  | zero =>
    intro i fuel h hf
    obtain ⟨fu, rfl⟩ : ∃ fu, fuel = fu + 1 := ⟨fuel - 1, by omega⟩
    have : i = n2 := by omega
    subst this
    show f7_counted_149b _ g M _ (nI i) = _
    unfold f7_counted_149b
    rw [if_pos m.1.1, e3, if_pos (Int32.le_refl _)]
  | succ k ih =>
    intro i fuel h hf
    obtain ⟨fu, rfl⟩ : ∃ fu, fuel = fu + 1 := ⟨fuel - 1, by omega⟩
    obtain ⟨v, v1, v2, v3⟩ := m_isOpen m wt h0 hq (show i < n2 by omega) rfl
    have := ih (i + 1) fu (by omega) (by omega)
    have hs : sF (opI s) (i + 1) = sF (opI s) i + opI s i := rfl
    rw [hs] at this
    show f7_counted_149b (f7_counted_149 fu) g M _ (nI i) = _
    unfold f7_counted_149b f7_counted_171
    rw [if_pos m.1.1, e3, if_neg (nI_ge (by omega) (by omega)), v1, gB2_some, nI_1]
    rcases v2 with v2 | v2
    · have e : opI s i = 0 := by
        unfold opI
        by_cases c : hourS s < s 2 i 3 ∨ s 2 i 4 ≤ hourS s
        · rw [if_pos c]
        · exfalso
          have := v3.mpr ⟨fun k => c (Or.inl k), fun k => c (Or.inr k)⟩
          rw [v2] at this
          exact absurd this (by decide)
      rw [if_pos v2]
      rw [e] at this
      exact this
    · have e : opI s i = 1 := by
        have := v3.mp v2
        unfold opI
        rw [if_neg fun k => k.elim this.1 this.2]
      rw [if_neg (by rw [v2]; exact n10)]
      rw [e] at this
      exact this
theorem m_counted {M n1 n2 n3 n4 q k : Nat} {g : g_H} {s : Sg} (w : WF s n1 n2 n3 n4 q) (m : MX M g s n1 n2 n3 n4) (hk : k < 9) : f7_counted g M (nI k) = some (cnS s n2 n3 n4 k, g) := by
  have h6 := w.2.2.1
  have h20 := w.2.2.2.2.1
  have w4 := w.2.2.2.1
  unfold f7_counted cnS f7_counted_75
  match k, hk with
  | 0, _ => rw [if_pos (by decide), if_pos m.1.1, m.1.2.1.2.2.2.2.2.2.1, ob_some, m.1.2.2.2.2.2.2.2.2.1, if_pos rfl, if_pos (by decide), show Int32.toNatClampNeg (0 : Int32) = 0 from rfl, m.2.2.2.2.2, if_pos (by decide)]
  | 1, _ => rw [if_neg (by decide), if_pos (by decide), if_pos m.1.1, m.2.1.1, if_pos (by decide)]
  | 2, _ => rw [if_neg (by decide), if_neg (by decide), if_pos (by decide), if_pos m.1.1, m.2.1.2.1, if_pos (by decide)]
  | 3, _ => rw [if_neg (by decide), if_neg (by decide), if_neg (by decide), if_pos (by decide), if_pos m.1.1, m.2.1.2.2.1, if_pos (by decide)]
  | 4, _ => rw [if_neg (by decide), if_neg (by decide), if_neg (by decide), if_neg (by decide), if_pos (by decide), if_pos m.1.1, m.2.1.2.2.2, if_pos (by decide)]
  | 5, _ =>
    rw [if_neg (by decide), if_neg (by decide), if_neg (by decide), if_neg (by decide), if_neg (by decide), if_pos (by decide), if_neg (by decide), if_pos rfl, arr_def w4 h20, arrF_s]
    exact m_cntLoop m h20 w4 (Or.inl ⟨rfl, rfl⟩) n4 0 300 (by omega) (by omega)
  | 6, _ =>
    rw [if_neg (by decide), if_neg (by decide), if_neg (by decide), if_neg (by decide), if_neg (by decide), if_neg (by decide), if_pos (by decide), if_neg (by decide), if_neg (by decide), if_pos rfl]
    exact m_cntLoop m h20 w4 (Or.inr ⟨by decide, rfl⟩) n4 0 300 (by omega) (by omega)
  | 7, _ =>
    rw [if_neg (by decide), if_neg (by decide), if_neg (by decide), if_neg (by decide), if_neg (by decide), if_neg (by decide), if_neg (by decide), if_pos (by decide), if_neg (by decide), if_neg (by decide), if_neg (by decide), if_pos rfl]
    exact m_restLoop m h6 w.2.1 n3 0 300 (by omega) (by omega)
  | 8, _ =>
    rw [if_neg (by decide), if_neg (by decide), if_neg (by decide), if_neg (by decide), if_neg (by decide), if_neg (by decide), if_neg (by decide), if_neg (by decide), if_neg (by decide), if_neg (by decide), if_neg (by decide), if_neg (by decide)]
    exact m_gateLoop m w.1 w.2.2.2.2.2.1 w.2.2.2.2.2.2.1 n2 0 300 (by omega) (by have := w.1.2.2.2.1; omega)
theorem o_count {a0 n1 n2 n3 n4 q : Nat} {g : g_H} {s : Sg} (I : ClI a0 g s n1 n2 n3 n4 q) (x : Int32) : OpR a0 g s n1 n2 n3 n4 q (f6_count g a0 x) (fun h => f7_count h (a0 + 153) x) c1 := by
  obtain ⟨s1, s2, s3, s4, s5, s6, s7, s8, s9, s10, s11, s12, s13, s14, s15⟩ := I.sh
  have i8 : ∀ h, f7_isIn h x 0 8 = some (if inR (nI 9) x then 1 else 0, h) := fun h => isIn_w (by omega) (by decide)
  by_cases hx : inR (nI 9) x
  · obtain ⟨k, hk, rfl⟩ := inR_nat (by omega) hx
    refine OpR.qry I (cnS s n2 n3 n4 k) ?_ rfl fun h m => ?_
    · unfold f6_count
      rw [p_checkWhat, gB2_some, if_pos (show inR (9 : Int32) (nI k) from hx), if_pos n0e, if_pos s1, p_tellCount I hk, gB2_some]
    · have m' := m.thr (v := 0)
      unfold f7_count
      rw [if_pos m.1.1, i8, gB2_some, if_pos hx, if_neg n10, if_pos m'.1.1, m_counted I.1.1 m' hk, gB2_some]
  · refine OpR.thr I 1 (by omega) (by omega) ?_ fun h m => ?_
    · unfold f6_count
      rw [p_checkWhat, gB2_some, if_neg (show ¬ inR (9 : Int32) x from hx), if_neg n1e]
    · have m' := m.thr (v := 0)
      unfold f7_count
      rw [if_pos m.1.1, i8, gB2_some, if_neg hx, if_pos rfl, if_pos m'.1.1, m_fail m'.1.1, gB2_some]
      rfl
