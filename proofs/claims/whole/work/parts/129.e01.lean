/-! PURE: the model's cells hold the table -/
def fi (v : Int32) : Int32 := if v = 1000 then 9999 else v
def ML (M : Nat) (g : g_H) : Prop := (gS g M).1 = 8 ∧ (gR g M 2 = some (M + 1) ∧ gR g M 4 = some (M + 2) ∧ gR g M 5 = some (M + 3) ∧ gR g M 7 = some (M + 4) ∧ gR g M 8 = some (M + 5) ∧ gR g M 10 = some (M + 6) ∧ gR g M 11 = some (M + 7) ∧ gR g M 12 = some (M + 8)) ∧
  gS g (M + 1) = (12, 14) ∧ gS g (M + 2) = (11, 120) ∧ gS g (M + 3) = (11, 196) ∧ gS g (M + 4) = (11, 48) ∧ gS g (M + 5) = (11, 42) ∧ gS g (M + 6) = (11, 100) ∧ gS g (M + 7) = (11, 1) ∧ gS g (M + 8) = (11, 7)
def M0 (M : Nat) (g : g_H) (s : Sg) : Prop := gI g M 1 = s 0 0 1 ∧ gI g M 3 = s 0 0 2 ∧ gI g M 6 = s 0 0 3 ∧ gI g M 9 = s 0 0 4
def M1 (M : Nat) (g : g_H) (s : Sg) (n1 n2 n3 : Nat) : Prop := (∀ h, h < 14 → gI g (M + 1) h = s 1 h 0) ∧ (∀ i, i < n2 → ∀ k, k < 5 → gI g (M + 2) (5 * i + k) = s 2 i k) ∧ (∀ x y, x < n1 → y < n1 → gI g (M + 3) (14 * x + y) = fi (s 6 x y)) ∧
  ∀ b, b < n3 → ∀ k, k < cl (s 3 b 5) → gI g (M + 5) (7 * b + k) = s 4 b k
def M2 (M : Nat) (g : g_H) (s : Sg) (n3 n4 : Nat) : Prop := (∀ b, b < n3 → ∀ k, k < 8 → gI g (M + 4) (8 * b + k) = s 3 b k) ∧ (∀ i, i < n4 → ∀ k, k < 5 → gI g (M + 6) (5 * i + k) = s 5 i k) ∧ gI g (M + 7) 0 = s 0 0 0
def MI (M : Nat) (g : g_H) (s : Sg) (n1 n2 n3 n4 q : Nat) : Prop := WF s n1 n2 n3 n4 q ∧ ML M g ∧ M0 M g s ∧ M1 M g s n1 n2 n3 ∧ M2 M g s n3 n4
/-- the same without what is well formed -/
def MX (M : Nat) (g : g_H) (s : Sg) (n1 n2 n3 n4 : Nat) : Prop := ML M g ∧ M0 M g s ∧ M1 M g s n1 n2 n3 ∧ M2 M g s n3 n4
/-- what quarters may change of the model -/
def chm (M a : Nat) : Prop := a = M + 4 ∨ a = M + 6 ∨ a = M + 7
def Fm (M : Nat) (g h : g_H) : Prop := gS h = gS g ∧ gR h = gR g ∧ gJ h = gJ g ∧ gZ h = gZ g ∧ ∀ a, ¬ chm M a → gI h a = gI g a
theorem Fm.rf {M : Nat} {g : g_H} : Fm M g g := ⟨rfl, rfl, rfl, rfl, fun _ _ => rfl⟩
theorem Fm.tr {M : Nat} {g h k : g_H} (x : Fm M g h) (y : Fm M h k) : Fm M g k := ⟨y.1.trans x.1, y.2.1.trans x.2.1, y.2.2.1.trans x.2.2.1, y.2.2.2.1.trans x.2.2.2.1, fun a ha => (y.2.2.2.2 a ha).trans (x.2.2.2.2 a ha)⟩
theorem Fm.put {M a k : Nat} {g : g_H} {v : Int32} (h : chm M a) : Fm M g (gPI g a k v) := ⟨rfl, rfl, rfl, rfl, fun b hb => gU_o fun q => hb (q ▸ h)⟩
theorem MX.fm {M n1 n2 n3 n4 : Nat} {g h : g_H} {s t : Sg} (m : MX M g s n1 n2 n3 n4) (f : Fm M g h) (hs : Same s t) (d : M2 M h t n3 n4) : MX M h t n1 n2 n3 n4 := by
  obtain ⟨m1, m2, m3, m4⟩ := m
  obtain ⟨f1, f2, f3, f4, f5⟩ := f
  have e : ∀ a, ¬ chm M a → gI h a = gI g a := f5
  refine ⟨by unfold ML; rw [f1, f2]; exact m1, ?_, ?_, d⟩
  · unfold M0
    rw [e M (by unfold chm; omega), hs.1 1 (by omega), hs.1 2 (by omega), hs.1 3 (by omega), hs.1 4 (by omega)]
    exact m2
  · unfold M1
    rw [e _ (by unfold chm; omega), e _ (by unfold chm; omega), e _ (by unfold chm; omega), e _ (by unfold chm; omega), hs.2.1, hs.2.2.1, hs.2.2.2.1, hs.2.2.2.2.1]
    simp only [hs.2.2.2.2.2]
    exact m3
theorem M2.b {M n3 n4 b k : Nat} {g : g_H} {s : Sg} {v : Int32} (d : M2 M g s n3 n4) (hk : k < 8) : M2 M (gPI g (M + 4) (8 * b + k) v) (su s 3 b k v) n3 n4 := by
  obtain ⟨d1, d2, d3⟩ := d
  refine ⟨fun b' hb' k' hk' => ?_, fun i hi k' hk' => ?_, ?_⟩
  · rw [gI_PI, if_pos rfl]
    by_cases e : b' = b ∧ k' = k
    · rw [e.1, e.2, if_pos rfl, su_s]
    · rw [if_neg (by omega)]
      unfold su
      rw [if_neg (by omega)]
      exact d1 b' hb' k' hk'
  · rw [gI_PI, if_neg (by omega), su_t (by omega)]; exact d2 i hi k' hk'
  · rw [gI_PI, if_neg (by omega), su_t (by omega)]; exact d3
theorem M2.l {M n3 n4 i k : Nat} {g : g_H} {s : Sg} {v : Int32} (d : M2 M g s n3 n4) (hk : k < 5) : M2 M (gPI g (M + 6) (5 * i + k) v) (su s 5 i k v) n3 n4 := by
  obtain ⟨d1, d2, d3⟩ := d
  refine ⟨fun b' hb' k' hk' => ?_, fun i' hi k' hk' => ?_, ?_⟩
  · rw [gI_PI, if_neg (by omega), su_t (by omega)]; exact d1 b' hb' k' hk'
  · rw [gI_PI, if_pos rfl]
    by_cases e : i' = i ∧ k' = k
    · rw [e.1, e.2, if_pos rfl, su_s]
    · rw [if_neg (by omega)]
      unfold su
      rw [if_neg (by omega)]
      exact d2 i' hi k' hk'
  · rw [gI_PI, if_neg (by omega), su_t (by omega)]; exact d3
theorem M2.q {M n3 n4 : Nat} {g : g_H} {s : Sg} {v : Int32} (d : M2 M g s n3 n4) : M2 M (gPI g (M + 7) 0 v) (su s 0 0 0 v) n3 n4 := by
  obtain ⟨d1, d2, d3⟩ := d
  refine ⟨fun b' hb' k' hk' => ?_, fun i' hi k' hk' => ?_, ?_⟩
  · rw [gI_PI, if_neg (by omega), su_t (by omega)]; exact d1 b' hb' k' hk'
  · rw [gI_PI, if_neg (by omega), su_t (by omega)]; exact d2 i' hi k' hk'
  · rw [gI_PI, if_pos rfl, if_pos rfl, su_s]
theorem ix5 {i k : Nat} : (5 : Int32) * nI i + nI k = nI (5 * i + k) := by rw [show (5 : Int32) = nI 5 from rfl, pk_mul, nI_add]
theorem ix8 {i k : Nat} : (8 : Int32) * nI i + nI k = nI (8 * i + k) := by rw [show (8 : Int32) = nI 8 from rfl, pk_mul, nI_add]
theorem ix7 {i k : Nat} : (7 : Int32) * nI i + nI k = nI (7 * i + k) := by rw [show (7 : Int32) = nI 7 from rfl, pk_mul, nI_add]
theorem ix14 {i k : Nat} : (14 : Int32) * nI i + nI k = nI (14 * i + k) := by rw [show (14 : Int32) = nI 14 from rfl, pk_mul, nI_add]
theorem ixOk {n j : Nat} (h : j < n) (hn : n < 2 ^ 31) : ¬ (nI j < 0 ∨ n ≤ Int32.toNatClampNeg (nI j)) := nI_in h hn
theorem m_ro {M n1 n2 n3 n4 i k : Nat} {g : g_H} {s : Sg} {x y : Int32} (m : MX M g s n1 n2 n3 n4) (h24 : n2 ≤ 24) (hi : i < n2) (hk : k < 5) (hx : x = nI i) (hy : y = nI k) : f7_ro g M x y = some (s 2 i k, g) := by
  obtain ⟨⟨l1, ⟨l2, l3, l4, l5, l6, l7, l8, l9⟩, k1, k2, k3, k4, k5, k6, k7, k8⟩, m2, m3, m4⟩ := m
  subst hx; subst hy
  have c1 : Int32.toNatClampNeg (nI (5 * i + k)) = 5 * i + k := cl_nI (by omega)
  unfold f7_ro
  rw [if_pos l1, l3, ob_some, k2, if_pos rfl, ix5, if_pos (ixOk (by omega) (by omega)), c1, m3.2.1 i hi k hk]
theorem m_be {M n1 n2 n3 n4 i k : Nat} {g : g_H} {s : Sg} {x y : Int32} (m : MX M g s n1 n2 n3 n4) (h6 : n3 ≤ 6) (hi : i < n3) (hk : k < 8) (hx : x = nI i) (hy : y = nI k) : f7_be g M x y = some (s 3 i k, g) := by
  obtain ⟨⟨l1, ⟨l2, l3, l4, l5, l6, l7, l8, l9⟩, k1, k2, k3, k4, k5, k6, k7, k8⟩, m2, m3, m4⟩ := m
  subst hx; subst hy
  have c1 : Int32.toNatClampNeg (nI (8 * i + k)) = 8 * i + k := cl_nI (by omega)
  unfold f7_be
  rw [if_pos l1, l5, ob_some, k4, if_pos rfl, ix8, if_pos (ixOk (by omega) (by omega)), c1, m4.1 i hi k hk]
theorem m_setBe {M n1 n2 n3 n4 i k : Nat} {g : g_H} {s : Sg} {x y : Int32} (m : MX M g s n1 n2 n3 n4) (h6 : n3 ≤ 6) (hi : i < n3) (hk : k < 8) (hx : x = nI i) (hy : y = nI k) (v : Int32) : f7_setBe g M x y v = some (gPI g (M + 4) (8 * i + k) v) := by
  obtain ⟨⟨l1, ⟨l2, l3, l4, l5, l6, l7, l8, l9⟩, k1, k2, k3, k4, k5, k6, k7, k8⟩, m2, m3, m4⟩ := m
  subst hx; subst hy
  have c1 : Int32.toNatClampNeg (nI (8 * i + k)) = 8 * i + k := cl_nI (by omega)
  unfold f7_setBe
  rw [if_pos l1, l5, ob_some, k4, if_pos rfl, ix8, if_pos (ixOk (by omega) (by omega)), c1]
theorem m_le {M n1 n2 n3 n4 i k : Nat} {g : g_H} {s : Sg} {x y : Int32} (m : MX M g s n1 n2 n3 n4) (h20 : n4 ≤ 20) (hi : i < n4) (hk : k < 5) (hx : x = nI i) (hy : y = nI k) : f7_le g M x y = some (s 5 i k, g) := by
  obtain ⟨⟨l1, ⟨l2, l3, l4, l5, l6, l7, l8, l9⟩, k1, k2, k3, k4, k5, k6, k7, k8⟩, m2, m3, m4⟩ := m
  subst hx; subst hy
  have c1 : Int32.toNatClampNeg (nI (5 * i + k)) = 5 * i + k := cl_nI (by omega)
  unfold f7_le
  rw [if_pos l1, l7, ob_some, k6, if_pos rfl, ix5, if_pos (ixOk (by omega) (by omega)), c1, m4.2.1 i hi k hk]
theorem m_setLe {M n1 n2 n3 n4 i k : Nat} {g : g_H} {s : Sg} {x y : Int32} (m : MX M g s n1 n2 n3 n4) (h20 : n4 ≤ 20) (hi : i < n4) (hk : k < 5) (hx : x = nI i) (hy : y = nI k) (v : Int32) : f7_setLe g M x y v = some (gPI g (M + 6) (5 * i + k) v) := by
  obtain ⟨⟨l1, ⟨l2, l3, l4, l5, l6, l7, l8, l9⟩, k1, k2, k3, k4, k5, k6, k7, k8⟩, m2, m3, m4⟩ := m
  subst hx; subst hy
  have c1 : Int32.toNatClampNeg (nI (5 * i + k)) = 5 * i + k := cl_nI (by omega)
  unfold f7_setLe
  rw [if_pos l1, l7, ob_some, k6, if_pos rfl, ix5, if_pos (ixOk (by omega) (by omega)), c1]
theorem fi_lt {a b : Nat} (ha : a ≤ 1000) (hb : b ≤ 1000) : fi (nI a) < fi (nI b) ↔ nI a < nI b := by
  unfold fi
  have e : ∀ c, c ≤ 1000 → (nI c = 1000 ↔ c = 1000) := fun c hc => nI_eq (b := 1000) (by omega) (by omega)
  have p : ∀ c, c ≤ 1000 → (nI c < (9999 : Int32)) := fun c hc => nI_lt (b := 9999) (by omega) (by omega)
  by_cases h1 : a = 1000
  · rw [if_pos ((e a ha).mpr h1), h1]
    by_cases h2 : b = 1000
    · rw [if_pos ((e b hb).mpr h2), h2]
      exact ⟨fun q => absurd q (Int32.lt_irrefl), fun q => absurd q (Int32.lt_irrefl)⟩
    · rw [if_neg fun q => h2 ((e b hb).mp q)]
      exact ⟨fun q => absurd (Int32.lt_trans q (p b hb)) (Int32.lt_irrefl), fun q => absurd q (nI_nlt hb (by omega))⟩
  · rw [if_neg fun q => h1 ((e a ha).mp q)]
    by_cases h2 : b = 1000
    · rw [if_pos ((e b hb).mpr h2), h2]
      exact ⟨fun _ => nI_lt (by omega) (by omega), fun _ => p a ha⟩
    · rw [if_neg fun q => h2 ((e b hb).mp q)]
theorem m_away {M n1 n2 n3 n4 x y : Nat} {g : g_H} {s : Sg} {u v : Int32} (m : MX M g s n1 n2 n3 n4) (wt : WT s n1 n2) (hx : x < n1) (hy : y < n1) (hu : u = nI x) (hv : v = nI y) : f7_away g M u v = some (fi (wy s u v), g) := by
  obtain ⟨⟨l1, ⟨l2, l3, l4, l5, l6, l7, l8, l9⟩, k1, k2, k3, k4, k5, k6, k7, k8⟩, m2, m3, m4⟩ := m
  subst hu; subst hv
  obtain ⟨w1, w2, w3, w4, w5, w6, w7⟩ := wt
  have c1 : Int32.toNatClampNeg (nI (14 * x + y)) = 14 * x + y := cl_nI (by omega)
  have hw : wy s (nI x) (nI y) = s 6 x y := by
    unfold wy
    rw [w1, if_pos ⟨inR_of (by omega) hx, inR_of (by omega) hy⟩, show cl (nI x) = x from cl_nI (by omega), show cl (nI y) = y from cl_nI (by omega)]
  obtain ⟨d, hd, hd2⟩ := w7 x y hx hy
  unfold f7_away
  rw [if_pos l1, l4, ob_some, k3, if_pos rfl, ix14, if_pos (ixOk (by omega) (by omega)), c1, m3.2.2.1 x y hx hy, hw]
  by_cases e : fi (s 6 x y) < (9999 : Int32)
  · rw [if_pos e]
  · rw [if_neg e]
    have : fi (s 6 x y) = 9999 := by
      unfold fi
      split
      · rfl
      · rename_i h
        exfalso; apply e
        unfold fi
        rw [if_neg h, hd2]
        exact nI_lt (b := 9999) (by omega) (by omega)
    rw [this]
