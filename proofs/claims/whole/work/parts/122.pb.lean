section
/-! PURE: the model's cells hold the table -/
def fi (v : Int32) : Int32 := if v = 1000 then 9999 else v
def ML (M : Nat) (g : g_H) : Prop := (gS g M).1 = 8 ∧ (gR g M 2 = some (M + 1) ∧ gR g M 4 = some (M + 2) ∧ gR g M 5 = some (M + 3) ∧ gR g M 7 = some (M + 4) ∧ gR g M 8 = some (M + 5) ∧ gR g M 10 = some (M + 6) ∧ gR g M 11 = some (M + 7) ∧ gR g M 12 = some (M + 8)) ∧
  gS g (M + 1) = (12, 14) ∧ gS g (M + 2) = (11, 120) ∧ gS g (M + 3) = (11, 196) ∧ gS g (M + 4) = (11, 48) ∧ gS g (M + 5) = (11, 42) ∧ gS g (M + 6) = (11, 100) ∧ gS g (M + 7) = (11, 1) ∧ gS g (M + 8) = (11, 7)
def M0 (M : Nat) (g : g_H) (s : Sg) : Prop := gI g M 1 = s 0 0 1 ∧ gI g M 3 = s 0 0 2 ∧ gI g M 6 = s 0 0 3 ∧ gI g M 9 = s 0 0 4
def M1 (M : Nat) (g : g_H) (s : Sg) (n1 n2 n3 : Nat) : Prop := (∀ h, h < 14 → gI g (M + 1) h = s 1 h 0) ∧ (∀ i, i < n2 → ∀ k, k < 5 → gI g (M + 2) (5 * i + k) = s 2 i k) ∧ (∀ x y, x < n1 → y < n1 → gI g (M + 3) (14 * x + y) = fi (s 6 x y)) ∧
  ∀ b, b < n3 → ∀ k, k < cl (s 3 b 5) → gI g (M + 5) (7 * b + k) = s 4 b k
def M2 (M : Nat) (g : g_H) (s : Sg) (n3 n4 : Nat) : Prop := (∀ b, b < n3 → ∀ k, k < 8 → gI g (M + 4) (8 * b + k) = s 3 b k) ∧ (∀ i, i < n4 → ∀ k, k < 5 → gI g (M + 6) (5 * i + k) = s 5 i k) ∧ gI g (M + 7) 0 = s 0 0 0
def MI (M : Nat) (g : g_H) (s : Sg) (n1 n2 n3 n4 q : Nat) : Prop := WF s n1 n2 n3 n4 q ∧ ML M g ∧ M0 M g s ∧ M1 M g s n1 n2 n3 ∧ M2 M g s n3 n4
/-- the same without what is well formed -/
def MX (M : Nat) (g : g_H) (s : Sg) (n1 n2 n3 n4 : Nat) : Prop := ML M g ∧ M0 M g s ∧ M1 M g s n1 n2 n3 ∧ M2 M g s n3 n4
/-- what quarters may change of the model -/
def chm (M a : Nat) : Prop := a = M + 4 ∨ a = M + 6 ∨ a = M + 7
def Fm (M : Nat) (g h : g_H) : Prop := gS h = gS g ∧ gR h = gR g ∧ gJ h = gJ g ∧ gZ h = gZ g ∧ ∀ a, ¬ chm M a → gI h a = gI g a
theorem Fm.rf {M : Nat} {g : g_H} : Fm M g g := ⟨rfl, rfl, rfl, rfl, fun _ _ => rfl⟩
theorem Fm.tr {M : Nat} {g h k : g_H} (x : Fm M g h) (y : Fm M h k) : Fm M g k := ⟨y.1.trans x.1, y.2.1.trans x.2.1, y.2.2.1.trans x.2.2.1, y.2.2.2.1.trans x.2.2.2.1, fun a ha => (y.2.2.2.2 a ha).trans (x.2.2.2.2 a ha)⟩
theorem Fm.put {M a k : Nat} {g : g_H} {v : Int32} (h : chm M a) : Fm M g (gPI g a k v) := ⟨rfl, rfl, rfl, rfl, fun b hb => gU_o fun q => hb (q ▸ h)⟩
theorem MX.fm {M n1 n2 n3 n4 : Nat} {g h : g_H} {s t : Sg} (m : MX M g s n1 n2 n3 n4) (f : Fm M g h) (hs : Same s t) (d : M2 M h t n3 n4) : MX M h t n1 n2 n3 n4 := by
  obtain ⟨m1, m2, m3, m4⟩ := m
  obtain ⟨f1, f2, f3, f4, f5⟩ := f
  have e : ∀ a, ¬ chm M a → gI h a = gI g a := f5
  refine ⟨by unfold ML; rw [f1, f2]; exact m1, ?_, ?_, d⟩
  · unfold M0
    rw [e M (by unfold chm; omega), hs.1 1 (by omega), hs.1 2 (by omega), hs.1 3 (by omega), hs.1 4 (by omega)]
    exact m2
  · unfold M1
    rw [e _ (by unfold chm; omega), e _ (by unfold chm; omega), e _ (by unfold chm; omega), e _ (by unfold chm; omega), hs.2.1, hs.2.2.1, hs.2.2.2.1, hs.2.2.2.2.1]
    simp only [hs.2.2.2.2.2]
    exact m3
theorem M2.b {M n3 n4 b k : Nat} {g : g_H} {s : Sg} {v : Int32} (d : M2 M g s n3 n4) (hk : k < 8) : M2 M (gPI g (M + 4) (8 * b + k) v) (su s 3 b k v) n3 n4 := by
  obtain ⟨d1, d2, d3⟩ := d
  refine ⟨fun b' hb' k' hk' => ?_, fun i hi k' hk' => ?_, ?_⟩
  · rw [gI_PI, if_pos rfl]
    by_cases e : b' = b ∧ k' = k
    · rw [e.1, e.2, if_pos rfl, su_s]
    · rw [if_neg (by omega)]
      unfold su
      rw [if_neg (by omega)]
      exact d1 b' hb' k' hk'
  · rw [gI_PI, if_neg (by omega), su_t (by omega)]; exact d2 i hi k' hk'
  · rw [gI_PI, if_neg (by omega), su_t (by omega)]; exact d3
theorem M2.l {M n3 n4 i k : Nat} {g : g_H} {s : Sg} {v : Int32} (d : M2 M g s n3 n4) (hk : k < 5) : M2 M (gPI g (M + 6) (5 * i + k) v) (su s 5 i k v) n3 n4 := by
  obtain ⟨d1, d2, d3⟩ := d
  refine ⟨fun b' hb' k' hk' => ?_, fun i' hi k' hk' => ?_, ?_⟩
  · rw [gI_PI, if_neg (by omega), su_t (by omega)]; exact d1 b' hb' k' hk'
  · rw [gI_PI, if_pos rfl]
    by_cases e : i' = i ∧ k' = k
    · rw [e.1, e.2, if_pos rfl, su_s]
    · rw [if_neg (by omega)]
      unfold su
      rw [if_neg (by omega)]
      exact d2 i' hi k' hk'
  · rw [gI_PI, if_neg (by omega), su_t (by omega)]; exact d3
theorem M2.q {M n3 n4 : Nat} {g : g_H} {s : Sg} {v : Int32} (d : M2 M g s n3 n4) : M2 M (gPI g (M + 7) 0 v) (su s 0 0 0 v) n3 n4 := by
  obtain ⟨d1, d2, d3⟩ := d
  refine ⟨fun b' hb' k' hk' => ?_, fun i' hi k' hk' => ?_, ?_⟩
  · rw [gI_PI, if_neg (by omega), su_t (by omega)]; exact d1 b' hb' k' hk'
  · rw [gI_PI, if_neg (by omega), su_t (by omega)]; exact d2 i' hi k' hk'
  · rw [gI_PI, if_pos rfl, if_pos rfl, su_s]
theorem ix5 {i k : Nat} : (5 : Int32) * nI i + nI k = nI (5 * i + k) := by rw [show (5 : Int32) = nI 5 from rfl, pk_mul, nI_add]
theorem ix8 {i k : Nat} : (8 : Int32) * nI i + nI k = nI (8 * i + k) := by rw [show (8 : Int32) = nI 8 from rfl, pk_mul, nI_add]
theorem ix7 {i k : Nat} : (7 : Int32) * nI i + nI k = nI (7 * i + k) := by rw [show (7 : Int32) = nI 7 from rfl, pk_mul, nI_add]
theorem ix14 {i k : Nat} : (14 : Int32) * nI i + nI k = nI (14 * i + k) := by rw [show (14 : Int32) = nI 14 from rfl, pk_mul, nI_add]
theorem ixOk {n j : Nat} (h : j < n) (hn : n < 2 ^ 31) : ¬ (nI j < 0 ∨ n ≤ Int32.toNatClampNeg (nI j)) := nI_in h hn
theorem m_ro {M n1 n2 n3 n4 i k : Nat} {g : g_H} {s : Sg} {x y : Int32} (m : MX M g s n1 n2 n3 n4) (h24 : n2 ≤ 24) (hi : i < n2) (hk : k < 5) (hx : x = nI i) (hy : y = nI k) : f7_ro g M x y = some (s 2 i k, g) := by
  obtain ⟨⟨l1, ⟨l2, l3, l4, l5, l6, l7, l8, l9⟩, k1, k2, k3, k4, k5, k6, k7, k8⟩, m2, m3, m4⟩ := m
  subst hx; subst hy
  have c1 : Int32.toNatClampNeg (nI (5 * i + k)) = 5 * i + k := cl_nI (by omega)
  unfold f7_ro
  rw [if_pos l1, l3, ob_some, k2, if_pos rfl, ix5, if_pos (ixOk (by omega) (by omega)), c1, m3.2.1 i hi k hk]
theorem m_be {M n1 n2 n3 n4 i k : Nat} {g : g_H} {s : Sg} {x y : Int32} (m : MX M g s n1 n2 n3 n4) (h6 : n3 ≤ 6) (hi : i < n3) (hk : k < 8) (hx : x = nI i) (hy : y = nI k) : f7_be g M x y = some (s 3 i k, g) := by
  obtain ⟨⟨l1, ⟨l2, l3, l4, l5, l6, l7, l8, l9⟩, k1, k2, k3, k4, k5, k6, k7, k8⟩, m2, m3, m4⟩ := m
  subst hx; subst hy
  have c1 : Int32.toNatClampNeg (nI (8 * i + k)) = 8 * i + k := cl_nI (by omega)
  unfold f7_be
  rw [if_pos l1, l5, ob_some, k4, if_pos rfl, ix8, if_pos (ixOk (by omega) (by omega)), c1, m4.1 i hi k hk]
theorem m_setBe {M n1 n2 n3 n4 i k : Nat} {g : g_H} {s : Sg} {x y : Int32} (m : MX M g s n1 n2 n3 n4) (h6 : n3 ≤ 6) (hi : i < n3) (hk : k < 8) (hx : x = nI i) (hy : y = nI k) (v : Int32) : f7_setBe g M x y v = some (gPI g (M + 4) (8 * i + k) v) := by
  obtain ⟨⟨l1, ⟨l2, l3, l4, l5, l6, l7, l8, l9⟩, k1, k2, k3, k4, k5, k6, k7, k8⟩, m2, m3, m4⟩ := m
  subst hx; subst hy
  have c1 : Int32.toNatClampNeg (nI (8 * i + k)) = 8 * i + k := cl_nI (by omega)
  unfold f7_setBe
  rw [if_pos l1, l5, ob_some, k4, if_pos rfl, ix8, if_pos (ixOk (by omega) (by omega)), c1]
theorem m_le {M n1 n2 n3 n4 i k : Nat} {g : g_H} {s : Sg} {x y : Int32} (m : MX M g s n1 n2 n3 n4) (h20 : n4 ≤ 20) (hi : i < n4) (hk : k < 5) (hx : x = nI i) (hy : y = nI k) : f7_le g M x y = some (s 5 i k, g) := by
  obtain ⟨⟨l1, ⟨l2, l3, l4, l5, l6, l7, l8, l9⟩, k1, k2, k3, k4, k5, k6, k7, k8⟩, m2, m3, m4⟩ := m
  subst hx; subst hy
  have c1 : Int32.toNatClampNeg (nI (5 * i + k)) = 5 * i + k := cl_nI (by omega)
  unfold f7_le
  rw [if_pos l1, l7, ob_some, k6, if_pos rfl, ix5, if_pos (ixOk (by omega) (by omega)), c1, m4.2.1 i hi k hk]
theorem m_setLe {M n1 n2 n3 n4 i k : Nat} {g : g_H} {s : Sg} {x y : Int32} (m : MX M g s n1 n2 n3 n4) (h20 : n4 ≤ 20) (hi : i < n4) (hk : k < 5) (hx : x = nI i) (hy : y = nI k) (v : Int32) : f7_setLe g M x y v = some (gPI g (M + 6) (5 * i + k) v) := by
  obtain ⟨⟨l1, ⟨l2, l3, l4, l5, l6, l7, l8, l9⟩, k1, k2, k3, k4, k5, k6, k7, k8⟩, m2, m3, m4⟩ := m
  subst hx; subst hy
  have c1 : Int32.toNatClampNeg (nI (5 * i + k)) = 5 * i + k := cl_nI (by omega)
  unfold f7_setLe
  rw [if_pos l1, l7, ob_some, k6, if_pos rfl, ix5, if_pos (ixOk (by omega) (by omega)), c1]
theorem fi_lt {a b : Nat} (ha : a ≤ 1000) (hb : b ≤ 1000) : fi (nI a) < fi (nI b) ↔ nI a < nI b := by
  unfold fi
  have e : ∀ c, c ≤ 1000 → (nI c = 1000 ↔ c = 1000) := fun c hc => nI_eq (b := 1000) (by omega) (by omega)
  have p : ∀ c, c ≤ 1000 → (nI c < (9999 : Int32)) := fun c hc => nI_lt (b := 9999) (by omega) (by omega)
  by_cases h1 : a = 1000
  · rw [if_pos ((e a ha).mpr h1), h1]
    by_cases h2 : b = 1000
    · rw [if_pos ((e b hb).mpr h2), h2]
      exact ⟨fun q => absurd q (Int32.lt_irrefl), fun q => absurd q (Int32.lt_irrefl)⟩
    · rw [if_neg fun q => h2 ((e b hb).mp q)]
      exact ⟨fun q => absurd (Int32.lt_trans q (p b hb)) (Int32.lt_irrefl), fun q => absurd q (nI_nlt hb (by omega))⟩
  · rw [if_neg fun q => h1 ((e a ha).mp q)]
    by_cases h2 : b = 1000
    · rw [if_pos ((e b hb).mpr h2), h2]
      exact ⟨fun _ => nI_lt (by omega) (by omega), fun _ => p a ha⟩
    · rw [if_neg fun q => h2 ((e b hb).mp q)]
theorem m_away {M n1 n2 n3 n4 x y : Nat} {g : g_H} {s : Sg} {u v : Int32} (m : MX M g s n1 n2 n3 n4) (wt : WT s n1 n2) (hx : x < n1) (hy : y < n1) (hu : u = nI x) (hv : v = nI y) : f7_away g M u v = some (fi (wy s u v), g) := by
  obtain ⟨⟨l1, ⟨l2, l3, l4, l5, l6, l7, l8, l9⟩, k1, k2, k3, k4, k5, k6, k7, k8⟩, m2, m3, m4⟩ := m
  subst hu; subst hv
  obtain ⟨w1, w2, w3, w4, w5, w6, w7⟩ := wt
  have c1 : Int32.toNatClampNeg (nI (14 * x + y)) = 14 * x + y := cl_nI (by omega)
  have hw : wy s (nI x) (nI y) = s 6 x y := by
    unfold wy
    rw [w1, if_pos ⟨inR_of (by omega) hx, inR_of (by omega) hy⟩, show cl (nI x) = x from cl_nI (by omega), show cl (nI y) = y from cl_nI (by omega)]
  obtain ⟨d, hd, hd2⟩ := w7 x y hx hy
  unfold f7_away
  rw [if_pos l1, l4, ob_some, k3, if_pos rfl, ix14, if_pos (ixOk (by omega) (by omega)), c1, m3.2.2.1 x y hx hy, hw]
  by_cases e : fi (s 6 x y) < (9999 : Int32)
  · rw [if_pos e]
  · rw [if_neg e]
    have : fi (s 6 x y) = 9999 := by
      unfold fi
      split
      · rfl
      · rename_i h
        exfalso; apply e
        unfold fi
        rw [if_neg h, hd2]
        exact nI_lt (b := 9999) (by omega) (by omega)
    rw [this]
end
section
/-! PURE: the model's small methods -/
theorem m_house {M n1 n2 n3 n4 b : Nat} {g : g_H} {s : Sg} {x : Int32} (m : MX M g s n1 n2 n3 n4) (h6 : n3 ≤ 6) (hb : b < n3) (wb : WB s n1 b) (hx : x = nI b) : f7_house g M x = some (s 4 b (cl (s 3 b 0)), g) := by
  have hbe := m_be (k := 0) (y := 0) m h6 hb (by omega) hx rfl
  obtain ⟨⟨l1, ⟨l2, l3, l4, l5, l6, l7, l8, l9⟩, k1, k2, k3, k4, k5, k6, k7, k8⟩, m2, m3, m4⟩ := m
  obtain ⟨z, p, l, st, ho, e1, e2, e3, e4, e5, -⟩ := wb
  subst hx
  have c1 : Int32.toNatClampNeg (nI (7 * b + p)) = 7 * b + p := cl_nI (by omega)
  have cp : cl (nI p) = p := cl_nI (by omega)
  have cz : cl (nI z) = z := cl_nI (by omega)
  have hr := m3.2.2.2 b hb p (by rw [e1, cz]; exact e5)
  unfold f7_house
  rw [if_pos l1, l6, ob_some, hbe, gB2_some, e4, k5, if_pos rfl, ix7, if_pos (ixOk (by omega) (by omega)), c1, hr, cp]
theorem m_carLoop {M n1 n2 n3 n4 : Nat} {g : g_H} {s : Sg} {b : Nat} (m : MX M g s n1 n2 n3 n4) (h20 : n4 ≤ 20) (e4 : s 0 0 4 = nI n4) :
    ∀ k i fuel : Nat, i + k = n4 → k < fuel → f7_carries_4 fuel g M (nI b) (carF s b i) (nI i) = some (carF s b n4, g) := by
  intro k
  induction k with
  | zero =>
    intro i fuel h hf
    obtain ⟨fu, rfl⟩ : ∃ fu, fuel = fu + 1 := ⟨fuel - 1, by omega⟩
    have : i = n4 := by omega
    subst this
    show f7_carries_4b _ g M (nI b) (carF s b i) (nI i) = _
    unfold f7_carries_4b
    rw [if_pos m.1.1, m.2.1.2.2.2, e4, if_pos (Int32.le_refl _)]
  | succ k ih =>
    intro i fuel h hf
    obtain ⟨fu, rfl⟩ : ∃ fu, fuel = fu + 1 := ⟨fuel - 1, by omega⟩
    show f7_carries_4b (f7_carries_4 fu) g M (nI b) (carF s b i) (nI i) = _
    unfold f7_carries_4b f7_carries_28
    rw [if_pos m.1.1, m.2.1.2.2.2, e4, if_neg (nI_ge (by omega) (by omega)), m_le (i := i) (k := 2) (y := 2) m h20 (by omega) (by omega) rfl rfl, gB2_some, nI_1]
    have := ih (i + 1) fu (by omega) (by omega)
    by_cases e : s 5 i 2 = nI b
    · rw [if_pos e]
      have e' : carF s b (i + 1) = carF s b i + 1 := by show carF s b i + _ = _; rw [if_pos e]
      rw [← e']; exact this
    · rw [if_neg e]
      have e' : carF s b (i + 1) = carF s b i + 0 := by show carF s b i + _ = _; rw [if_neg e]
      rw [← e']; exact this
theorem m_carries {M n1 n2 n3 n4 b : Nat} {g : g_H} {s : Sg} {x : Int32} (m : MX M g s n1 n2 n3 n4) (h20 : n4 ≤ 20) (e4 : s 0 0 4 = nI n4) (hx : x = nI b) : f7_carries g M x = some (car s b, g) := by
  subst hx
  rw [car_def e4 h20]
  exact m_carLoop m h20 e4 n4 0 300 (by omega) (by omega)
theorem tgF_in {s : Sg} {b n1 : Nat} {to : Int32} {k : Nat} (h : ∀ j, j < k → inR (nI n1) (s 4 b j)) : ((tgF s b to k).1 = -1 ∧ (tgF s b to k).2 = 1000) ∨ (inR (nI n1) (tgF s b to k).1 ∧ (tgF s b to k).2 = wy s (tgF s b to k).1 to) := by
  induction k with
  | zero => exact Or.inl ⟨rfl, rfl⟩
  | succ k ih =>
    unfold tgF
    by_cases c : wy s (s 4 b k) to < (tgF s b to k).2
    · rw [if_pos c]; exact Or.inr ⟨h k (by omega), rfl⟩
    · rw [if_neg c]; exact ih fun j hj => h j (by omega)
theorem wy_nat {s : Sg} {n1 n2 : Nat} (wt : WT s n1 n2) (x y : Int32) : ∃ d, d ≤ 1000 ∧ wy s x y = nI d := by
  obtain ⟨w1, w2, w3, w4, w5, w6, w7⟩ := wt
  unfold wy
  rw [w1]
  by_cases h : inR (nI n1) x ∧ inR (nI n1) y
  · rw [if_pos h]
    obtain ⟨i, hi, rfl⟩ := inR_nat (by omega) h.1
    obtain ⟨j, hj, rfl⟩ := inR_nat (by omega) h.2
    rw [show cl (nI i) = i from cl_nI (by omega), show cl (nI j) = j from cl_nI (by omega)]
    exact w7 i j hi hj
  · rw [if_neg h]; exact ⟨1000, by omega, rfl⟩
theorem m1_ne {n : Nat} {x : Int32} (h : inR (nI n) x) : x ≠ -1 := fun e => by
  rw [e] at h
  exact h.1 (by decide)
theorem m_tgLoop {M n1 n2 n3 n4 b z y : Nat} {g : g_H} {s : Sg} (m : MX M g s n1 n2 n3 n4) (wt : WT s n1 n2) (h6 : n3 ≤ 6) (hb : b < n3) (h5 : s 3 b 5 = nI z) (hz : z ≤ 7) (hin : ∀ j, j < z → inR (nI n1) (s 4 b j)) (hy : y < n1) :
    ∀ k i fuel : Nat, i + k = z → k < fuel → f7_targetOf_5 fuel g M (nI b) (nI y) (tgF s b (nI y) i).1 (nI i) = some ((tgF s b (nI y) z).1, g) := by
  intro k
  have h14 : n1 ≤ 14 := wt.2.1
  induction k with
  | zero =>
    intro i fuel h hf
    obtain ⟨fu, rfl⟩ : ∃ fu, fuel = fu + 1 := ⟨fuel - 1, by omega⟩
    have : i = z := by omega
    subst this
    show f7_targetOf_5b _ g M (nI b) (nI y) _ (nI i) = _
    unfold f7_targetOf_5b
    rw [if_pos m.1.1, m_be (i := b) (k := 5) (y := (5 : Int32)) m h6 hb (by omega) rfl rfl, gB2_some, h5, if_pos (Int32.le_refl _)]
  | succ k ih =>
    intro i fuel h hf
    obtain ⟨fu, rfl⟩ : ∃ fu, fuel = fu + 1 := ⟨fuel - 1, by omega⟩
    have hrec := ih (i + 1) fu (by omega) (by omega)
    obtain ⟨x, hx1, hx2⟩ := inR_nat (by omega) (hin i (by omega))
    have cz : cl (nI z) = z := cl_nI (by omega)
    have c1 : Int32.toNatClampNeg (nI (7 * b + i)) = 7 * b + i := cl_nI (by omega)
    have hr := m.2.2.1.2.2.2 b hb i (by rw [h5, cz]; omega)
    obtain ⟨da, hda, ha⟩ := wy_nat wt (s 4 b i) (nI y)
    show f7_targetOf_5b (f7_targetOf_5 fu) g M (nI b) (nI y) _ (nI i) = _
    unfold f7_targetOf_5b f7_targetOf_54 f7_targetOf_60
    rw [if_pos m.1.1, m_be (i := b) (k := 5) (y := 5) m h6 hb (by omega) rfl rfl, gB2_some, h5, if_neg (nI_ge (by omega) (by omega)), if_pos m.1.1, m.1.2.1.2.2.2.2.1, ob_some, m.1.2.2.2.2.2.2.1, if_pos rfl, ix7, if_pos (ixOk (by omega) (by omega)), c1, hr, m_away m wt hx1 hy hx2 rfl, gB2_some, nI_1]
    rcases tgF_in (s := s) (b := b) (to := nI y) (k := i) (fun j hj => hin j (by omega)) with ⟨q1, q2⟩ | ⟨q1, q2⟩
    · rw [if_pos q1]
      have h9 : (9999 : Int32) = fi (nI 1000) := (if_pos (show nI 1000 = (1000 : Int32) from rfl)).symm
      by_cases c : wy s (s 4 b i) (nI y) < (tgF s b (nI y) i).2
      · have e : tgF s b (nI y) (i + 1) = (s 4 b i, wy s (s 4 b i) (nI y)) := if_pos c
        rw [if_neg, show s 4 b i = (tgF s b (nI y) (i + 1)).1 by rw [e]]
        · exact hrec
        · rw [q2, ha] at c
          have c' := (fi_lt hda (Nat.le_refl 1000)).mpr c
          rw [ha, h9]
          exact Int32.not_le.mpr c'
      · have e : tgF s b (nI y) (i + 1) = tgF s b (nI y) i := if_neg c
        rw [if_pos, ← e]
        · exact hrec
        · rw [q2, ha] at c
          rw [ha, h9]
          exact Int32.not_lt.mp fun k => c ((fi_lt hda (Nat.le_refl 1000)).mp k)
    · rw [if_neg (m1_ne q1), if_pos m.1.1]
      obtain ⟨x', hx1', hx2'⟩ := inR_nat (by omega) q1
      rw [m_away m wt hx1' hy hx2' rfl, gB2_some]
      obtain ⟨db, hdb, hb'⟩ := wy_nat wt (tgF s b (nI y) i).1 (nI y)
      by_cases c : wy s (s 4 b i) (nI y) < (tgF s b (nI y) i).2
      · have e : tgF s b (nI y) (i + 1) = (s 4 b i, wy s (s 4 b i) (nI y)) := if_pos c
        rw [if_neg, show s 4 b i = (tgF s b (nI y) (i + 1)).1 by rw [e]]
        · exact hrec
        · rw [q2, ha, hb'] at c
          have c' := (fi_lt hda hdb).mpr c
          rw [ha, hb']
          exact Int32.not_le.mpr c'
      · have e : tgF s b (nI y) (i + 1) = tgF s b (nI y) i := if_neg c
        rw [if_pos, ← e]
        · exact hrec
        · rw [q2, ha, hb'] at c
          rw [ha, hb']
          exact Int32.not_lt.mp fun k => c ((fi_lt hda hdb).mp k)
theorem m_targetOf {M n1 n2 n3 n4 b : Nat} {g : g_H} {s : Sg} {x to : Int32} (m : MX M g s n1 n2 n3 n4) (wt : WT s n1 n2) (h6 : n3 ≤ 6) (hb : b < n3) (wb : WB s n1 b) (ht : inR (nI n1) to) (hx : x = nI b) : f7_targetOf g M x to = some (tg s b to, g) := by
  subst hx
  have h14 : n1 ≤ 14 := wt.2.1
  obtain ⟨y, hy, rfl⟩ := inR_nat (by omega) ht
  obtain ⟨z, p, l, st, ho, e1, e2, e3, e4, e5, e6, e7, e8, e9, e10, e11, e12, e13, e14, e15⟩ := wb
  have := m_tgLoop m wt h6 hb e1 e3 e14 hy z 0 300 (by omega) (by omega)
  unfold tg
  rw [e1, show cl (nI z) = z from cl_nI (by omega)]
  exact this
theorem tg_in {s : Sg} {b n1 : Nat} {to : Int32} (wb : WB s n1 b) : (tg s b to = -1) ∨ inR (nI n1) (tg s b to) := by
  obtain ⟨z, p, l, st, ho, e1, e2, e3, e4, e5, e6, e7, e8, e9, e10, e11, e12, e13, e14, e15⟩ := wb
  unfold tg
  rw [e1, show cl (nI z) = z from cl_nI (by omega)]
  rcases tgF_in (s := s) (b := b) (to := to) (k := z) e14 with ⟨q1, -⟩ | ⟨q1, -⟩
  · exact Or.inl q1
  · exact Or.inr q1
theorem m_slLoop {M n1 n2 n3 n4 : Nat} {g : g_H} {s : Sg} {a b : Int32} (m : MX M g s n1 n2 n3 n4) (wt : WT s n1 n2) :
    ∀ k i fuel : Nat, i + k = n2 → k < fuel → f7_lane_5 fuel g M a b (slF s a b i) (nI i) = some (slF s a b n2, g) := by
  intro k
  have h24 : n2 ≤ 24 := wt.2.2.2.1
  induction k with
  | zero =>
    intro i fuel h hf
    obtain ⟨fu, rfl⟩ : ∃ fu, fuel = fu + 1 := ⟨fuel - 1, by omega⟩
    have : i = n2 := by omega
    subst this
    show f7_lane_5b _ g M a b _ (nI i) = _
    unfold f7_lane_5b
    rw [if_pos m.1.1, m.2.1.2.1, wt.2.2.1, if_pos (Int32.le_refl _)]
  | succ k ih =>
    intro i fuel h hf
    obtain ⟨fu, rfl⟩ : ∃ fu, fuel = fu + 1 := ⟨fuel - 1, by omega⟩
    have hrec := ih (i + 1) fu (by omega) (by omega)
    have r0 := m_ro (i := i) (k := 0) (y := 0) m h24 (by omega) (by omega) rfl rfl
    have r1 := m_ro (i := i) (k := 1) (y := 1) m h24 (by omega) (by omega) rfl rfl
    have r2 := m_ro (i := i) (k := 2) (y := 2) m h24 (by omega) (by omega) rfl rfl
    -- joined: take it if it is shorter
    have yes : ((s 2 i 0 = a ∧ s 2 i 1 = b) ∨ (s 2 i 0 = b ∧ s 2 i 1 = a)) → f7_lane_58 (f7_lane_5 fu) g M a b (slF s a b i) (nI i) = some (slF s a b n2, g) := by
      intro hj
      unfold f7_lane_58 f7_lane_63 f7_lane_91 f7_lane_94
      rw [if_neg n10, nI_1]
      rcases slF_in (s := s) (a := a) (b := b) (k := i) with q | ⟨j, hj2, q⟩
      · have e : slF s a b (i + 1) = nI i := if_pos ⟨hj, Or.inl q⟩
        rw [if_pos q, ← e]
        exact hrec
      · have qn : slF s a b i ≠ -1 := by rw [q]; exact nI_m1 (by omega)
        rw [if_neg qn, if_pos m.1.1, r2, gB2_some, if_pos m.1.1, m_ro (i := j) (k := 2) (y := 2) m h24 (by omega) (by omega) q rfl, gB2_some]
        have cj : cl (slF s a b i) = j := by rw [q]; exact cl_nI (by omega)
        by_cases c : s 2 j 2 ≤ s 2 i 2
        · have e : slF s a b (i + 1) = slF s a b i := if_neg fun k => by
            rcases k.2 with k2 | k2
            · exact qn k2
            · rw [cj] at k2; exact Int32.not_lt.mpr c k2
          rw [if_pos c, ← e]
          exact hrec
        · have e : slF s a b (i + 1) = nI i := if_pos ⟨hj, Or.inr (by rw [cj]; exact Int32.not_le.mp c)⟩
          rw [if_neg c, ← e]
          exact hrec
    have no : ¬ ((s 2 i 0 = a ∧ s 2 i 1 = b) ∨ (s 2 i 0 = b ∧ s 2 i 1 = a)) → f7_lane_62 (f7_lane_5 fu) g M a b (slF s a b i) (nI i) = some (slF s a b n2, g) := by
      intro hj
      have e : slF s a b (i + 1) = slF s a b i := if_neg fun k => hj k.1
      unfold f7_lane_62 f7_lane_63 f7_lane_94
      rw [if_pos rfl, nI_1, ← e]
      exact hrec
    have second : ¬ (s 2 i 0 = a ∧ s 2 i 1 = b) → f7_lane_36 (f7_lane_5 fu) g M a b (slF s a b i) (nI i) = some (slF s a b n2, g) := by
      intro hn
      unfold f7_lane_36
      rw [if_pos m.1.1, r0, gB2_some]
      by_cases c1 : s 2 i 0 = b
      · rw [if_pos c1, if_pos m.1.1, r1, gB2_some]
        by_cases c2 : s 2 i 1 = a
        · rw [if_pos c2]; exact yes (Or.inr ⟨c1, c2⟩)
        · rw [if_neg c2]; exact no fun k => k.elim hn fun k => c2 k.2
      · rw [if_neg c1]; exact no fun k => k.elim hn fun k => c1 k.1
    show f7_lane_5b (f7_lane_5 fu) g M a b _ (nI i) = _
    unfold f7_lane_5b
    rw [if_pos m.1.1, m.2.1.2.1, wt.2.2.1, if_neg (nI_ge (by omega) (by omega)), r0, gB2_some]
    by_cases c1 : s 2 i 0 = a
    · rw [if_pos c1, if_pos m.1.1, r1, gB2_some]
      by_cases c2 : s 2 i 1 = b
      · rw [if_pos c2]; exact yes (Or.inl ⟨c1, c2⟩)
      · rw [if_neg c2]; exact second fun k => c2 k.2
    · rw [if_neg c1]; exact second fun k => c1 k.1
theorem m_lane {M n1 n2 n3 n4 : Nat} {g : g_H} {s : Sg} (m : MX M g s n1 n2 n3 n4) (wt : WT s n1 n2) (a b : Int32) : f7_lane g M a b = some (sl s a b, g) := by
  have h24 : n2 ≤ 24 := wt.2.2.2.1
  have := m_slLoop (a := a) (b := b) m wt n2 0 300 (by omega) (by omega)
  unfold sl
  rw [wt.2.2.1, show cl (nI n2) = n2 from cl_nI (by omega)]
  exact this
end
section
/-! PURE: the model deals -/
theorem su_su {s : Sg} {t i k : Nat} {v w : Int32} : su (su s t i k v) t i k w = su s t i k w := by
  funext a b c
  unfold su
  split <;> rfl
theorem su_comm {s : Sg} {t i k t' i' k' : Nat} {v w : Int32} (h : t ≠ t' ∨ i ≠ i' ∨ k ≠ k') : su (su s t i k v) t' i' k' w = su (su s t' i' k' w) t i k v := by
  funext a b c
  unfold su
  by_cases h1 : a = t ∧ b = i ∧ c = k
  · rw [if_pos h1, if_pos h1, if_neg (by omega)]
  · rw [if_neg h1, if_neg h1]
theorem MX.putL {M n1 n2 n3 n4 i k : Nat} {g : g_H} {s : Sg} {v : Int32} (m : MX M g s n1 n2 n3 n4) (hk : k < 5) : MX M (gPI g (M + 6) (5 * i + k) v) (su s 5 i k v) n1 n2 n3 n4 := m.fm (Fm.put (Or.inr (Or.inl rfl))) Same.l (m.2.2.2.l hk)
theorem MX.putB {M n1 n2 n3 n4 b k : Nat} {g : g_H} {s : Sg} {v : Int32} (m : MX M g s n1 n2 n3 n4) (hk : k < 8) (h5 : k ≠ 5) : MX M (gPI g (M + 4) (8 * b + k) v) (su s 3 b k v) n1 n2 n3 n4 := m.fm (Fm.put (Or.inl rfl)) (Same.b h5) (m.2.2.2.b hk)
theorem MX.putQ {M n1 n2 n3 n4 : Nat} {g : g_H} {s : Sg} {v : Int32} (m : MX M g s n1 n2 n3 n4) : MX M (gPI g (M + 7) 0 v) (su s 0 0 0 v) n1 n2 n3 n4 := m.fm (Fm.put (Or.inr (Or.inr rfl))) Same.q m.2.2.2.q
theorem fmL {M k : Nat} {g : g_H} {v : Int32} : Fm M g (gPI g (M + 6) k v) := Fm.put (Or.inr (Or.inl rfl))
theorem fmB {M k : Nat} {g : g_H} {v : Int32} : Fm M g (gPI g (M + 4) k v) := Fm.put (Or.inl rfl)
theorem m_honour {M n1 n2 n3 n4 b : Nat} {g : g_H} {s : Sg} {x : Int32} (m : MX M g s n1 n2 n3 n4) (h6 : n3 ≤ 6) (hb : b < n3) (hx : x = nI b) (v : Int32) : f7_honour g M x v = some (gPI g (M + 4) (8 * b + 3) (clip (s 3 b 3 + v))) := by
  unfold f7_honour
  rw [if_pos m.1.1, m_be (k := 3) (y := (3 : Int32)) m h6 hb (by omega) hx rfl, gB2_some, if_pos m.1.1, m_setBe (k := 3) (y := (3 : Int32)) m h6 hb (by omega) hx rfl, ob_some]
  rfl
theorem m_strengthen {M n1 n2 n3 n4 b : Nat} {g : g_H} {s : Sg} {x : Int32} (m : MX M g s n1 n2 n3 n4) (h6 : n3 ≤ 6) (hb : b < n3) (hx : x = nI b) (v : Int32) : f7_strengthen g M x v = some (gPI g (M + 4) (8 * b + 2) (strong (s 3 b 2 + v))) := by
  unfold f7_strengthen
  rw [if_pos m.1.1, m_be (k := 2) (y := (2 : Int32)) m h6 hb (by omega) hx rfl, gB2_some, if_pos m.1.1, m_setBe (k := 2) (y := (2 : Int32)) m h6 hb (by omega) hx rfl, ob_some]
  rfl
theorem m_take {M n1 n2 n3 n4 b i : Nat} {g : g_H} {s : Sg} {x y : Int32} (m : MX M g s n1 n2 n3 n4) (h20 : n4 ≤ 20) (hi : i < n4) (hx : x = nI b) (hy : y = nI i) : ∃ g', f7_take g M x y = some g' ∧ Fm M g g' ∧ MX M g' (takeS s b i) n1 n2 n3 n4 := by
  subst hx
  have m1 := m.putL (i := i) (k := 1) (v := -1) (by omega)
  have m2 := m1.putL (i := i) (k := 2) (v := nI b) (by omega)
  have m3 := m2.putL (i := i) (k := 4) (v := s 5 i 4 + 1) (by omega)
  have e4 : (su (su s 5 i 1 (-1)) 5 i 2 (nI b)) 5 i 4 = s 5 i 4 := (su_k (by omega)).trans (su_k (by omega))
  refine ⟨_, ?_, (fmL.tr fmL).tr fmL, m3⟩
  unfold f7_take
  rw [if_pos m.1.1, m_setLe (k := 1) (y := (1 : Int32)) m h20 hi (by omega) hy rfl, ob_some, if_pos m1.1.1, m_setLe (k := 2) (y := (2 : Int32)) m1 h20 hi (by omega) hy rfl, ob_some, if_pos m2.1.1, m_le (k := 4) (y := (4 : Int32)) m2 h20 hi (by omega) hy rfl, gB2_some, if_pos m2.1.1, m_setLe (k := 4) (y := (4 : Int32)) m2 h20 hi (by omega) hy rfl, ob_some, e4]
theorem arr_del {s : Sg} {b i n1 n2 n3 n4 q : Nat} (w : WF s n1 n2 n3 n4 q) (hb : b < n3) (hi : i < n4) (h : s 5 i 2 = nI b) : arr (delS s b i) = arr s + 1 := by
  have hn4 := w.2.2.2.1
  have b19 := w.2.2.2.2.1
  have h6 := w.2.2.1
  have e4 : (delS s b i) 0 0 4 = nI n4 := (delS_same.1 4 (by omega)).trans hn4
  rw [arr_def e4 b19, arr_def hn4 b19]
  refine arrF_more hi ?_ ?_ ?_
  · exact (w.2.2.2.2.2.2.2.2 i hi).2.2.2.1 (by rw [h]; exact nI_m1 (by omega)) |>.2
  · have : delS s b i 5 i 3 = s 0 0 0 := by simp [delS, su]
    rw [this, w.2.2.2.2.2.1]
    exact nI_m1 (by have := w.2.2.2.2.2.2.1; omega)
  · intro j _ hj
    simp [delS, su, hj]
theorem arr_keep {s t : Sg} (h0 : t 0 0 4 = s 0 0 4) (h : ∀ i, t 5 i 3 = s 5 i 3) : arr t = arr s := by
  unfold arr
  rw [h0]
  exact arrF_keep fun i _ => h i
theorem arr_lay {s : Sg} {i : Nat} {here : Int32} : arr (layS s i here) = arr s := arr_keep (layS_same.1 4 (by omega)) fun j => by simp [layS, su]
theorem arr_take {s : Sg} {b i : Nat} : arr (takeS s b i) = arr s := arr_keep (takeS_same.1 4 (by omega)) fun j => by simp [takeS, su]
theorem del_6 {s : Sg} {b i : Nat} : delS s b i 3 b 6 = s 3 b 6 + 1 := by simp [delS, su]
theorem lay_6 {s : Sg} {b i : Nat} {here : Int32} : layS s i here 3 b 6 = s 3 b 6 := by simp [layS, su]
theorem del_V {s : Sg} {b i : Nat} {v0 : Int32} : su (delS s b i) 3 b 6 v0 = su (su (su (su s 3 b 6 v0) 5 i 2 (-1)) 5 i 3 (s 0 0 0)) 3 b 3 (clip (s 3 b 3 + 1)) := by
  unfold delS
  rw [su_comm (Or.inr (Or.inr (by omega))), su_su, su_comm (t := 5) (k := 3) (Or.inl (by omega)), su_comm (t := 5) (k := 2) (Or.inl (by omega))]
theorem lay_V {s : Sg} {b i : Nat} {here v0 : Int32} : su (layS s i here) 3 b 6 v0 = su (su (su s 3 b 6 v0) 5 i 2 (-1)) 5 i 1 here := by
  unfold layS
  rw [su_comm (t := 5) (k := 1) (Or.inl (by omega)), su_comm (t := 5) (k := 2) (Or.inl (by omega))]
theorem WB.v6 {s : Sg} {n1 b b' : Nat} {v0 : Int32} (w : WB s n1 b) : WB (su s 3 b' 6 v0) n1 b := by
  have hs : Same s (su s 3 b' 6 v0) := Same.b (by omega)
  have w' := w
  obtain ⟨z, p, l, st, ho, e1, e2, e3, e4, e5, e6, e7, e8, e9, e10, e11, e12, e13, e14, e15⟩ := w
  exact WB.keep hs w' (by simp [su]) (by simp [su]) ⟨st, e9, by rw [← e8]; simp [su]⟩ ⟨ho, e11, by rw [← e10]; simp [su]⟩ (by simpa [su] using e12) (by simpa [su] using e13)
theorem m_hoStep {M a0 F n1 n2 n3 n4 q b i : Nat} {g g0 : g_H} {s : Sg} {v0 x2 : Int32} (c : CI a0 F g0 s n1 n2 n3 n4 q) (m : MX M g (su s 3 b 6 v0) n1 n2 n3 n4) (hb : b < n3) (hi : i < n4) {here : Int32} :
    ∃ g' x2', (∀ K, f7_deal_11b K g M (nI b) x2 here (nI i) = K g' M (nI b) x2' here (nI i + 1)) ∧ Fm M g g' ∧ MX M g' (su (hoS s b here i) 3 b 6 v0) n1 n2 n3 n4 ∧ (x2 = s 3 b 6 - v0 → x2' = hoS s b here i 3 b 6 - v0) ∧ ∀ A, x2 = arr s - A → x2' = arr (hoS s b here i) - A := by
  have w := c.1
  have h6 := w.2.2.1
  have h20 := w.2.2.2.2.1
  have w4 := w.2.2.2.1
  have e9 : gI g M 9 = nI n4 := m.2.1.2.2.2.trans ((su_t (by omega)).trans w4)
  have hS : Same s (su s 3 b 6 v0) := Same.b (by omega)
  have l2 : f7_le g M (nI i) 2 = some (s 5 i 2, g) := by
    rw [m_le (k := 2) (y := (2 : Int32)) m h20 hi (by omega) rfl rfl, su_t (by omega)]
  have l0 : f7_le g M (nI i) 0 = some (s 5 i 0, g) := by
    rw [m_le (k := 0) (y := (0 : Int32)) m h20 hi (by omega) rfl rfl, su_t (by omega)]
  have hto : inR (nI n1) (s 5 i 0) := (w.2.2.2.2.2.2.2.2 i hi).1
  have sub1 : ∀ a b : Int32, a + 1 - b = a - b + 1 := fun a b => by
    rw [Int32.sub_eq_add_neg, Int32.sub_eq_add_neg, Int32.add_assoc, Int32.add_assoc, Int32.add_comm 1]
  by_cases h : s 5 i 2 = nI b
  · have m1 := m.putL (i := i) (k := 2) (v := -1) (by omega)
    by_cases h' : s 5 i 0 = here
    · have m2 := m1.putL (i := i) (k := 3) (v := s 0 0 0) (by omega)
      have m3 := m2.putB (b := b) (k := 3) (v := clip (s 3 b 3 + 1)) (by omega) (by omega)
      have e00 : gI (gPI g (M + 6) (5 * i + 2) (-1)) (M + 7) 0 = s 0 0 0 := by
        rw [gI_PI, if_neg (by omega), m.2.2.2.2.2, su_t (by omega)]
      have e33 : (su (su (su s 3 b 6 v0) 5 i 2 (-1)) 5 i 3 (s 0 0 0)) 3 b 3 = s 3 b 3 := by rw [su_t (by omega), su_t (by omega), su_k (by omega)]
      have ehs : hoS s b here i = delS s b i := by unfold hoS; rw [if_pos h, if_pos h']; rfl
      refine ⟨_, x2 + 1, fun K => ?_, (fmL.tr fmL).tr fmB, by rw [ehs, del_V]; exact m3, ?_, ?_⟩
      · unfold f7_deal_11b f7_deal_50 f7_deal_76 f7_deal_122
        rw [if_pos m.1.1, e9, if_neg (nI_ge hi (by omega)), l2, gB2_some, if_pos h, if_pos m.1.1, l0, gB2_some, if_pos h', if_neg n10, if_pos m.1.1, m_setLe (k := 2) (y := (2 : Int32)) m h20 hi (by omega) rfl rfl, ob_some, if_neg n10, if_pos m1.1.1, m1.1.2.1.2.2.2.2.2.2.1, ob_some, m1.1.2.2.2.2.2.2.2.2.1, if_pos rfl, if_pos (by decide)]
        rw [show Int32.toNatClampNeg (0 : Int32) = 0 from rfl, e00, m_setLe (k := 3) (y := (3 : Int32)) m1 h20 hi (by omega) rfl rfl, ob_some, if_pos m2.1.1, m_honour m2 h6 hb rfl, ob_some, e33]
      · intro hx
        rw [ehs, del_6, hx, sub1]
      · intro A hx
        rw [ehs, arr_del w hb hi h, hx, sub1]
    · have e0 := m_targetOf (to := s 5 i 0) m (w.1.same hS) h6 hb ((c.wb hb).v6) hto rfl
      rw [hS.tgE] at e0
      by_cases h'' : tg s b (s 5 i 0) = here
      · have m2 := m1.putL (i := i) (k := 1) (v := here) (by omega)
        have ehs : hoS s b here i = layS s i here := by unfold hoS; rw [if_pos h, if_neg h', if_pos h'']; rfl
        refine ⟨_, x2, fun K => ?_, fmL.tr fmL, by rw [ehs, lay_V]; exact m2, ?_, ?_⟩
        · unfold f7_deal_11b f7_deal_50 f7_deal_76 f7_deal_122
          rw [if_pos m.1.1, e9, if_neg (nI_ge hi (by omega)), l2, gB2_some, if_pos h, if_pos m.1.1, l0, gB2_some, if_neg h', if_pos rfl, if_pos m.1.1, l0, gB2_some, if_pos m.1.1, e0, gB2_some, if_pos h'', if_pos m.1.1, m_setLe (k := 2) (y := (2 : Int32)) m h20 hi (by omega) rfl rfl, ob_some, if_pos rfl, if_pos m1.1.1, m_setLe (k := 1) (y := (1 : Int32)) m1 h20 hi (by omega) rfl rfl, ob_some]
        · intro hx; rw [ehs, lay_6]; exact hx
        · intro A hx; rw [ehs, arr_lay]; exact hx
      · have ehs : hoS s b here i = s := by unfold hoS; rw [if_pos h, if_neg h', if_neg h'']
        refine ⟨g, x2, fun K => ?_, Fm.rf, by rw [ehs]; exact m, by rw [ehs]; exact id, by rw [ehs]; exact fun _ => id⟩
        unfold f7_deal_11b f7_deal_50 f7_deal_122
        rw [if_pos m.1.1, e9, if_neg (nI_ge hi (by omega)), l2, gB2_some, if_pos h, if_pos m.1.1, l0, gB2_some, if_neg h', if_pos rfl, if_pos m.1.1, l0, gB2_some, if_pos m.1.1, e0, gB2_some, if_neg h'']
  · have ehs : hoS s b here i = s := by unfold hoS; rw [if_neg h]
    refine ⟨g, x2, fun K => ?_, Fm.rf, by rw [ehs]; exact m, by rw [ehs]; exact id, by rw [ehs]; exact fun _ => id⟩
    unfold f7_deal_11b f7_deal_122
    rw [if_pos m.1.1, e9, if_neg (nI_ge hi (by omega)), l2, gB2_some, if_neg h]
end
section
/-! PURE: the model deals, the loops -/
theorem c_ho {a0 F n1 n2 n3 n4 q b : Nat} {g : g_H} {s : Sg} (c : CI a0 F g s n1 n2 n3 n4 q) (hb : b < n3) (i : Nat) (hi : i ≤ n4) : ∃ g', CI a0 F g' (hoF s b (s 4 b (cl (s 3 b 0))) i) n1 n2 n3 n4 q := by
  induction i with
  | zero => exact ⟨g, c⟩
  | succ i ih =>
    obtain ⟨g1, c1⟩ := ih (by omega)
    by_cases hc : car (hoF s b (s 4 b (cl (s 3 b 0))) i) b ≤ 0
    · have h0 := car0 c1.1.2.2.2.1 c1.1.2.2.2.2.1 hc
      rw [hoF_none (i := i) (n := i + 1) (fun j _ h2 => h0 j (by omega)) (by omega)]
      exact ⟨g1, c1⟩
    · obtain ⟨g2, -, -, x⟩ := p_hoStep c1 hb (show i < n4 by omega) hc
      rw [hoF_p.1, hoF_same.2.2.2.1] at x
      exact ⟨g2, x⟩
theorem c_co {a0 F n1 n2 n3 n4 q b : Nat} {g : g_H} {s : Sg} (c : CI a0 F g s n1 n2 n3 n4 q) (hb : b < n3) {here : Int32} (hh : here ≠ -1) (i : Nat) (hi : i ≤ n4) : ∃ g', CI a0 F g' (coF s b here i) n1 n2 n3 n4 q := by
  induction i with
  | zero => exact ⟨g, c⟩
  | succ i ih =>
    obtain ⟨g1, c1⟩ := ih (by omega)
    by_cases hc : (3 : Int32) ≤ car (coF s b here i) b
    · rw [coF_none (i := i) (n := i + 1) hc (by omega)]
      exact ⟨g1, c1⟩
    · obtain ⟨g2, -, -, x⟩ := p_coStep c1 hb (show i < n4 by omega) hc hh
      exact ⟨g2, x⟩
theorem m_coStep {M a0 F n1 n2 n3 n4 q b i : Nat} {g g0 : g_H} {s : Sg} {x2 : Int32} (c : CI a0 F g0 s n1 n2 n3 n4 q) (m : MX M g s n1 n2 n3 n4) (hb : b < n3) (hi : i < n4) {here : Int32} (hh : inR (nI n1) here) :
    ∃ g', (∀ K, f7_deal_147b K g M (nI b) x2 here (nI i) = K g' M (nI b) x2 here (nI i + 1)) ∧ Fm M g g' ∧ MX M g' (coS s b here i) n1 n2 n3 n4 ∧ arr (coS s b here i) = arr s := by
  have w := c.1
  have h6 := w.2.2.1
  have h20 := w.2.2.2.2.1
  have w4 := w.2.2.2.1
  have h14 := w.1.2.1
  have e9 : gI g M 9 = nI n4 := m.2.1.2.2.2.trans w4
  have l1 := m_le (k := 1) (y := (1 : Int32)) m h20 hi (by omega) rfl rfl
  have l0 := m_le (k := 0) (y := (0 : Int32)) m h20 hi (by omega) rfl rfl
  have hto : inR (nI n1) (s 5 i 0) := (w.2.2.2.2.2.2.2.2 i hi).1
  obtain ⟨cc, hc3, hcc⟩ := (w.2.2.2.2.2.2.2.1 b hb).2
  have hskip : ¬ (s 5 i 1 = here ∧ ¬ (3 : Int32) ≤ car s b ∧ wy s (tg s b (s 5 i 0)) (s 5 i 0) < wy s here (s 5 i 0)) → coS s b here i = s := fun h => if_neg h
  by_cases h : s 5 i 1 = here
  · by_cases h3 : car s b = 3
    · have e := hskip fun k => k.2.1 (by rw [h3]; exact Int32.le_refl _)
      refine ⟨g, fun K => ?_, Fm.rf, by rw [e]; exact m, by rw [e]⟩
      unfold f7_deal_147b f7_deal_234
      rw [if_pos m.1.1, e9, if_neg (nI_ge hi (by omega)), l1, gB2_some, if_pos h, if_pos m.1.1, m_carries m h20 w4 rfl, gB2_some, if_pos h3]
    · have h3' : ¬ (3 : Int32) ≤ car s b := by
        intro k
        apply h3
        rw [hcc] at k ⊢
        have : 3 ≤ cc := (nI_leI (a := 3) (by omega) (by omega)).mp k
        rw [show cc = 3 by omega]
        rfl
      have e0 := m_targetOf (to := s 5 i 0) m w.1 h6 hb (c.wb hb) hto rfl
      obtain ⟨y, hy, hy2⟩ := inR_nat (by omega) hto
      rcases tg_in (to := s 5 i 0) (c.wb hb) with ht | ht
      · have e := hskip fun k => by
          have k2 := k.2.2
          rw [ht] at k2
          have : wy s (-1) (s 5 i 0) = 1000 := if_neg fun q => q.1.1 (by decide)
          rw [this] at k2
          obtain ⟨d, hd, hd2⟩ := wy_nat w.1 here (s 5 i 0)
          rw [hd2] at k2
          exact nI_nlt (a := 1000) hd (by omega) k2
        refine ⟨g, fun K => ?_, Fm.rf, by rw [e]; exact m, by rw [e]⟩
        unfold f7_deal_147b f7_deal_234
        rw [if_pos m.1.1, e9, if_neg (nI_ge hi (by omega)), l1, gB2_some, if_pos h, if_pos m.1.1, m_carries m h20 w4 rfl, gB2_some, if_neg h3, if_pos m.1.1, l0, gB2_some, if_pos m.1.1, e0, gB2_some, if_pos ht]
      · obtain ⟨x, hx, hx2⟩ := inR_nat (by omega) ht
        obtain ⟨x', hx', hx2'⟩ := inR_nat (by omega) hh
        obtain ⟨d, hd, hd2⟩ := wy_nat w.1 here (s 5 i 0)
        obtain ⟨d', hd', hd2'⟩ := wy_nat w.1 (tg s b (s 5 i 0)) (s 5 i 0)
        have a1 := m_away m w.1 hx hy hx2 hy2
        have a2 := m_away m w.1 hx' hy hx2' hy2
        by_cases k : wy s (tg s b (s 5 i 0)) (s 5 i 0) < wy s here (s 5 i 0)
        · obtain ⟨g', t1, t2, t3⟩ := m_take m h20 hi rfl rfl
          have e : coS s b here i = takeS s b i := if_pos ⟨h, h3', k⟩
          have kk : ¬ fi (wy s here (s 5 i 0)) ≤ fi (wy s (tg s b (s 5 i 0)) (s 5 i 0)) := by
            rw [hd2, hd2'] at k ⊢
            exact Int32.not_le.mpr ((fi_lt hd' hd).mpr k)
          refine ⟨g', fun K => ?_, t2, by rw [e]; exact t3, by rw [e, arr_take]⟩
          unfold f7_deal_147b f7_deal_234
          rw [if_pos m.1.1, e9, if_neg (nI_ge hi (by omega)), l1, gB2_some, if_pos h, if_pos m.1.1, m_carries m h20 w4 rfl, gB2_some, if_neg h3, if_pos m.1.1, l0, gB2_some, if_pos m.1.1, e0, gB2_some, if_neg (m1_ne ht), if_pos m.1.1, l0, gB2_some, if_pos m.1.1, a1, gB2_some, if_pos m.1.1, l0, gB2_some, if_pos m.1.1, a2, gB2_some, if_neg kk, if_pos m.1.1, t1, ob_some]
        · have e := hskip fun q => k q.2.2
          have kk : fi (wy s here (s 5 i 0)) ≤ fi (wy s (tg s b (s 5 i 0)) (s 5 i 0)) := by
            rw [hd2, hd2'] at k ⊢
            exact Int32.not_lt.mp fun q => k ((fi_lt hd' hd).mp q)
          refine ⟨g, fun K => ?_, Fm.rf, by rw [e]; exact m, by rw [e]⟩
          unfold f7_deal_147b f7_deal_234
          rw [if_pos m.1.1, e9, if_neg (nI_ge hi (by omega)), l1, gB2_some, if_pos h, if_pos m.1.1, m_carries m h20 w4 rfl, gB2_some, if_neg h3, if_pos m.1.1, l0, gB2_some, if_pos m.1.1, e0, gB2_some, if_neg (m1_ne ht), if_pos m.1.1, l0, gB2_some, if_pos m.1.1, a1, gB2_some, if_pos m.1.1, l0, gB2_some, if_pos m.1.1, a2, gB2_some, if_pos kk]
  · have e := hskip fun q => h q.1
    refine ⟨g, fun K => ?_, Fm.rf, by rw [e]; exact m, by rw [e]⟩
    unfold f7_deal_147b f7_deal_234
    rw [if_pos m.1.1, e9, if_neg (nI_ge hi (by omega)), l1, gB2_some, if_neg h]
theorem m_coLoop {M a0 F n1 n2 n3 n4 q b : Nat} {g0 : g_H} {s0 : Sg} {x2 : Int32} (c : CI a0 F g0 s0 n1 n2 n3 n4 q) (hb : b < n3) {here : Int32} (hh : inR (nI n1) here) :
    ∀ k i fuel : Nat, ∀ g : g_H, i + k = n4 → k < fuel → MX M g (coF s0 b here i) n1 n2 n3 n4 →
    ∃ g', f7_deal_147 fuel g M (nI b) x2 here (nI i) = some (x2, g') ∧ Fm M g g' ∧ MX M g' (coF s0 b here n4) n1 n2 n3 n4 ∧ arr (coF s0 b here n4) = arr (coF s0 b here i) := by
  intro k
  have h20 := c.1.2.2.2.2.1
  induction k with
  | zero =>
    intro i fuel g h hf m
    obtain ⟨fu, rfl⟩ : ∃ fu, fuel = fu + 1 := ⟨fuel - 1, by omega⟩
    have : i = n4 := by omega
    subst this
    refine ⟨g, ?_, Fm.rf, m, rfl⟩
    show f7_deal_147b _ g M (nI b) x2 here (nI i) = _
    unfold f7_deal_147b
    rw [if_pos m.1.1, m.2.1.2.2.2, coF_same.1 4 (by omega), c.1.2.2.2.1, if_pos (Int32.le_refl _)]
  | succ k ih =>
    intro i fuel g h hf m
    obtain ⟨fu, rfl⟩ : ∃ fu, fuel = fu + 1 := ⟨fuel - 1, by omega⟩
    obtain ⟨g0', c'⟩ := c_co c hb (m1_ne hh) i (by omega)
    obtain ⟨g1, x1, x2', x3, x4⟩ := m_coStep (x2 := x2) c' m hb (show i < n4 by omega) hh
    obtain ⟨g2, y1, y2, y3, y4⟩ := ih (i + 1) fu g1 (by omega) (by omega) x3
    refine ⟨g2, ?_, x2'.tr y2, y3, y4.trans x4⟩
    show f7_deal_147b (f7_deal_147 fu) g M (nI b) x2 here (nI i) = _
    rw [x1, nI_1]
    exact y1
theorem su_v6 {s : Sg} {b : Nat} {v0 x : Int32} (h : v0 + x = s 3 b 6) : su (su s 3 b 6 v0) 3 b 6 (v0 + x) = s := by rw [su_su, h, su_self]
theorem m_hoLoop {M a0 F n1 n2 n3 n4 q b : Nat} {g0 : g_H} {s0 : Sg} (c : CI a0 F g0 s0 n1 n2 n3 n4 q) (hb : b < n3) {here : Int32} (hq : here = s0 4 b (cl (s0 3 b 0))) (hh : inR (nI n1) here) :
    ∀ k i fuel : Nat, ∀ (g : g_H) (x2 : Int32), i + k = n4 → k < fuel → MX M g (su (hoF s0 b here i) 3 b 6 (s0 3 b 6)) n1 n2 n3 n4 → x2 = hoF s0 b here i 3 b 6 - s0 3 b 6 → x2 = arr (hoF s0 b here i) - arr s0 →
    ∃ g', f7_deal_11 fuel g M (nI b) x2 here (nI i) = some (arr (coF (hoF s0 b here n4) b here n4) - arr s0, g') ∧ Fm M g g' ∧ MX M g' (coF (hoF s0 b here n4) b here n4) n1 n2 n3 n4 := by
  intro k
  have h20 := c.1.2.2.2.2.1
  have h6 := c.1.2.2.1
  induction k with
  | zero =>
    intro i fuel g x2 h hf m hx hA
    obtain ⟨fu, rfl⟩ : ∃ fu, fuel = fu + 1 := ⟨fuel - 1, by omega⟩
    have : i = n4 := by omega
    subst this
    obtain ⟨g0', c'⟩ := c_ho c hb i (by omega)
    rw [← hq] at c'
    have hv : s0 3 b 6 + x2 = hoF s0 b here i 3 b 6 := by
      rw [hx, Int32.add_comm, Int32.sub_add_cancel]
    have m1 := m.putB (b := b) (k := 6) (v := s0 3 b 6 + x2) (by omega) (by omega)
    rw [su_v6 hv] at m1
    obtain ⟨g2, y1, y2, y3, y4⟩ := m_coLoop (x2 := x2) c' hb hh i 0 300 _ (by omega) (by omega) m1
    refine ⟨g2, ?_, fmB.tr y2, y3⟩
    show f7_deal_11b _ g M (nI b) x2 here (nI i) = _
    have e9 : gI g M 9 = nI i := m.2.1.2.2.2.trans ((su_t (by omega)).trans ((hoF_same.1 4 (by omega)).trans c.1.2.2.2.1))
    unfold f7_deal_11b
    rw [if_pos m.1.1, e9, if_pos (Int32.le_refl _), m_be (k := 6) (y := (6 : Int32)) m h6 hb (by omega) rfl rfl, gB2_some, su_s, if_pos m.1.1, m_setBe (k := 6) (y := (6 : Int32)) m h6 hb (by omega) rfl rfl, ob_some, y4]
    rw [show arr (coF (hoF s0 b here i) b here 0) = arr (hoF s0 b here i) from rfl, ← hA]
    exact y1
  | succ k ih =>
    intro i fuel g x2 h hf m hx hA
    obtain ⟨fu, rfl⟩ : ∃ fu, fuel = fu + 1 := ⟨fuel - 1, by omega⟩
    obtain ⟨g0', c'⟩ := c_ho c hb i (by omega)
    rw [← hq] at c'
    obtain ⟨g1, x2', x1, x3, x4, x5, x6⟩ := m_hoStep (x2 := x2) (here := here) c' m hb (show i < n4 by omega)
    obtain ⟨g2, y1, y2, y3⟩ := ih (i + 1) fu g1 x2' (by omega) (by omega) x4 (x5 hx) (x6 _ hA)
    refine ⟨g2, ?_, x3.tr y2, y3⟩
    show f7_deal_11b (f7_deal_11 fu) g M (nI b) x2 here (nI i) = _
    rw [x1, nI_1]
    exact y1
theorem CI.hin {a0 F n1 n2 n3 n4 q b : Nat} {g : g_H} {s : Sg} (c : CI a0 F g s n1 n2 n3 n4 q) (hb : b < n3) : inR (nI n1) (s 4 b (cl (s 3 b 0))) := by
  obtain ⟨z, p, h1, h2, h3, h4, h5, h6, h7, h8⟩ := c.house hb
  rw [h3, show cl (nI p) = p from cl_nI (by omega)]
  exact h8
theorem m_deal {M a0 F n1 n2 n3 n4 q b : Nat} {g g0 : g_H} {s : Sg} {x : Int32} (c : CI a0 F g0 s n1 n2 n3 n4 q) (m : MX M g s n1 n2 n3 n4) (hb : b < n3) (hx : x = nI b) :
    ∃ g', f7_deal g M x = some (arr (coF (hoF s b (s 4 b (cl (s 3 b 0))) n4) b (s 4 b (cl (s 3 b 0))) n4) - arr s, g') ∧ Fm M g g' ∧ MX M g' (coF (hoF s b (s 4 b (cl (s 3 b 0))) n4) b (s 4 b (cl (s 3 b 0))) n4) n1 n2 n3 n4 := by
  subst hx
  have h20 := c.1.2.2.2.2.1
  have e : su (hoF s b (s 4 b (cl (s 3 b 0))) 0) 3 b 6 (s 3 b 6) = s := su_self
  obtain ⟨g', x1, x2, x3⟩ := m_hoLoop (M := M) c hb rfl (c.hin hb) n4 0 300 g 0 (by omega) (by omega) (by rw [e]; exact m) (Int32.sub_self _).symm (Int32.sub_self _).symm
  refine ⟨g', ?_, x2, x3⟩
  unfold f7_deal
  rw [if_pos m.1.1, m_house m c.1.2.2.1 hb (c.wb hb) rfl, gB2_some]
  exact x1
end
section
/-! PURE: the model flies, a quarter, quarters -/
theorem m_isOpen {M n1 n2 n3 n4 q j : Nat} {g : g_H} {s : Sg} {x : Int32} (m : MX M g s n1 n2 n3 n4) (wt : WT s n1 n2) (h0 : s 0 0 0 = nI q) (hq : q < 2 ^ 26) (hj : j < n2) (hx : x = nI j) : ∃ v, f7_isOpen g M x = some (v, g) ∧ (v = 0 ∨ v = 1) ∧ (v = 1 ↔ opS s j) := by
  have h24 : n2 ≤ 24 := wt.2.2.2.1
  obtain ⟨-, -, -, -, f, t, hf, hft, ht, ef, et⟩ := wt.2.2.2.2.1 j hj
  have hr := hour_nat hq
  have hlt : q % 24 < 24 := Nat.mod_lt _ (by omega)
  unfold f7_isOpen
  rw [if_pos m.1.1, m.1.2.1.2.2.2.2.2.2.1, ob_some, m.1.2.2.2.2.2.2.2.2.1, if_pos rfl, if_pos (by decide), m_ro (k := 3) (y := (3 : Int32)) m h24 hj (by omega) hx rfl, gB2_some, if_pos m.1.1, m_ro (k := 4) (y := (4 : Int32)) m h24 hj (by omega) hx rfl, gB2_some]
  rw [show Int32.toNatClampNeg (0 : Int32) = 0 from rfl, m.2.2.2.2.2, h0, hr, ef, et]
  unfold f7_isIn
  have e1 : opS s j ↔ (¬ nI (q % 24) < nI f ∧ ¬ nI t ≤ nI (q % 24)) := by
    unfold opS hourS
    rw [h0, hr, ef, et]
  by_cases c1 : nI (q % 24) < nI f
  · rw [if_pos c1, gB2_some, if_pos (Or.inl rfl)]
    exact ⟨0, rfl, Or.inl rfl, fun k => absurd k (by decide), fun k => absurd c1 (e1.mp k).1⟩
  · rw [if_neg c1]
    have hk : nI t - 1 < nI (q % 24) ↔ nI t ≤ nI (q % 24) := by
      rcases Nat.eq_zero_or_pos t with z | z
      · subst z
        refine ⟨fun _ => nI_le (by omega) (by omega), fun _ => ?_⟩
        have e : nI 0 - 1 = (-1 : Int32) := by decide
        rw [e]
        apply Int32.lt_iff_toInt_lt.mpr
        rw [nI_toInt (by omega)]
        have : (-1 : Int32).toInt = -1 := rfl
        omega
      · obtain ⟨u, rfl⟩ : ∃ u, t = u + 1 := ⟨t - 1, by omega⟩
        rw [nI_pred]
        exact (nI_ltI (by omega) (by omega)).trans (Iff.trans (by omega) (nI_leI (a := u + 1) (b := q % 24) (by omega) (by omega)).symm)
    by_cases c2 : nI t - 1 < nI (q % 24)
    · rw [if_pos c2, gB2_some, if_pos (Or.inl rfl)]
      exact ⟨0, rfl, Or.inl rfl, fun k => absurd k (by decide), fun k => absurd (hk.mp c2) (e1.mp k).2⟩
    · rw [if_neg c2, gB2_some, if_pos (Or.inr rfl)]
      exact ⟨1, rfl, Or.inr rfl, fun _ => e1.mpr ⟨c1, fun k => c2 (hk.mpr k)⟩, fun _ => rfl⟩
theorem WB.v7 {s : Sg} {n1 b : Nat} {v : Int32} (w : WB s n1 b) (hv : v = 0 ∨ v = 1) : WB (su s 3 b 7 v) n1 b := by
  have hs : Same s (su s 3 b 7 v) := Same.b (by omega)
  have w' := w
  obtain ⟨z, p, l, st, ho, e1, e2, e3, e4, e5, e6, e7, e8, e9, e10, e11, e12, e13, e14, e15⟩ := w
  exact WB.keep hs w' (by simp [su]) (by simp [su]) ⟨st, e9, by rw [← e8]; simp [su]⟩ ⟨ho, e11, by rw [← e10]; simp [su]⟩ (by simpa [su] using e12) (by simpa [su] using hv)
theorem m_fly148 {M n1 n2 n3 n4 q b z : Nat} {g : g_H} {s : Sg} {s1 : Int32} (w : WF s n1 n2 n3 n4 q) (m : MX M g (su s 3 b 7 (onS s b)) n1 n2 n3 n4) (hb : b < n3) (wb : WB s n1 b) (h5 : s 3 b 5 = nI z) (hz : 2 ≤ z) (hz7 : z ≤ 7) (hn : nextS s b = s 3 b 0 + s1) :
    ∃ g', f7_fly_148 g M (nI b) (s 3 b 0) s1 = some g' ∧ Fm M g g' ∧ MX M g' (flyS s b (s 4 b (cl (s 3 b 0)))) n1 n2 n3 n4 := by
  have h6 := w.2.2.1
  have h24 := w.1.2.2.2.1
  have wb' := wb
  obtain ⟨z', p, l, st, hon, e1, e2, e3, e4, e5, e6, e7, e8, e9, e10, e11, e12, e13, e14, e15⟩ := wb
  have hzz : z' = z := nI_inj (by omega) (by omega) (e1.symm.trans h5)
  subst hzz
  have hS : Same s (su s 3 b 7 (onS s b)) := Same.b (by omega)
  have wV := wb'.v7 (onS_01 e13)
  have y0 : (su s 3 b 7 (onS s b)) 3 b 0 = s 3 b 0 := su_k (by omega)
  have y2 : (su s 3 b 7 (onS s b)) 3 b 2 = s 3 b 2 := su_k (by omega)
  have y5 : (su s 3 b 7 (onS s b)) 3 b 5 = s 3 b 5 := su_k (by omega)
  have y4 : (su s 3 b 7 (onS s b)) 4 = s 4 := su_T (by omega)
  have y22 : (su s 3 b 7 (onS s b)) 2 = s 2 := su_T (by omega)
  have y00 : (su s 3 b 7 (onS s b)) 0 = s 0 := su_T (by omega)
  have hhouse := m_house m h6 hb wV rfl
  rw [y0, y4] at hhouse
  have hnx : ∃ p', nextS s b = nI p' ∧ p' < z' ∧ sl s (s 4 b (cl (s 3 b 0))) (s 4 b (cl (nextS s b))) ≠ -1 := by
    have cp : cl (nI p) = p := cl_nI (by omega)
    rcases onS_next h5 hz hz7 e4 e5 e13 with ⟨o1, o2, o3⟩ | ⟨o1, o2, o3⟩
    · refine ⟨_, o3, by omega, ?_⟩
      obtain ⟨y, rfl⟩ : ∃ y, p = y + 1 := ⟨p - 1, by omega⟩
      rw [o3, e4, cp, show cl (nI (y + 1 - 1)) = y from cl_nI (by omega), sl_comm]
      exact e15 y (by omega)
    · refine ⟨_, o3, o2, ?_⟩
      rw [o3, e4, cp, show cl (nI (p + 1)) = p + 1 from cl_nI (by omega)]
      exact e15 p (by omega)
  obtain ⟨p', hp1, hp2, hsl⟩ := hnx
  obtain ⟨j, hj, hl⟩ := sl_in w.1.2.2.1 h24 hsl
  have cj : cl (nI j) = j := cl_nI (by omega)
  obtain ⟨-, -, -, ⟨d, d1, d6, hd⟩, -⟩ := w.1.2.2.2.2.1 j hj
  have c1 : Int32.toNatClampNeg (nI (7 * b + p')) = 7 * b + p' := cl_nI (by omega)
  have cp' : cl (nI p') = p' := cl_nI (by omega)
  have hr := m.2.2.1.2.2.2 b hb p' (by rw [y5, e1, show cl (nI z') = z' from cl_nI (by omega)]; exact hp2)
  rw [y4] at hr
  have hlane := m_lane m (w.1.same hS) (s 4 b (cl (s 3 b 0))) (s 4 b p')
  rw [hS.slE] at hlane
  rw [hp1, cp'] at hl
  rw [hl] at hlane
  have h0 : (su s 3 b 7 (onS s b)) 0 0 0 = nI q := (su_t (by omega)).trans w.2.2.2.2.2.1
  obtain ⟨v, v1, v2, v3⟩ := m_isOpen m (w.1.same hS) h0 w.2.2.2.2.2.2.1 hj rfl
  have eo : opS (su s 3 b 7 (onS s b)) j ↔ opS s j := by unfold opS hourS; rw [y22, y00]
  have hfS : flyS s b (s 4 b (cl (s 3 b 0))) = if (¬ hourS s < s 2 j 3 ∧ ¬ s 2 j 4 ≤ hourS s) ∧ ¬ s 3 b 2 < s 2 j 2 then su (su (su (su s 3 b 7 (onS s b)) 3 b 2 (s 3 b 2 - s 2 j 2)) 3 b 1 (s 2 j 2)) 3 b 0 (nextS s b) else su (su s 3 b 7 (onS s b)) 3 b 2 (strong (s 3 b 2 + 1)) := by
    unfold flyS
    simp only [hp1, cp', hl, cj]
  have ms := m.putB (b := b) (k := 2) (v := strong (s 3 b 2 + 1)) (by omega) (by omega)
  have hstay : f7_fly_194 g M (nI b) = some (gPI g (M + 4) (8 * b + 2) (strong (s 3 b 2 + 1))) := by
    unfold f7_fly_194
    rw [if_pos m.1.1, m_strengthen m h6 hb rfl, ob_some, y2]
  unfold f7_fly_148
  rw [if_pos m.1.1, hhouse, gB2_some, if_pos m.1.1, m.1.2.1.2.2.2.2.1, ob_some, m.1.2.2.2.2.2.2.1, if_pos rfl, ← hn, hp1, ix7, if_pos (ixOk (by omega) (by omega)), c1, hr, hlane, gB2_some, if_pos m.1.1, v1, gB2_some, hfS]
  have be2 := m_be (k := 2) (y := (2 : Int32)) m h6 hb (by omega) rfl rfl
  have ro2 := m_ro (k := 2) (y := (2 : Int32)) m h24 hj (by omega) rfl rfl
  rw [y2] at be2
  rw [y22] at ro2
  rcases v2 with v2 | v2
  · have hno : ¬ ((¬ hourS s < s 2 j 3 ∧ ¬ s 2 j 4 ≤ hourS s) ∧ ¬ s 3 b 2 < s 2 j 2) := fun k => by
      have := v3.mpr (eo.mpr k.1)
      rw [v2] at this
      exact absurd this (by decide)
    rw [if_pos v2, if_neg hno, hstay]
    exact ⟨_, rfl, fmB, ms⟩
  · have hop : opS s j := eo.mp (v3.mp v2)
    rw [if_neg (by rw [v2]; exact n10), if_pos m.1.1, be2, gB2_some, if_pos m.1.1, ro2, gB2_some]
    by_cases hlt : s 2 j 2 ≤ s 3 b 2
    · have hyes : (¬ hourS s < s 2 j 3 ∧ ¬ s 2 j 4 ≤ hourS s) ∧ ¬ s 3 b 2 < s 2 j 2 := ⟨hop, Int32.not_lt.mpr hlt⟩
      rw [if_pos hlt, if_pos hyes, if_pos m.1.1, m_setBe (k := 0) (y := (0 : Int32)) m h6 hb (by omega) rfl rfl, ob_some]
      have m1 := m.putB (b := b) (k := 0) (v := nI p') (by omega) (by omega)
      have m2 := m1.putB (b := b) (k := 1) (v := s 2 j 2) (by omega) (by omega)
      have ro2' := m_ro (k := 2) (y := (2 : Int32)) m1 h24 hj (by omega) rfl rfl
      have ro2'' := m_ro (k := 2) (y := (2 : Int32)) m2 h24 hj (by omega) rfl rfl
      rw [su_t (by omega), su_t (by omega)] at ro2'
      rw [su_t (by omega), su_t (by omega), su_t (by omega)] at ro2''
      have hds : d ≤ st := by
        rw [hd, e8] at hlt
        exact (nI_leI (by omega) (by omega)).mp hlt
      have hst : strong (s 3 b 2 + -s 2 j 2) = s 3 b 2 - s 2 j 2 := by
        rw [← Int32.sub_eq_add_neg, e8, hd, nI_sub hds, (strong_nI (n := st - d) (by omega)).1, if_pos (by omega)]
      have m3 := m2.putB (b := b) (k := 2) (v := s 3 b 2 - s 2 j 2) (by omega) (by omega)
      rw [if_pos m1.1.1, ro2', gB2_some, if_pos m1.1.1, m_setBe (k := 1) (y := (1 : Int32)) m1 h6 hb (by omega) rfl rfl, ob_some, if_pos m2.1.1, ro2'', gB2_some, if_pos m2.1.1, m_strengthen m2 h6 hb rfl, ob_some]
      have e2 : (su (su (su s 3 b 7 (onS s b)) 3 b 0 (nI p')) 3 b 1 (s 2 j 2)) 3 b 2 = s 3 b 2 := by rw [su_k (by omega), su_k (by omega), y2]
      rw [e2, hst]
      refine ⟨_, rfl, (fmB.tr fmB).tr fmB, ?_⟩
      rw [su_comm (k := 1) (k' := 2) (Or.inr (Or.inr (by omega))), su_comm (k := 0) (k' := 2) (Or.inr (Or.inr (by omega))), su_comm (k := 0) (k' := 1) (Or.inr (Or.inr (by omega)))] at m3
      rw [hp1]
      exact m3
    · rw [if_neg hlt, if_neg (c := (¬ hourS s < s 2 j 3 ∧ ¬ s 2 j 4 ≤ hourS s) ∧ ¬ s 3 b 2 < s 2 j 2) (fun k => k.2 (Int32.not_le.mp hlt)), hstay]
      exact ⟨_, rfl, fmB, ms⟩
end
section
/-! PURE: the model's quarter, quarters -/
theorem m_fly {M n1 n2 n3 n4 q b : Nat} {g : g_H} {s : Sg} (w : WF s n1 n2 n3 n4 q) (m : MX M g s n1 n2 n3 n4) (hb : b < n3) (wb : WB s n1 b) :
    ∃ g', f7_fly g M (nI b) = some g' ∧ Fm M g g' ∧ MX M g' (mvS s b (s 4 b (cl (s 3 b 0)))) n1 n2 n3 n4 := by
  have h6 := w.2.2.1
  have h14 := w.1.2.1
  have wb' := wb
  obtain ⟨z, p, l, st, hon, e1, e2, e3, e4, e5, e6, e7, e8, e9, e10, e11, e12, e13, e14, e15⟩ := wb
  have be4 := m_be (k := 4) (y := (4 : Int32)) m h6 hb (by omega) rfl rfl
  have be2 := m_be (k := 2) (y := (2 : Int32)) m h6 hb (by omega) rfl rfl
  have be5 := m_be (k := 5) (y := (5 : Int32)) m h6 hb (by omega) rfl rfl
  have be0 := m_be (k := 0) (y := (0 : Int32)) m h6 hb (by omega) rfl rfl
  have be7 := m_be (k := 7) (y := (7 : Int32)) m h6 hb (by omega) rfl rfl
  unfold f7_fly mvS
  rw [if_pos m.1.1, be4, gB2_some]
  rcases e12 with r | r
  · rw [if_neg (by rw [r]; decide), if_pos m.1.1, m.1.2.1.1, ob_some, m_house m h6 hb wb' rfl, gB2_some, m.1.2.2.1, if_pos rfl]
    have cp : cl (nI p) = p := cl_nI (by omega)
    have hin : inR (nI n1) (s 4 b (cl (s 3 b 0))) := by rw [e4, cp]; exact e14 p e5
    obtain ⟨h, hh, hh2⟩ := inR_nat (by omega) hin
    have hhive := m.2.2.1.1 h (by omega)
    have ch : Int32.toNatClampNeg (nI h) = h := cl_nI (by omega)
    -- it flies on
    have fly : ∃ g', f7_fly_67 g M (nI b) = some g' ∧ Fm M g g' ∧ MX M g' (if s 3 b 5 = 1 then s else flyS s b (s 4 b (cl (s 3 b 0)))) n1 n2 n3 n4 := by
      unfold f7_fly_67
      rw [if_pos m.1.1, be5, gB2_some]
      by_cases hz : s 3 b 5 = 1
      · rw [if_pos hz, if_pos hz]
        exact ⟨g, rfl, Fm.rf, m⟩
      · rw [if_neg hz, if_neg hz, if_pos m.1.1, be0, gB2_some, if_pos m.1.1, be7, gB2_some]
        have hz2 : 2 ≤ z := by
          rcases Nat.lt_or_ge z 2 with k | k
          · exfalso
            have : z = 1 := by omega
            subst this
            exact hz e1
          · exact k
        have m7 : ∀ v : Int32, MX M (gPI g (M + 4) (8 * b + 7) v) (su s 3 b 7 v) n1 n2 n3 n4 := fun v => m.putB (by omega) (by omega)
        -- turned, or not
        have go : ∀ (s1 : Int32) (g1 : g_H), Fm M g g1 → MX M g1 (su s 3 b 7 (onS s b)) n1 n2 n3 n4 → ∃ g', f7_fly_126 g1 M (nI b) = some g' ∧ Fm M g g' ∧ MX M g' (flyS s b (s 4 b (cl (s 3 b 0)))) n1 n2 n3 n4 := by
          intro s1 g1 hf m1
          have b0 := m_be (k := 0) (y := (0 : Int32)) m1 h6 hb (by omega) rfl rfl
          have b7 := m_be (k := 7) (y := (7 : Int32)) m1 h6 hb (by omega) rfl rfl
          rw [su_k (by omega)] at b0
          rw [su_s] at b7
          unfold f7_fly_126
          rw [if_pos m1.1.1, b0, gB2_some, if_pos m1.1.1, b7, gB2_some]
          rcases onS_01 e13 with o | o
          · rw [if_neg (by rw [o]; decide)]
            obtain ⟨g', x1, x2, x3⟩ := m_fly148 (s1 := -1) w m1 hb wb' e1 hz2 e3 (if_pos o)
            exact ⟨g', x1, hf.tr x2, x3⟩
          · rw [if_pos o]
            obtain ⟨g', x1, x2, x3⟩ := m_fly148 (s1 := 1) w m1 hb wb' e1 hz2 e3 (if_neg (by rw [o]; exact n10))
            exact ⟨g', x1, hf.tr x2, x3⟩
        have turn : ∀ v : Int32, v = (if s 3 b 7 = 0 then 0 else s 3 b 5 - 1) → ∃ g', f7_fly_107 g M (nI b) (s 3 b 0) v = some g' ∧ Fm M g g' ∧ MX M g' (flyS s b (s 4 b (cl (s 3 b 0)))) n1 n2 n3 n4 := by
          intro v hv
          unfold f7_fly_107
          by_cases k : s 3 b 0 = v
          · have ho : onS s b = 1 - s 3 b 7 := by
              unfold onS
              rw [← hv, if_pos k]
              rcases e13 with q | q
              · rw [q]; decide
              · rw [q]; decide
            rw [if_pos k, if_pos m.1.1, be7, gB2_some, if_pos m.1.1, m_setBe (k := 7) (y := (7 : Int32)) m h6 hb (by omega) rfl rfl, ob_some]
            refine go 0 _ fmB ?_
            rw [ho]
            exact m7 _
          · have ho : onS s b = s 3 b 7 := by
              unfold onS
              rw [← hv, if_neg k]
            rw [if_neg k]
            refine go 0 g Fm.rf ?_
            rw [ho, su_self]
            exact m
        rcases e13 with q | q
        · rw [if_neg (by rw [q]; decide)]
          exact turn 0 (by rw [if_pos q])
        · rw [if_pos q, if_pos m.1.1, be5, gB2_some]
          exact turn _ (by rw [if_neg (by rw [q]; decide)])
    rw [if_neg (c := ¬ s 3 b 4 = 0) (fun k => k r)]
    have hcl : cl (s 4 b (cl (s 3 b 0))) = h := by rw [hh2]; exact ch
    have hcl' : Int32.toNatClampNeg (s 4 b (cl (s 3 b 0))) = h := hcl
    have hix : ¬ (s 4 b (cl (s 3 b 0)) < 0 ∨ 14 ≤ Int32.toNatClampNeg (s 4 b (cl (s 3 b 0)))) := by rw [hh2]; exact ixOk (by omega) (by omega)
    rw [if_pos hix, hcl', hhive, hcl]
    by_cases k1 : s 1 h 0 = 0
    · rw [if_pos k1, if_neg (fun k => k.1 k1)]
      exact fly
    · rw [if_neg k1, if_pos m.1.1, be2, gB2_some]
      by_cases k2 : (10 : Int32) ≤ s 3 b 2
      · rw [if_pos k2, if_neg (fun k => k.2 k2)]
        exact fly
      · have hc : ¬ s 1 h 0 = 0 ∧ ¬ (10 : Int32) ≤ s 3 b 2 := ⟨k1, k2⟩
        rw [if_neg k2, if_pos hc, if_pos m.1.1, m_setBe (k := 4) (y := (4 : Int32)) m h6 hb (by omega) rfl rfl, ob_some]
        exact ⟨_, rfl, fmB, m.putB (by omega) (by omega)⟩
  · have r' : ¬ s 3 b 4 = 0 := by rw [r]; decide
    rw [if_pos r, if_pos r', if_pos m.1.1, m_strengthen m h6 hb rfl, ob_some]
    have m1 := m.putB (b := b) (k := 2) (v := strong (s 3 b 2 + 3)) (by omega) (by omega)
    have b2 := m_be (k := 2) (y := (2 : Int32)) m1 h6 hb (by omega) rfl rfl
    rw [su_s] at b2
    rw [if_pos m1.1.1, b2, gB2_some]
    by_cases k : strong (s 3 b 2 + 3) < (20 : Int32)
    · rw [if_pos k, if_neg (Int32.not_le.mpr k)]
      refine ⟨_, rfl, fmB, ?_⟩
      have e : (su s 3 b 2 (strong (s 3 b 2 + 3))) 3 b 4 = 1 := by rw [su_k (by omega)]; exact r
      rw [← e, su_self]
      exact m1
    · rw [if_neg k, if_pos (Int32.not_lt.mp k), if_pos m1.1.1, m_setBe (k := 4) (y := (4 : Int32)) m1 h6 hb (by omega) rfl rfl, ob_some]
      exact ⟨_, rfl, fmB.tr fmB, m1.putB (by omega) (by omega)⟩
theorem arr_mv {s : Sg} {b : Nat} {here : Int32} : arr (mvS s b here) = arr s := by
  have h5 : (mvS s b here) 5 = s 5 := by
    unfold mvS flyS
    split
    · exact su3_5.trans su3_5
    · split
      · exact su3_5
      · split
        · rfl
        · dsimp only
          split
          · exact ((su3_5.trans su3_5).trans su3_5).trans su3_5
          · exact su3_5.trans su3_5
  have h0 : (mvS s b here) 0 = s 0 := by
    unfold mvS flyS
    split
    · exact su3_0.trans su3_0
    · split
      · exact su3_0
      · split
        · rfl
        · dsimp only
          split
          · exact ((su3_0.trans su3_0).trans su3_0).trans su3_0
          · exact su3_0.trans su3_0
  exact arr_5 h5 h0
theorem c_bee {a0 F n1 n2 n3 n4 q : Nat} {g : g_H} {s : Sg} (c : CI a0 F g s n1 n2 n3 n4 q) (b : Nat) (hb : b ≤ n3) : ∃ g', CI a0 F g' (beeF s b) n1 n2 n3 n4 q := by
  induction b with
  | zero => exact ⟨g, c⟩
  | succ b ih =>
    obtain ⟨g1, c1⟩ := ih (by omega)
    obtain ⟨g2, -, -, x⟩ := p_beeStep c1 (show b < n3 by omega)
    exact ⟨g2, x⟩
end
section
/-! PURE: the model's quarters -/
theorem i_tel (a b c : Int32) : a - c + (b - a) = b - c := by
  rw [Int32.sub_eq_add_neg, Int32.sub_eq_add_neg, Int32.sub_eq_add_neg, Int32.add_comm (a + -c), Int32.add_assoc b, ← Int32.add_assoc (-a), Int32.add_left_neg, Int32.zero_add]
theorem m_beeStep {M a0 F n1 n2 n3 n4 q b : Nat} {g g0 : g_H} {s : Sg} {x1 : Int32} (c : CI a0 F g0 s n1 n2 n3 n4 q) (m : MX M g s n1 n2 n3 n4) (hb : b < n3) :
    ∃ g', (∀ K, f7_quarterOn_4b K g M x1 (nI b) = K g' M (x1 + (arr (beeS s b) - arr s)) (nI b + 1)) ∧ Fm M g g' ∧ MX M g' (beeS s b) n1 n2 n3 n4 := by
  have h6 := c.1.2.2.1
  have e6 : gI g M 6 = nI n3 := m.2.1.2.2.1.trans c.1.2.1
  -- behind the step on the lane
  have main : ∀ g1 s1 a0' F' g0', CI a0' F' g0' s1 n1 n2 n3 n4 q → MX M g1 s1 n1 n2 n3 n4 → ∃ g', (∀ K, f7_quarterOn_35 K g1 M x1 (nI b) = K g' M (x1 + (arr (if s1 3 b 1 = 0 then mvS (coF (hoF s1 b (s1 4 b (cl (s1 3 b 0))) n4) b (s1 4 b (cl (s1 3 b 0))) n4) b (s1 4 b (cl (s1 3 b 0))) else s1) - arr s1)) (nI b + 1)) ∧ Fm M g1 g' ∧ MX M g' (if s1 3 b 1 = 0 then mvS (coF (hoF s1 b (s1 4 b (cl (s1 3 b 0))) n4) b (s1 4 b (cl (s1 3 b 0))) n4) b (s1 4 b (cl (s1 3 b 0))) else s1) n1 n2 n3 n4 := by
    intro g1 s1 a0' F' g0' c1 m1
    have be1 := m_be (k := 1) (y := (1 : Int32)) m1 h6 hb (by omega) rfl rfl
    obtain ⟨z, p, l, st, ho, e1, e2, e3, e4, e5, e6', e7, -⟩ := c1.wb hb
    unfold f7_quarterOn_35 f7_quarterOn_60
    by_cases l0 : s1 3 b 1 = 0
    · have hle : s1 3 b 1 ≤ 0 := by rw [l0]; exact Int32.le_refl _
      rw [if_pos l0]
      obtain ⟨g2, x1', x2, x3⟩ := m_deal (x := nI b) c1 m1 hb rfl
      obtain ⟨ga, ca⟩ := c_ho c1 hb n4 (Nat.le_refl _)
      obtain ⟨gb, cb⟩ := c_co ca hb (m1_ne (c1.hin hb)) n4 (Nat.le_refl _)
      obtain ⟨g3, y1, y2, y3⟩ := m_fly cb.1 x3 hb (cb.wb hb)
      have h0 : (coF (hoF s1 b (s1 4 b (cl (s1 3 b 0))) n4) b (s1 4 b (cl (s1 3 b 0))) n4) 4 b (cl ((coF (hoF s1 b (s1 4 b (cl (s1 3 b 0))) n4) b (s1 4 b (cl (s1 3 b 0))) n4) 3 b 0)) = s1 4 b (cl (s1 3 b 0)) := by
        rw [coF_3, hoF_p.1, coF_same.2.2.2.1, hoF_same.2.2.2.1]
      rw [h0] at y3
      refine ⟨g3, fun K => ?_, x2.tr y2, y3⟩
      rw [if_pos m1.1.1, be1, gB2_some, if_pos hle, if_pos m1.1.1, x1', gB2_some, if_pos x3.1.1, y1, ob_some, arr_mv]
    · have hle : ¬ s1 3 b 1 ≤ 0 := by
        rw [e6'] at l0 ⊢
        have : 0 < l := by
          rcases Nat.eq_zero_or_pos l with k | k
          · exfalso; apply l0; rw [k]; rfl
          · exact k
        exact nI_nle this (by omega)
      rw [if_neg l0, Int32.sub_self, Int32.add_zero]
      refine ⟨g1, fun K => ?_, Fm.rf, m1⟩
      rw [if_pos m1.1.1, be1, gB2_some, if_neg hle]
  have be1 := m_be (k := 1) (y := (1 : Int32)) m h6 hb (by omega) rfl rfl
  have hn4 : ∀ t : Sg, Same s t → cl (t 0 0 4) = n4 := fun t ht => by
    rw [ht.1 4 (by omega), c.1.2.2.2.1]
    exact cl_nI (by have := c.1.2.2.2.2.1; omega)
  by_cases l : s 3 b 1 ≤ 0
  · obtain ⟨g', x1', x2, x3⟩ := main g s _ _ _ c m
    have e : beeS s b = (if s 3 b 1 = 0 then mvS (coF (hoF s b (s 4 b (cl (s 3 b 0))) n4) b (s 4 b (cl (s 3 b 0))) n4) b (s 4 b (cl (s 3 b 0))) else s) := by
      unfold beeS
      rw [if_neg (Int32.not_lt.mpr l)]
      simp only [hn4 s Same.rf, hn4 _ hoF_same]
    refine ⟨g', fun K => ?_, x2, by rw [e]; exact x3⟩
    unfold f7_quarterOn_4b
    rw [if_pos m.1.1, e6, if_neg (nI_ge hb (by omega)), be1, gB2_some, if_pos l, x1', e]
  · obtain ⟨g2, c2⟩ := c_lane c hb l
    have m2 := m.putB (b := b) (k := 1) (v := s 3 b 1 - 1) (by omega) (by omega)
    obtain ⟨g', x1', x2, x3⟩ := main _ _ _ _ _ c2 m2
    have e : beeS s b = (if (su s 3 b 1 (s 3 b 1 - 1)) 3 b 1 = 0 then mvS (coF (hoF (su s 3 b 1 (s 3 b 1 - 1)) b ((su s 3 b 1 (s 3 b 1 - 1)) 4 b (cl ((su s 3 b 1 (s 3 b 1 - 1)) 3 b 0))) n4) b ((su s 3 b 1 (s 3 b 1 - 1)) 4 b (cl ((su s 3 b 1 (s 3 b 1 - 1)) 3 b 0))) n4) b ((su s 3 b 1 (s 3 b 1 - 1)) 4 b (cl ((su s 3 b 1 (s 3 b 1 - 1)) 3 b 0))) else su s 3 b 1 (s 3 b 1 - 1)) := by
      unfold beeS
      rw [if_pos (Int32.not_le.mp l)]
      simp only [hn4 _ (Same.b (s := s) (i := b) (k := 1) (v := s 3 b 1 - 1) (by omega)), hn4 _ ((Same.b (s := s) (i := b) (k := 1) (v := s 3 b 1 - 1) (by omega)).tr hoF_same)]
    have ea : arr (su s 3 b 1 (s 3 b 1 - 1)) = arr s := arr_5 su3_5 su3_0
    refine ⟨g', fun K => ?_, fmB.tr x2, by rw [e]; exact x3⟩
    unfold f7_quarterOn_4b
    rw [if_pos m.1.1, e6, if_neg (nI_ge hb (by omega)), be1, gB2_some, if_neg l, if_pos m.1.1, be1, gB2_some, if_pos m.1.1, m_setBe (k := 1) (y := (1 : Int32)) m h6 hb (by omega) rfl rfl, ob_some, x1', e, ea]
theorem m_quLoop {M a0 F n1 n2 n3 n4 q : Nat} {g0 : g_H} {s0 : Sg} (c : CI a0 F g0 s0 n1 n2 n3 n4 q) :
    ∀ k b fuel : Nat, ∀ (g : g_H), b + k = n3 → k < fuel → MX M g (beeF s0 b) n1 n2 n3 n4 →
    ∃ g', f7_quarterOn_4 fuel g M (arr (beeF s0 b) - arr s0) (nI b) = some (arr (quS s0) - arr s0, g') ∧ Fm M g g' ∧ MX M g' (quS s0) n1 n2 n3 n4 := by
  intro k
  have h6 := c.1.2.2.1
  have e3 : cl (s0 0 0 3) = n3 := by rw [c.1.2.1]; exact cl_nI (by omega)
  have hsame : ∀ b, b ≤ n3 → beeF s0 b 0 0 3 = nI n3 := fun b hb => by
    obtain ⟨g1, c1⟩ := c_bee c b hb
    exact c1.1.2.1
  have hq : quS s0 = su (beeF s0 n3) 0 0 0 (beeF s0 n3 0 0 0 + 1) := by
    unfold quS
    simp only [e3]
  induction k with
  | zero =>
    intro b fuel g h hf m
    obtain ⟨fu, rfl⟩ : ∃ fu, fuel = fu + 1 := ⟨fuel - 1, by omega⟩
    have : b = n3 := by omega
    subst this
    have ea : arr (quS s0) = arr (beeF s0 b) := by
      rw [hq]
      exact arr_keep (su_k (by omega)) fun i => by rw [su_t (by omega)]
    refine ⟨_, ?_, Fm.put (Or.inr (Or.inr rfl)), by rw [hq]; exact m.putQ⟩
    show f7_quarterOn_4b _ g M _ (nI b) = _
    unfold f7_quarterOn_4b gLt
    rw [if_pos m.1.1, m.2.1.2.2.1, hsame b (Nat.le_refl _), if_pos (Int32.le_refl _), m.1.2.1.2.2.2.2.2.2.1, ob_some, m.1.2.2.2.2.2.2.2.2.1, if_pos rfl, if_pos (by decide)]
    dsimp only
    rw [if_pos (by decide), ea]
    rw [show Int32.toNatClampNeg (0 : Int32) = 0 from rfl, m.2.2.2.2.2]
  | succ k ih =>
    intro b fuel g h hf m
    obtain ⟨fu, rfl⟩ : ∃ fu, fuel = fu + 1 := ⟨fuel - 1, by omega⟩
    obtain ⟨g0', c'⟩ := c_bee c b (by omega)
    obtain ⟨g1, x1, x2, x3⟩ := m_beeStep (x1 := arr (beeF s0 b) - arr s0) c' m (show b < n3 by omega)
    obtain ⟨g2, y1, y2, y3⟩ := ih (b + 1) fu g1 (by omega) (by omega) x3
    refine ⟨g2, ?_, x2.tr y2, y3⟩
    show f7_quarterOn_4b (f7_quarterOn_4 fu) g M _ (nI b) = _
    have e : arr (beeF s0 b) - arr s0 + (arr (beeS (beeF s0 b) b) - arr (beeF s0 b)) = arr (beeF s0 (b + 1)) - arr s0 := by
      show _ = arr (beeS (beeF s0 b) b) - arr s0
      exact i_tel _ _ _
    rw [x1, nI_1, e]
    exact y1
theorem m_quarterOn {M a0 F n1 n2 n3 n4 q : Nat} {g g0 : g_H} {s : Sg} (c : CI a0 F g0 s n1 n2 n3 n4 q) (m : MX M g s n1 n2 n3 n4) :
    ∃ g', f7_quarterOn g M = some (arr (quS s) - arr s, g') ∧ Fm M g g' ∧ MX M g' (quS s) n1 n2 n3 n4 := by
  have h6 := c.1.2.2.1
  obtain ⟨g', x1, x2, x3⟩ := m_quLoop c n3 0 300 g (by omega) (by omega) m
  refine ⟨g', ?_, x2, x3⟩
  rw [show arr (beeF s 0) - arr s = 0 from Int32.sub_self _] at x1
  exact x1
theorem c_qus {a0 F n1 n2 n3 n4 q : Nat} {g : g_H} {s : Sg} (c : CI a0 F g s n1 n2 n3 n4 q) (k : Nat) (hk : q + k < 2 ^ 26) : ∃ g', CI a0 F g' (quF s k) n1 n2 n3 n4 (q + k) := by
  induction k with
  | zero => exact ⟨g, c⟩
  | succ k ih =>
    obtain ⟨g1, c1⟩ := ih (by omega)
    obtain ⟨g2, -, -, x⟩ := p_quarter c1 (by omega)
    exact ⟨g2, x⟩
theorem m_passLoop {M a0 F n1 n2 n3 n4 q N : Nat} {g0 : g_H} {s0 : Sg} (c : CI a0 F g0 s0 n1 n2 n3 n4 q) (hq : q + N < 2 ^ 26) :
    ∀ m k fuel : Nat, ∀ g : g_H, k + m = N → m < fuel → MX M g (quF s0 k) n1 n2 n3 n4 →
    ∃ g', f7_pass_26 fuel g M (nI N) (arr (quF s0 k) - arr s0) (nI k) = some (arr (quF s0 N) - arr s0, g') ∧ Fm M g g' ∧ MX M g' (quF s0 N) n1 n2 n3 n4 := by
  intro m
  induction m with
  | zero =>
    intro k fuel g him hf mx
    obtain ⟨fu, rfl⟩ : ∃ fu, fuel = fu + 1 := ⟨fuel - 1, by omega⟩
    have : k = N := by omega
    subst this
    refine ⟨g, ?_, Fm.rf, mx⟩
    show f7_pass_26b _ g M (nI k) _ (nI k) = _
    unfold f7_pass_26b
    rw [if_pos (Int32.le_refl _)]
  | succ m ih =>
    intro k fuel g him hf mx
    obtain ⟨fu, rfl⟩ : ∃ fu, fuel = fu + 1 := ⟨fuel - 1, by omega⟩
    obtain ⟨gk, ck⟩ := c_qus c k (by omega)
    obtain ⟨g1, y1, y2, y3⟩ := m_quarterOn ck mx
    obtain ⟨g2, z1, z2, z3⟩ := ih (k + 1) fu g1 (by omega) (by omega) y3
    refine ⟨g2, ?_, y2.tr z2, z3⟩
    show f7_pass_26b (f7_pass_26 fu) g M (nI N) _ (nI k) = _
    have e : arr (quF s0 k) - arr s0 + (arr (quS (quF s0 k)) - arr (quF s0 k)) = arr (quF s0 (k + 1)) - arr s0 := by
      show _ = arr (quS (quF s0 k)) - arr s0
      exact i_tel _ _ _
    unfold f7_pass_26b
    rw [if_neg (nI_ge (by omega) (by omega)), if_pos mx.1.1, y1, gB2_some, nI_1, e]
    exact z1
end
section
/-! PURE: ways, as numbers -/
def jn (la : Nat → Nat → Nat) (m z y l : Nat) : Prop := ∃ i, i < m ∧ la i 2 = l ∧ ((la i 0 = z ∧ la i 1 = y) ∨ (la i 0 = y ∧ la i 1 = z))
def Wk (la : Nat → Nat → Nat) (m : Nat) : Nat → Nat → Nat → Nat → Prop
  | 0, x, y, d => x = y ∧ d = 0
  | k + 1, x, y, d => ∃ z l e, jn la m z y l ∧ d = e + l ∧ Wk la m k x z e
def Hl (la : Nat → Nat → Nat) (m n : Nat) : Prop := ∀ i, i < m → la i 0 < n ∧ la i 1 < n ∧ 1 ≤ la i 2 ∧ la i 2 ≤ 6
def Val (la : Nat → Nat → Nat) (m n far : Nat) (D : Nat → Nat → Nat) : Prop := (∀ x, x < n → D x x = 0) ∧ (∀ x z y l, x < n → jn la m z y l → D x y ≤ D x z + l) ∧ (∀ x y, x < n → y < n → D x y ≤ far) ∧ ∀ x y, x < n → y < n → D x y < far → ∃ k, Wk la m k x y (D x y)
theorem jn.sym {la : Nat → Nat → Nat} {m z y l : Nat} (h : jn la m z y l) : jn la m y z l := by
  obtain ⟨i, h1, h2, h3⟩ := h
  exact ⟨i, h1, h2, h3.symm⟩
theorem jn.lt {la : Nat → Nat → Nat} {m n z y l : Nat} (h : jn la m z y l) (hl : Hl la m n) : z < n ∧ y < n ∧ 1 ≤ l ∧ l ≤ 6 := by
  obtain ⟨i, h1, h2, h3⟩ := h
  obtain ⟨a, b, c, d⟩ := hl i h1
  rcases h3 with ⟨e, f⟩ | ⟨e, f⟩
  · exact ⟨by omega, by omega, by omega, by omega⟩
  · exact ⟨by omega, by omega, by omega, by omega⟩
theorem Wk.cat {la : Nat → Nat → Nat} {m j k x y z d e : Nat} (h : Wk la m j x y d) (h' : Wk la m k y z e) : Wk la m (j + k) x z (d + e) := by
  induction k generalizing z e with
  | zero =>
    obtain ⟨rfl, rfl⟩ := h'
    exact h
  | succ k ih =>
    obtain ⟨w, l, f, h1, h2, h3⟩ := h'
    exact ⟨w, l, d + f, h1, by omega, ih h3⟩
theorem Val.le {la : Nat → Nat → Nat} {m n far : Nat} {D : Nat → Nat → Nat} (v : Val la m n far D) (hl : Hl la m n) {k x y d : Nat} (hx : x < n) (h : Wk la m k x y d) : y < n ∧ D x y ≤ d := by
  induction k generalizing y d with
  | zero =>
    obtain ⟨rfl, rfl⟩ := h
    exact ⟨hx, by rw [v.1 x hx]; omega⟩
  | succ k ih =>
    obtain ⟨z, l, e, h1, h2, h3⟩ := h
    obtain ⟨q1, q2⟩ := ih h3
    have := v.2.1 x z y l hx h1
    exact ⟨(h1.lt hl).2.1, by omega⟩
def cn (f : Nat → Nat) (v : Nat) : Nat → Nat
  | 0 => 0
  | n + 1 => cn f v n + (if f n < v then 1 else 0)
theorem cn_mono {f : Nat → Nat} {u v n : Nat} (h : u ≤ v) : cn f u n ≤ cn f v n := by
  induction n with
  | zero => exact Nat.le_refl _
  | succ n ih =>
    show cn f u n + _ ≤ cn f v n + _
    by_cases h1 : f n < u
    · rw [if_pos h1, if_pos (by omega)]; omega
    · rw [if_neg h1]
      omega
theorem cn_more {f : Nat → Nat} {u v n z : Nat} (h : u ≤ v) (hz : z < n) (h1 : f z < v) (h2 : ¬ f z < u) : cn f u n + 1 ≤ cn f v n := by
  induction n with
  | zero => omega
  | succ n ih =>
    show cn f u n + _ + 1 ≤ cn f v n + _
    by_cases e : z = n
    · subst e
      rw [if_pos h1, if_neg h2]
      have := cn_mono (f := f) (n := z) h
      omega
    · have := ih (by omega)
      by_cases h3 : f n < u
      · rw [if_pos h3, if_pos (by omega)]; omega
      · rw [if_neg h3]; omega
theorem cn_le {f : Nat → Nat} {v n : Nat} : cn f v n ≤ n := by
  induction n with
  | zero => exact Nat.le_refl _
  | succ n ih =>
    show cn f v n + _ ≤ n + 1
    by_cases h : f n < v
    · rw [if_pos h]; omega
    · rw [if_neg h]; omega
theorem cn_lt {f : Nat → Nat} {v n y : Nat} (hy : y < n) (h : ¬ f y < v) : cn f v n + 1 ≤ n := by
  induction n with
  | zero => omega
  | succ n ih =>
    show cn f v n + _ + 1 ≤ n + 1
    by_cases e : y = n
    · subst e
      rw [if_neg h]
      have := cn_le (f := f) (v := v) (n := y)
      omega
    · have := ih (by omega)
      by_cases h3 : f n < v
      · rw [if_pos h3]; omega
      · rw [if_neg h3]; omega
/-- the last lane of a shortest way -/
theorem Val.last {la : Nat → Nat → Nat} {m n far : Nat} {D : Nat → Nat → Nat} (v : Val la m n far D) (hl : Hl la m n) {x y : Nat} (hx : x < n) (hy : y < n) (hne : x ≠ y) (hf : D x y < far) : ∃ z l, jn la m z y l ∧ z < n ∧ D x z + l ≤ D x y := by
  obtain ⟨k, hk⟩ := v.2.2.2 x y hx hy hf
  cases k with
  | zero => exact absurd hk.1 hne
  | succ k =>
    obtain ⟨z, l, e, h1, h2, h3⟩ := hk
    obtain ⟨q1, q2⟩ := v.le hl hx h3
    exact ⟨z, l, h1, q1, by omega⟩
theorem Val.bound {la : Nat → Nat → Nat} {m n far : Nat} {D : Nat → Nat → Nat} (v : Val la m n far D) (hl : Hl la m n) {x : Nat} (hx : x < n) : ∀ d y, D x y ≤ d → y < n → D x y < far → D x y ≤ 6 * cn (D x) (D x y) n := by
  intro d
  induction d with
  | zero => intro y h1 h2 h3; omega
  | succ d ih =>
    intro y h1 h2 h3
    by_cases e : x = y
    · subst e
      rw [v.1 x hx]; omega
    · obtain ⟨z, l, j1, j2, j3⟩ := v.last hl hx h2 e h3
      obtain ⟨-, -, l1, l6⟩ := j1.lt hl
      have r := v.2.1 x z y l hx j1
      have := ih z (by omega) j2 (by omega)
      have := cn_more (f := D x) (u := D x z) (v := D x y) (n := n) (z := z) (by omega) j2 (by omega) (by omega)
      omega
theorem Val.le78 {la : Nat → Nat → Nat} {m n far : Nat} {D : Nat → Nat → Nat} (v : Val la m n far D) (hl : Hl la m n) (hn : n ≤ 14) {x y : Nat} (hx : x < n) (hy : y < n) (hf : D x y < far) : D x y ≤ 78 := by
  have h1 := v.bound hl hx (D x y) y (Nat.le_refl _) hy hf
  have h2 := cn_lt (f := D x) (v := D x y) (n := n) hy (by omega)
  omega
theorem Val.uni {la : Nat → Nat → Nat} {m n : Nat} {C D : Nat → Nat → Nat} (c : Val la m n 1000 C) (v : Val la m n 9999 D) (hl : Hl la m n) (hn : n ≤ 14) {x y : Nat} (hx : x < n) (hy : y < n) : D x y = if C x y = 1000 then 9999 else C x y := by
  by_cases h : C x y < 1000
  · obtain ⟨k, hk⟩ := c.2.2.2 x y hx hy h
    have h1 := (v.le hl hx hk).2
    obtain ⟨k', hk'⟩ := v.2.2.2 x y hx hy (by omega)
    have h2 := (c.le hl hx hk').2
    rw [if_neg (by omega)]
    omega
  · have h3 := c.2.2.1 x y hx hy
    rw [if_pos (by omega)]
    by_cases h' : D x y < 9999
    · obtain ⟨k', hk'⟩ := v.2.2.2 x y hx hy h'
      have h2 := (c.le hl hx hk').2
      have := v.le78 hl hn hx hy h'
      omega
    · have := v.2.2.1 x y hx hy
      omega
end
section
/-! PURE: a lane joined, as numbers -/
theorem jn.up {la : Nat → Nat → Nat} {m z y l : Nat} (h : jn la m z y l) : jn la (m + 1) z y l := by
  obtain ⟨i, h1, h2⟩ := h
  exact ⟨i, by omega, h2⟩
theorem Wk.up {la : Nat → Nat → Nat} {m k x y d : Nat} (h : Wk la m k x y d) : Wk la (m + 1) k x y d := by
  induction k generalizing y d with
  | zero => exact h
  | succ k ih =>
    obtain ⟨z, l, e, h1, h2, h3⟩ := h
    exact ⟨z, l, e, h1.up, h2, ih h3⟩
def cU (C : Nat → Nat → Nat) (x y v : Nat) : Nat → Nat → Nat := fun i j => if i = x ∧ j = y then v else C i j
def jm (C : Nat → Nat → Nat) (a b l x y : Nat) : Nat := if (if C x b + l + C a y < C x a + l + C b y then C x b + l + C a y else C x a + l + C b y) < C x y then (if C x b + l + C a y < C x a + l + C b y then C x b + l + C a y else C x a + l + C b y) else C x y
theorem jm_le {C : Nat → Nat → Nat} {a b l x y : Nat} : jm C a b l x y ≤ C x y ∧ jm C a b l x y ≤ C x a + l + C b y ∧ jm C a b l x y ≤ C x b + l + C a y ∧ (jm C a b l x y = C x y ∨ jm C a b l x y = C x a + l + C b y ∨ jm C a b l x y = C x b + l + C a y) := by
  unfold jm
  by_cases h1 : C x b + l + C a y < C x a + l + C b y
  · rw [if_pos h1]
    by_cases h2 : C x b + l + C a y < C x y
    · rw [if_pos h2]; omega
    · rw [if_neg h2]; omega
  · rw [if_neg h1]
    by_cases h2 : C x a + l + C b y < C x y
    · rw [if_pos h2]; omega
    · rw [if_neg h2]; omega
/-- underway: (x, y) is the next -/
def Jv (la : Nat → Nat → Nat) (m n : Nat) (C0 C : Nat → Nat → Nat) (x y : Nat) : Prop :=
  (∀ i j, C i j ≤ C0 i j) ∧ (∀ i, i < n → C i i = 0) ∧ (∀ i j, i < n → j < n → C i j < 1000 → ∃ k, Wk la (m + 1) k i j (C i j)) ∧
  (∀ i j, i < n → j < n → (i < x ∨ (i = x ∧ j < y)) → C i j ≤ C0 i (la m 0) + la m 2 + C0 (la m 1) j ∧ C i j ≤ C0 i (la m 1) + la m 2 + C0 (la m 0) j) ∧ ∀ i j, ¬ (i < n ∧ j < n) → C i j = C0 i j
theorem Jv.init {la : Nat → Nat → Nat} {m n : Nat} {C0 : Nat → Nat → Nat} (v : Val la m n 1000 C0) : Jv la m n C0 C0 0 0 :=
  ⟨fun _ _ => Nat.le_refl _, v.1, fun i j hi hj h => by
    obtain ⟨k, hk⟩ := v.2.2.2 i j hi hj h
    exact ⟨k, hk.up⟩, fun i j _ _ h => by omega, fun _ _ _ => rfl⟩
theorem Jv.row {la : Nat → Nat → Nat} {m n x : Nat} {C0 C : Nat → Nat → Nat} (h : Jv la m n C0 C x n) : Jv la m n C0 C (x + 1) 0 :=
  ⟨h.1, h.2.1, h.2.2.1, fun i j hi hj hh => h.2.2.2.1 i j hi hj (by omega), h.2.2.2.2⟩
theorem Jv.step {la : Nat → Nat → Nat} {m n x y : Nat} {C0 C : Nat → Nat → Nat} (hl : Hl la (m + 1) n) (hx : x < n) (hy : y < n) (h : Jv la m n C0 C x y) : Jv la m n C0 (cU C x y (jm C (la m 0) (la m 1) (la m 2) x y)) x (y + 1) := by
  obtain ⟨h1, h2, h3, h4, h5⟩ := h
  obtain ⟨ha, hb, -, -⟩ := hl m (by omega)
  obtain ⟨j1, j2, j3, j4⟩ := jm_le (C := C) (a := la m 0) (b := la m 1) (l := la m 2) (x := x) (y := y)
  have hj : jn la (m + 1) (la m 0) (la m 1) (la m 2) := ⟨m, by omega, rfl, Or.inl ⟨rfl, rfl⟩⟩
  have step : ∀ u v, jn la (m + 1) u v (la m 2) → Wk la (m + 1) 1 u v (0 + la m 2) := fun u v q => ⟨u, la m 2, 0, q, rfl, rfl, rfl⟩
  have e1 := h1 x y
  have e2 := h1 x (la m 0)
  have e3 := h1 (la m 1) y
  have e4 := h1 x (la m 1)
  have e5 := h1 (la m 0) y
  refine ⟨fun i j => ?_, fun i hi => ?_, fun i j hi hj' hf => ?_, fun i j hi hj' hh => ?_, fun i j hij => ?_⟩
  · unfold cU
    by_cases c : i = x ∧ j = y
    · rw [if_pos c, c.1, c.2]; omega
    · rw [if_neg c]; exact h1 i j
  · unfold cU
    by_cases c : i = x ∧ i = y
    · rw [if_pos c]
      have q := h2 i hi
      rw [← c.1, ← c.2] at j1 ⊢
      omega
    · rw [if_neg c]; exact h2 i hi
  · unfold cU at hf ⊢
    by_cases c : i = x ∧ j = y
    · rw [if_pos c] at hf ⊢
      rw [c.1, c.2]
      rcases j4 with q | q | q
      · rw [q]; exact h3 x y hx hy (by omega)
      · obtain ⟨k1, w1⟩ := h3 x (la m 0) hx ha (by omega)
        obtain ⟨k2, w2⟩ := h3 (la m 1) y hb hy (by omega)
        have w := (w1.cat (step _ _ hj)).cat w2
        rw [Nat.zero_add, ← q] at w
        exact ⟨_, w⟩
      · obtain ⟨k1, w1⟩ := h3 x (la m 1) hx hb (by omega)
        obtain ⟨k2, w2⟩ := h3 (la m 0) y ha hy (by omega)
        have w := (w1.cat (step _ _ hj.sym)).cat w2
        rw [Nat.zero_add, ← q] at w
        exact ⟨_, w⟩
    · rw [if_neg c] at hf ⊢
      exact h3 i j hi hj' hf
  · unfold cU
    by_cases c : i = x ∧ j = y
    · rw [if_pos c, c.1, c.2]; omega
    · rw [if_neg c]
      exact h4 i j hi hj' (by omega)
  · unfold cU
    rw [if_neg (by omega)]
    exact h5 i j hij
theorem Jv.low {la : Nat → Nat → Nat} {m n : Nat} {C0 : Nat → Nat → Nat} (v : Val la m n 1000 C0) (hl : Hl la (m + 1) n) {k x y d : Nat} (hx : x < n) (h : Wk la (m + 1) k x y d) : y < n ∧ (C0 x y ≤ d ∨ C0 x (la m 0) + la m 2 + C0 (la m 1) y ≤ d ∨ C0 x (la m 1) + la m 2 + C0 (la m 0) y ≤ d) := by
  obtain ⟨ha, hb, -, -⟩ := hl m (by omega)
  have za := v.1 _ ha
  have zb := v.1 _ hb
  induction k generalizing y d with
  | zero =>
    obtain ⟨rfl, rfl⟩ := h
    exact ⟨hx, Or.inl (by rw [v.1 x hx]; omega)⟩
  | succ k ih =>
    obtain ⟨z, l, e, h1, h2, h3⟩ := h
    obtain ⟨q1, q2⟩ := ih h3
    refine ⟨(h1.lt hl).2.1, ?_⟩
    obtain ⟨i, i1, i2, i3⟩ := h1
    by_cases c : i = m
    · subst c
      rcases i3 with ⟨e1, e2⟩ | ⟨e1, e2⟩
      · subst e1; subst e2
        rcases q2 with q | q | q
        · exact Or.inr (Or.inl (by omega))
        · exact Or.inr (Or.inl (by omega))
        · exact Or.inl (by omega)
      · subst e1; subst e2
        rcases q2 with q | q | q
        · exact Or.inr (Or.inr (by omega))
        · exact Or.inl (by omega)
        · exact Or.inr (Or.inr (by omega))
    · have hj : jn la m z y l := ⟨i, by omega, i2, i3⟩
      have r1 := v.2.1 x z y l hx hj
      have r2 := v.2.1 (la m 1) z y l hb hj
      have r3 := v.2.1 (la m 0) z y l ha hj
      rcases q2 with q | q | q
      · exact Or.inl (by omega)
      · exact Or.inr (Or.inl (by omega))
      · exact Or.inr (Or.inr (by omega))
theorem Jv.fin {la : Nat → Nat → Nat} {m n : Nat} {C0 C : Nat → Nat → Nat} (v : Val la m n 1000 C0) (hl : Hl la (m + 1) n) (h : Jv la m n C0 C n 0) : Val la (m + 1) n 1000 C := by
  obtain ⟨h1, h2, h3, h4, h5⟩ := h
  have hle : ∀ x y, x < n → y < n → C x y ≤ 1000 := fun x y hx hy => by
    have := v.2.2.1 x y hx hy
    have := h1 x y
    omega
  refine ⟨h2, fun x z y l hx hj => ?_, hle, h3⟩
  obtain ⟨hz, hy, -, -⟩ := hj.lt hl
  by_cases c : C x z < 1000
  · obtain ⟨k, hk⟩ := h3 x z hx hz c
    have hw : Wk la (m + 1) (k + 1) x y (C x z + l) := ⟨z, l, C x z, hj, rfl, hk⟩
    have := (Jv.low v hl hx hw).2
    have p := h4 x y hx hy (Or.inl hx)
    have p1 := h1 x y
    omega
  · have := hle x y hx hy
    omega
end
section
/-! PURE: a lane joined, in the heap -/
def WC (a0 : Nat) (g : g_H) (C : Nat → Nat → Nat) : Prop := ∀ x y, x < 14 → y < 14 → gI g (a0 + 29 + x) y = nI (C x y)
def Fw (a0 : Nat) (g h : g_H) : Prop := gS h = gS g ∧ gR h = gR g ∧ gJ h = gJ g ∧ gZ h = gZ g ∧ ∀ a, ¬ (a0 + 29 ≤ a ∧ a ≤ a0 + 42) → gI h a = gI g a
theorem Fw.rf {a0 : Nat} {g : g_H} : Fw a0 g g := ⟨rfl, rfl, rfl, rfl, fun _ _ => rfl⟩
theorem Fw.tr {a0 : Nat} {g h k : g_H} (x : Fw a0 g h) (y : Fw a0 h k) : Fw a0 g k := ⟨y.1.trans x.1, y.2.1.trans x.2.1, y.2.2.1.trans x.2.2.1, y.2.2.2.1.trans x.2.2.2.1, fun a ha => (y.2.2.2.2 a ha).trans (x.2.2.2.2 a ha)⟩
theorem min_nI {u v w : Nat} (hu : u < 2 ^ 31) (hv : v < 2 ^ 31) (hw : w < 2 ^ 31) : (if (if nI v < nI u then nI v else nI u) < nI w then (if nI v < nI u then nI v else nI u) else nI w) = nI (if (if v < u then v else u) < w then (if v < u then v else u) else w) := by
  by_cases c : v < u
  · rw [if_pos ((nI_ltI hv hu).mpr c), if_pos c]
    by_cases d : v < w
    · rw [if_pos ((nI_ltI hv hw).mpr d), if_pos d]
    · rw [if_neg (fun k => d ((nI_ltI hv hw).mp k)), if_neg d]
  · rw [if_neg (fun k => c ((nI_ltI hv hu).mp k)), if_neg c]
    by_cases d : u < w
    · rw [if_pos ((nI_ltI hu hw).mpr d), if_pos d]
    · rw [if_neg (fun k => d ((nI_ltI hu hw).mp k)), if_neg d]
theorem p_jStep {a0 n a b l x y : Nat} {g : g_H} {C : Nat → Nat → Nat} (t : TL a0 g) (hn : gI g (a0 + 1) 0 = nI n) (h14 : n ≤ 14) (wc : WC a0 g C) (hC : ∀ i j, i < n → j < n → C i j ≤ 1000) (ha : a < n) (hb : b < n) (hl : l ≤ 6) (hx : x < n) (hy : y < n) (K18) (K30) :
    f5_join_30b K18 K30 g (a0 + 1) (nI a) (nI b) (nI l) (nI x) (nI y) = K30 (gPI g (a0 + 29 + x) y (nI (jm C a b l x y))) (a0 + 1) (nI a) (nI b) (nI l) (nI x) (nI y + 1) := by
  obtain ⟨t1, t2, t3, t4, t5, t6, t7, t8, t9⟩ := t
  have ok : ∀ i, i < n → (nI i < 0 ∨ 14 ≤ i) = False := fun i hi => eq_false fun k => k.elim (nI_pos (by omega)) (fun q => by omega)
  have cl' : ∀ i, i < n → Int32.toNatClampNeg (nI i) = i := fun i hi => cl_nI (by omega)
  have row : ∀ i, i < n → gR g (a0 + 28) i = some (a0 + 29 + i) := fun i hi => (t9 i (by omega)).1
  have rowS : ∀ i, i < n → gS g (a0 + 29 + i) = (11, 14) := fun i hi => (t9 i (by omega)).2
  have cell : ∀ i j, i < n → j < n → gI g (a0 + 29 + i) j = nI (C i j) := fun i j hi hj => wc i j (by omega) (by omega)
  unfold f5_join_30b gLt
  simp only [t1, if_true, hn, if_neg (nI_ge (a := y) (b := n) hy (by omega)), t4, ob_some, t7, ok x hx, ok y hy, ok a ha, ok b hb, not_false_eq_true, cl' x hx, cl' y hy, cl' a ha, cl' b hb, row x hx, row a ha, row b hb, rowS x hx, rowS a ha, rowS b hb, cell x a hx ha, cell x b hx hb, cell b y hb hy, cell a y ha hy, cell x y hx hy, nI_add]
  have q1 := hC x a hx ha
  have q2 := hC x b hx hb
  have q3 := hC b y hb hy
  have q4 := hC a y ha hy
  have q5 := hC x y hx hy
  rw [min_nI (by omega) (by omega) (by omega)]
  rfl
theorem WC.put {a0 x y v : Nat} {g : g_H} {C : Nat → Nat → Nat} (wc : WC a0 g C) : WC a0 (gPI g (a0 + 29 + x) y (nI v)) (cU C x y v) := by
  intro i j hi hj
  rw [gI_PI]
  unfold cU
  by_cases c : i = x ∧ j = y
  · rw [if_pos (by omega), if_pos c.2, if_pos c]
  · rw [if_neg c]
    by_cases d : i = x
    · rw [if_pos (by omega), if_neg (by omega)]; exact wc i j hi hj
    · rw [if_neg (by omega)]; exact wc i j hi hj
theorem TL.fw {a0 : Nat} {g h : g_H} (t : TL a0 g) (f : Fw a0 g h) : TL a0 h := by
  unfold TL
  rw [f.1, f.2.1]
  exact t
theorem Jv.le1000 {la : Nat → Nat → Nat} {m n x y : Nat} {C0 C : Nat → Nat → Nat} (v : Val la m n 1000 C0) (h : Jv la m n C0 C x y) : ∀ i j, i < n → j < n → C i j ≤ 1000 := fun i j hi hj => by
  have := h.1 i j
  have := v.2.2.1 i j hi hj
  omega
/-- a row -/
theorem p_jRow {a0 n m x : Nat} {la : Nat → Nat → Nat} {C0 : Nat → Nat → Nat} (v : Val la m n 1000 C0) (hl : Hl la (m + 1) n) (h14 : n ≤ 14) (hx : x < n) (K18) :
    ∀ k y fuel : Nat, ∀ (g : g_H) (C : Nat → Nat → Nat), y + k = n → k < fuel → TL a0 g → gI g (a0 + 1) 0 = nI n → WC a0 g C → Jv la m n C0 C x y →
    ∃ g' C', f5_join_30 K18 fuel g (a0 + 1) (nI (la m 0)) (nI (la m 1)) (nI (la m 2)) (nI x) (nI y) = K18 g' (a0 + 1) (nI (la m 0)) (nI (la m 1)) (nI (la m 2)) (nI x + 1) ∧ Fw a0 g g' ∧ WC a0 g' C' ∧ Jv la m n C0 C' (x + 1) 0 := by
  intro k
  obtain ⟨ha, hb, -, h6⟩ := hl m (by omega)
  induction k with
  | zero =>
    intro y fuel g C hk hf t hn wc j
    obtain ⟨fu, rfl⟩ : ∃ fu, fuel = fu + 1 := ⟨fuel - 1, by omega⟩
    have : y = n := by omega
    subst this
    refine ⟨g, C, ?_, Fw.rf, wc, j.row⟩
    show f5_join_30b K18 _ g (a0 + 1) _ _ _ (nI x) (nI y) = _
    unfold f5_join_30b
    rw [if_pos t.1, hn, if_pos (Int32.le_refl _)]
  | succ k ih =>
    intro y fuel g C hk hf t hn wc j
    obtain ⟨fu, rfl⟩ : ∃ fu, fuel = fu + 1 := ⟨fuel - 1, by omega⟩
    have hst := p_jStep (a := la m 0) (b := la m 1) (l := la m 2) t hn h14 wc (j.le1000 v) ha hb h6 hx (show y < n by omega) K18 (f5_join_30 K18 fu)
    have f1 : Fw a0 g (gPI g (a0 + 29 + x) y (nI (jm C (la m 0) (la m 1) (la m 2) x y))) := ⟨rfl, rfl, rfl, rfl, fun b hb => gU_o (by omega)⟩
    obtain ⟨g', C', e1, e2, e3, e4⟩ := ih (y + 1) fu _ _ (by omega) (by omega) (t.fw f1) (by rw [f1.2.2.2.2 _ (by omega)]; exact hn) wc.put (j.step hl hx (by omega))
    refine ⟨g', C', ?_, f1.tr e2, e3, e4⟩
    rw [← nI_1] at e1
    exact hst.trans e1
theorem p_jLoop {a0 n m : Nat} {la : Nat → Nat → Nat} {C0 : Nat → Nat → Nat} (v : Val la m n 1000 C0) (hl : Hl la (m + 1) n) (h14 : n ≤ 14) :
    ∀ k x fuel : Nat, ∀ (g : g_H) (C : Nat → Nat → Nat), x + k = n → k < fuel → TL a0 g → gI g (a0 + 1) 0 = nI n → WC a0 g C → Jv la m n C0 C x 0 →
    ∃ g' C', f5_join_18 fuel g (a0 + 1) (nI (la m 0)) (nI (la m 1)) (nI (la m 2)) (nI x) = some (gI g (a0 + 1) 1, gPI g' (a0 + 1) 1 (gI g (a0 + 1) 1 + 1)) ∧ Fw a0 g g' ∧ WC a0 g' C' ∧ Jv la m n C0 C' n 0 := by
  intro k
  induction k with
  | zero =>
    intro x fuel g C hk hf t hn wc j
    obtain ⟨fu, rfl⟩ : ∃ fu, fuel = fu + 1 := ⟨fuel - 1, by omega⟩
    have : x = n := by omega
    subst this
    refine ⟨g, C, ?_, Fw.rf, wc, j⟩
    show f5_join_18b _ g (a0 + 1) _ _ _ (nI x) = _
    unfold f5_join_18b
    rw [if_pos t.1, hn, if_pos (Int32.le_refl _)]
  | succ k ih =>
    intro x fuel g C hk hf t hn wc j
    obtain ⟨fu, rfl⟩ : ∃ fu, fuel = fu + 1 := ⟨fuel - 1, by omega⟩
    obtain ⟨g1, C1, e1, e2, e3, e4⟩ := p_jRow v hl h14 (show x < n by omega) (f5_join_18 fu) n 0 300 g C (by omega) (by omega) t hn wc j
    obtain ⟨g2, C2, d1, d2, d3, d4⟩ := ih (x + 1) fu g1 C1 (by omega) (by omega) (t.fw e2) (by rw [e2.2.2.2.2 _ (by omega)]; exact hn) e3 e4
    refine ⟨g2, C2, ?_, e2.tr d2, d3, d4⟩
    show f5_join_18b (f5_join_18 fu) g (a0 + 1) _ _ _ (nI x) = _
    unfold f5_join_18b
    rw [if_pos t.1, hn, if_neg (nI_ge (by omega) (by omega)), show (0 : Int32) = nI 0 from rfl, e1, nI_1, d1, e2.2.2.2.2 _ (by omega)]
end
section
/-! PURE: the model's reckoning, as numbers -/
def Gv (la : Nat → Nat → Nat) (m n p k : Nat) (D : Nat → Nat → Nat) : Prop := (∀ x, x < n → D x x = 0) ∧ (∀ x y, x < n → y < n → D x y ≤ 9999) ∧ (∀ x y, x < n → y < n → D x y < 9999 → ∃ j, Wk la m j x y (D x y)) ∧ (∀ z y l, jn la p z y l → D z y ≤ l) ∧ ∀ x y z, x < n → y < n → z < k → D x y ≤ D x z + D z y
theorem Gv.val {la : Nat → Nat → Nat} {m n : Nat} {D : Nat → Nat → Nat} (h : Gv la m n m n D) (hl : Hl la m n) : Val la m n 9999 D := by
  obtain ⟨h1, h2, h3, h4, h5⟩ := h
  refine ⟨h1, fun x z y l hx hj => ?_, h2, h3⟩
  obtain ⟨hz, hy, -, -⟩ := hj.lt hl
  have a := h4 z y l hj
  have b := h5 x y z hx hy hz
  omega
def Qv (la : Nat → Nat → Nat) (m n k : Nat) (D0 D : Nat → Nat → Nat) (x y : Nat) : Prop :=
  (∀ i j, i < n → j < n → D i j ≤ D0 i j ∧ (D i j = D0 i j ∨ D i j = D0 i k + D0 k j)) ∧ (∀ i, i < n → D i k = D0 i k ∧ D k i = D0 k i) ∧ (∀ i j, i < n → j < n → D i j < 9999 → ∃ w, Wk la m w i j (D i j)) ∧
  (∀ i j, i < n → j < n → (i < x ∨ (i = x ∧ j < y)) → D i j ≤ D0 i k + D0 k j)
theorem Qv.init {la : Nat → Nat → Nat} {m n k p : Nat} {D0 : Nat → Nat → Nat} (g : Gv la m n p k D0) : Qv la m n k D0 D0 0 0 :=
  ⟨fun _ _ _ _ => ⟨Nat.le_refl _, Or.inl rfl⟩, fun _ _ => ⟨rfl, rfl⟩, g.2.2.1, fun _ _ _ _ h => by omega⟩
theorem Qv.row {la : Nat → Nat → Nat} {m n k x : Nat} {D0 D : Nat → Nat → Nat} (h : Qv la m n k D0 D x n) : Qv la m n k D0 D (x + 1) 0 :=
  ⟨h.1, h.2.1, h.2.2.1, fun i j hi hj hh => h.2.2.2 i j hi hj (by omega)⟩
def fm (D : Nat → Nat → Nat) (k x y : Nat) : Nat := if D x k + D k y < D x y then D x k + D k y else D x y
theorem Qv.step {la : Nat → Nat → Nat} {m n k p x y : Nat} {D0 D : Nat → Nat → Nat} (g : Gv la m n p k D0) (hk : k < n) (hx : x < n) (hy : y < n) (h : Qv la m n k D0 D x y) : Qv la m n k D0 (cU D x y (fm D k x y)) x (y + 1) := by
  obtain ⟨h1, h2, h3, h4⟩ := h
  have kk := g.1 k hk
  have e1 := (h2 x hx).1
  have e2 := (h2 y hy).2
  obtain ⟨a1, a2⟩ := h1 x y hx hy
  have hv : fm D k x y ≤ D x y ∧ fm D k x y ≤ D0 x k + D0 k y ∧ (fm D k x y = D x y ∨ fm D k x y = D0 x k + D0 k y) := by
    unfold fm
    rw [e1, e2]
    by_cases c : D0 x k + D0 k y < D x y
    · rw [if_pos c]; omega
    · rw [if_neg c]; omega
  obtain ⟨v1, v2, v3⟩ := hv
  refine ⟨fun i j hi hj => ?_, fun i hi => ⟨?_, ?_⟩, fun i j hi hj hf => ?_, fun i j hi hj hh => ?_⟩
  · unfold cU
    by_cases c : i = x ∧ j = y
    · rw [if_pos c, c.1, c.2]
      omega
    · rw [if_neg c]; exact h1 i j hi hj
  · unfold cU
    by_cases c : i = x ∧ k = y
    · rw [if_pos c]
      obtain ⟨c1, c2⟩ := c
      subst c1; subst c2
      have := (h1 i k hi hk).1
      have := (h2 i hi).1
      rcases v3 with q | q <;> omega
    · rw [if_neg c]; exact (h2 i hi).1
  · unfold cU
    by_cases c : k = x ∧ i = y
    · rw [if_pos c]
      obtain ⟨c1, c2⟩ := c
      subst c1; subst c2
      have := (h2 i hi).2
      rcases v3 with q | q <;> omega
    · rw [if_neg c]; exact (h2 i hi).2
  · unfold cU at hf ⊢
    by_cases c : i = x ∧ j = y
    · rw [if_pos c] at hf ⊢
      rw [c.1, c.2]
      rcases v3 with q | q
      · rw [q]; exact h3 x y hx hy (by omega)
      · obtain ⟨k1, w1⟩ := h3 x k hx hk (by omega)
        obtain ⟨k2, w2⟩ := h3 k y hk hy (by omega)
        have w := w1.cat w2
        rw [e1, e2, ← q] at w
        exact ⟨_, w⟩
    · rw [if_neg c] at hf ⊢
      exact h3 i j hi hj hf
  · unfold cU
    by_cases c : i = x ∧ j = y
    · rw [if_pos c, c.1, c.2]; exact v2
    · rw [if_neg c]
      exact h4 i j hi hj (by omega)
theorem Qv.fin {la : Nat → Nat → Nat} {m n k p : Nat} {D0 D : Nat → Nat → Nat} (g : Gv la m n p k D0) (hl : Hl la p n) (hk : k < n) (h : Qv la m n k D0 D n 0) : Gv la m n p (k + 1) D := by
  obtain ⟨g1, g2, g3, g4, g5⟩ := g
  obtain ⟨h1, h2, h3, h4⟩ := h
  refine ⟨fun x hx => ?_, fun x y hx hy => ?_, h3, fun z y l hj => ?_, fun x y z hx hy hz => ?_⟩
  · have := (h1 x x hx hx).1
    have := g1 x hx
    omega
  · have := (h1 x y hx hy).1
    have := g2 x y hx hy
    omega
  · obtain ⟨hz, hy, -, -⟩ := hj.lt hl
    have := (h1 z y hz hy).1
    have := g4 z y l hj
    omega
  · have hz' : z < n := by omega
    have c1 := h4 x y hx hy (Or.inl hx)
    have c2 := (h1 x y hx hy).1
    obtain ⟨-, d1⟩ := h1 x z hx hz'
    obtain ⟨-, d2⟩ := h1 z y hz' hy
    by_cases e : z = k
    · subst e
      rw [(h2 x hx).1, (h2 y hy).2]
      exact c1
    · have t1 := g5 x y z hx hy (by omega)
      have t2 := g5 k y z hk hy (by omega)
      have t3 := g5 x k z hx hk (by omega)
      rcases d1 with d1 | d1 <;> rcases d2 with d2 | d2 <;> omega
/-- the lanes, one after the other -/
def Gl (la : Nat → Nat → Nat) (m n i : Nat) (D : Nat → Nat → Nat) : Prop := Gv la m n i 0 D ∧ ∀ x y, x < n → y < n → D x y = D y x
theorem Gl.step {la : Nat → Nat → Nat} {m n i : Nat} {D : Nat → Nat → Nat} (h : Gl la m n i D) (hl : Hl la m n) (hne : ∀ i, i < m → la i 0 ≠ la i 1) (hi : i < m) :
    Gl la m n (i + 1) (cU (cU D (la i 0) (la i 1) (if D (la i 0) (la i 1) < la i 2 then D (la i 0) (la i 1) else la i 2)) (la i 1) (la i 0) (if D (la i 0) (la i 1) < la i 2 then D (la i 0) (la i 1) else la i 2)) := by
  obtain ⟨⟨g1, g2, g3, g4, g5⟩, gs⟩ := h
  obtain ⟨ha, hb, l1, l6⟩ := hl i hi
  have hn := hne i hi
  have hsym := gs _ _ ha hb
  obtain ⟨v, hv⟩ : ∃ v, v = (if D (la i 0) (la i 1) < la i 2 then D (la i 0) (la i 1) else la i 2) := ⟨_, rfl⟩
  rw [← hv]
  have v1 : v ≤ la i 2 ∧ v ≤ D (la i 0) (la i 1) ∧ (v = D (la i 0) (la i 1) ∨ v = la i 2) := by
    rw [hv]
    split <;> omega
  have hj : jn la m (la i 0) (la i 1) (la i 2) := ⟨i, hi, rfl, Or.inl ⟨rfl, rfl⟩⟩
  have step : ∀ u w, jn la m u w (la i 2) → Wk la m 1 u w (0 + la i 2) := fun u w q => ⟨u, la i 2, 0, q, rfl, rfl, rfl⟩
  have out : ∀ x y, ¬ (x = la i 0 ∧ y = la i 1) → ¬ (x = la i 1 ∧ y = la i 0) → cU (cU D (la i 0) (la i 1) v) (la i 1) (la i 0) v x y = D x y := fun x y q1 q2 => by
    unfold cU; rw [if_neg q2, if_neg q1]
  have in1 : cU (cU D (la i 0) (la i 1) v) (la i 1) (la i 0) v (la i 0) (la i 1) = v := by
    unfold cU
    rw [if_neg (by omega), if_pos ⟨rfl, rfl⟩]
  have in2 : cU (cU D (la i 0) (la i 1) v) (la i 1) (la i 0) v (la i 1) (la i 0) = v := by
    unfold cU
    rw [if_pos ⟨rfl, rfl⟩]
  have le : ∀ x y, x < n → y < n → cU (cU D (la i 0) (la i 1) v) (la i 1) (la i 0) v x y ≤ D x y := fun x y hx hy => by
    by_cases q1 : x = la i 0 ∧ y = la i 1
    · rw [q1.1, q1.2, in1]; omega
    · by_cases q2 : x = la i 1 ∧ y = la i 0
      · rw [q2.1, q2.2, in2]; omega
      · rw [out x y q1 q2]; omega
  refine ⟨⟨fun x hx => ?_, fun x y hx hy => ?_, fun x y hx hy hf => ?_, fun z y l hjn => ?_, fun x y z _ _ hz => by omega⟩, fun x y hx hy => ?_⟩
  · rw [out x x (by omega) (by omega)]; exact g1 x hx
  · have := le x y hx hy
    have := g2 x y hx hy
    omega
  · by_cases q1 : x = la i 0 ∧ y = la i 1
    · rw [q1.1, q1.2, in1] at hf ⊢
      rcases v1.2.2 with q | q
      · rw [q]; exact g3 _ _ ha hb (by omega)
      · rw [q]; exact ⟨1, by have := step _ _ hj; rw [Nat.zero_add] at this; exact this⟩
    · by_cases q2 : x = la i 1 ∧ y = la i 0
      · rw [q2.1, q2.2, in2] at hf ⊢
        rcases v1.2.2 with q | q
        · rw [q, hsym]; exact g3 _ _ hb ha (by omega)
        · rw [q]; exact ⟨1, by have := step _ _ hj.sym; rw [Nat.zero_add] at this; exact this⟩
      · rw [out x y q1 q2] at hf ⊢
        exact g3 x y hx hy hf
  · obtain ⟨j, j1, j2, j3⟩ := hjn
    by_cases e : j = i
    · subst e
      rcases j3 with ⟨e1, e2⟩ | ⟨e1, e2⟩
      · rw [← e1, ← e2, in1]; omega
      · rw [← e1, ← e2, in2]; omega
    · have hold : jn la i z y l := ⟨j, by omega, j2, j3⟩
      have hm : jn la m z y l := ⟨j, by omega, j2, j3⟩
      obtain ⟨hz, hy, -, -⟩ := hm.lt hl
      have := le z y hz hy
      have := g4 z y l hold
      omega
  · by_cases q1 : x = la i 0 ∧ y = la i 1
    · rw [q1.1, q1.2, in1, in2]
    · by_cases q2 : x = la i 1 ∧ y = la i 0
      · rw [q2.1, q2.2, in2, in1]
      · rw [out x y q1 q2, out y x (by omega) (by omega)]
        exact gs x y hx hy
theorem Gl.init {la : Nat → Nat → Nat} {m n : Nat} {D : Nat → Nat → Nat} (h : ∀ x y, x < n → y < n → D x y = if x = y then 0 else 9999) : Gl la m n 0 D := by
  refine ⟨⟨fun x hx => by rw [h x x hx hx, if_pos rfl], fun x y hx hy => ?_, fun x y hx hy hf => ?_, fun z y l hj => ?_, fun x y z _ _ hz => by omega⟩, fun x y hx hy => ?_⟩
  · rw [h x y hx hy]; split <;> omega
  · rw [h x y hx hy] at hf ⊢
    by_cases e : x = y
    · rw [if_pos e]; exact ⟨0, e, rfl⟩
    · rw [if_neg e] at hf; omega
  · obtain ⟨j, j1, -⟩ := hj
    omega
  · rw [h x y hx hy, h y x hy hx]
    by_cases e : x = y
    · rw [if_pos e, if_pos e.symm]
    · rw [if_neg e, if_neg fun q => e q.symm]
end
section
/-! PURE: the model's reckoning, in the heap -/
def RkI (M : Nat) (g : g_H) (n m : Nat) (la : Nat → Nat → Nat) : Prop := ML M g ∧ gI g M 1 = nI n ∧ gI g M 3 = nI m ∧ n ≤ 14 ∧ m ≤ 24 ∧ ∀ i, i < m → ∀ k, k < 3 → gI g (M + 2) (5 * i + k) = nI (la i k)
def Fk (M : Nat) (g h : g_H) : Prop := gS h = gS g ∧ gR h = gR g ∧ gJ h = gJ g ∧ gZ h = gZ g ∧ ∀ a, a ≠ M + 3 → gI h a = gI g a
theorem Fk.rf {M : Nat} {g : g_H} : Fk M g g := ⟨rfl, rfl, rfl, rfl, fun _ _ => rfl⟩
theorem Fk.tr {M : Nat} {g h k : g_H} (x : Fk M g h) (y : Fk M h k) : Fk M g k := ⟨y.1.trans x.1, y.2.1.trans x.2.1, y.2.2.1.trans x.2.2.1, y.2.2.2.1.trans x.2.2.2.1, fun a ha => (y.2.2.2.2 a ha).trans (x.2.2.2.2 a ha)⟩
theorem Fk.put {M k : Nat} {g : g_H} {v : Int32} : Fk M g (gPI g (M + 3) k v) := ⟨rfl, rfl, rfl, rfl, fun b hb => gU_o hb⟩
theorem RkI.fk {M n m : Nat} {la : Nat → Nat → Nat} {g h : g_H} (r : RkI M g n m la) (f : Fk M g h) : RkI M h n m la := by
  obtain ⟨r1, r2, r3, r4, r5, r6⟩ := r
  obtain ⟨f1, f2, f3, f4, f5⟩ := f
  refine ⟨by unfold ML; rw [f1, f2]; exact r1, ?_, ?_, r4, r5, fun i hi k hk => ?_⟩
  · rw [f5 _ (by omega)]; exact r2
  · rw [f5 _ (by omega)]; exact r3
  · rw [f5 _ (by omega)]; exact r6 i hi k hk
theorem r_ro {M n m i k : Nat} {la : Nat → Nat → Nat} {g : g_H} {x y : Int32} (r : RkI M g n m la) (hi : i < m) (hk : k < 3) (hx : x = nI i) (hy : y = nI k) : f7_ro g M x y = some (nI (la i k), g) := by
  obtain ⟨⟨l1, ⟨l2, l3, l4, l5, l6, l7, l8, l9⟩, k1, k2, k3, k4, k5, k6, k7, k8⟩, r2, r3, r4, r5, r6⟩ := r
  subst hx; subst hy
  have c1 : Int32.toNatClampNeg (nI (5 * i + k)) = 5 * i + k := cl_nI (by omega)
  unfold f7_ro
  rw [if_pos l1, l3, ob_some, k2, if_pos rfl, ix5, if_pos (ixOk (by omega) (by omega)), c1, r6 i hi k hk]
def WM (M : Nat) (g : g_H) (n : Nat) (D : Nat → Nat → Nat) : Prop := ∀ x y, x < n → y < n → gI g (M + 3) (14 * x + y) = nI (D x y)
theorem WM.put {M n x y v : Nat} {g : g_H} {D : Nat → Nat → Nat} (w : WM M g n D) (hn : n ≤ 14) (hy : y < n) : WM M (gPI g (M + 3) (14 * x + y) (nI v)) n (cU D x y v) := by
  intro i j hi hj
  rw [gI_PI, if_pos rfl]
  unfold cU
  by_cases c : i = x ∧ j = y
  · rw [if_pos (by omega), if_pos c]
  · rw [if_neg c, if_neg (by omega)]
    exact w i j hi hj
def WP (M : Nat) (g : g_H) (n x y : Nat) : Prop := ∀ i j, i < n → j < n → (i < x ∨ (i = x ∧ j < y)) → gI g (M + 3) (14 * i + j) = nI (if i = j then 0 else 9999)
theorem r_init1 {M n m x : Nat} {la : Nat → Nat → Nat} (hx : x < n) (K2) :
    ∀ k y fuel : Nat, ∀ g : g_H, y + k = n → k < fuel → RkI M g n m la → WP M g n x y → ∃ g', f7_reckon_12 K2 fuel g M (nI x) (nI y) = K2 g' M (nI x + 1) ∧ Fk M g g' ∧ WP M g' n (x + 1) 0 := by
  intro k
  induction k with
  | zero =>
    intro y fuel g hk hf r w
    obtain ⟨fu, rfl⟩ : ∃ fu, fuel = fu + 1 := ⟨fuel - 1, by omega⟩
    have : y = n := by omega
    subst this
    refine ⟨g, ?_, Fk.rf, fun i j hi hj h => w i j hi hj (by omega)⟩
    show f7_reckon_12b K2 _ g M (nI x) (nI y) = _
    unfold f7_reckon_12b
    rw [if_pos r.1.1, r.2.1, if_pos (Int32.le_refl _)]
  | succ k ih =>
    intro y fuel g hk hf r w
    obtain ⟨fu, rfl⟩ : ∃ fu, fuel = fu + 1 := ⟨fuel - 1, by omega⟩
    have h14 := r.2.2.2.1
    have c1 : Int32.toNatClampNeg (nI (14 * x + y)) = 14 * x + y := cl_nI (by omega)
    have w' : WP M (gPI g (M + 3) (14 * x + y) (nI (if x = y then 0 else 9999))) n x (y + 1) := by
      intro i j hi hj h
      rw [gI_PI, if_pos rfl]
      by_cases c : i = x ∧ j = y
      · rw [if_pos (by omega), c.1, c.2]
      · rw [if_neg (by omega)]
        exact w i j hi hj (by omega)
    obtain ⟨g', e1, e2, e3⟩ := ih (y + 1) fu _ (by omega) (by omega) (r.fk Fk.put) w'
    refine ⟨g', ?_, Fk.put.tr e2, e3⟩
    show f7_reckon_12b K2 (f7_reckon_12 K2 fu) g M (nI x) (nI y) = _
    unfold f7_reckon_12b f7_reckon_42
    rw [if_pos r.1.1, r.2.1, if_neg (nI_ge (by omega) (by omega)), r.1.2.1.2.2.1, ob_some, r.1.2.2.2.2.1, if_pos rfl, ix14, if_pos (ixOk (by omega) (by omega)), c1, nI_1]
    by_cases c : x = y
    · rw [if_pos ((nI_eq (by omega) (by omega)).mpr c)]
      rw [if_pos c] at e1
      exact e1
    · have hix : ¬ (nI (14 * x + y) < 0 ∨ 196 ≤ 14 * x + y) := fun k => k.elim (nI_pos (by omega)) (fun q => by omega)
      rw [if_neg fun q => c ((nI_eq (by omega) (by omega)).mp q), if_pos hix]
      rw [if_neg c] at e1
      exact e1
theorem r_init {M n m : Nat} {la : Nat → Nat → Nat} :
    ∀ k x fuel : Nat, ∀ g : g_H, x + k = n → k < fuel → RkI M g n m la → WP M g n x 0 → ∃ g', f7_reckon_2 fuel g M (nI x) = f7_reckon_57 300 g' M 0 ∧ Fk M g g' ∧ WP M g' n n 0 := by
  intro k
  induction k with
  | zero =>
    intro x fuel g hk hf r w
    obtain ⟨fu, rfl⟩ : ∃ fu, fuel = fu + 1 := ⟨fuel - 1, by omega⟩
    have : x = n := by omega
    subst this
    refine ⟨g, ?_, Fk.rf, w⟩
    show f7_reckon_2b _ g M (nI x) = _
    unfold f7_reckon_2b
    rw [if_pos r.1.1, r.2.1, if_pos (Int32.le_refl _)]
  | succ k ih =>
    intro x fuel g hk hf r w
    obtain ⟨fu, rfl⟩ : ∃ fu, fuel = fu + 1 := ⟨fuel - 1, by omega⟩
    have h14 := r.2.2.2.1
    obtain ⟨g1, e1, e2, e3⟩ := r_init1 (show x < n by omega) (f7_reckon_2 fu) n 0 300 g (by omega) (by omega) r w
    obtain ⟨g2, d1, d2, d3⟩ := ih (x + 1) fu g1 (by omega) (by omega) (r.fk e2) e3
    refine ⟨g2, ?_, e2.tr d2, d3⟩
    show f7_reckon_2b (f7_reckon_2 fu) g M (nI x) = _
    unfold f7_reckon_2b
    rw [if_pos r.1.1, r.2.1, if_neg (nI_ge (by omega) (by omega)), show (0 : Int32) = nI 0 from rfl, e1, nI_1]
    exact d1
theorem r_lanes {M n m : Nat} {la : Nat → Nat → Nat} (hl : Hl la m n) (hne : ∀ i, i < m → la i 0 ≠ la i 1) :
    ∀ k i fuel : Nat, ∀ (g : g_H) (D : Nat → Nat → Nat), i + k = m → k < fuel → RkI M g n m la → WM M g n D → Gl la m n i D → ∃ g' D', f7_reckon_57 fuel g M (nI i) = f7_reckon_148 300 g' M 0 ∧ Fk M g g' ∧ WM M g' n D' ∧ Gl la m n m D' := by
  intro k
  induction k with
  | zero =>
    intro i fuel g D hk hf r w h
    obtain ⟨fu, rfl⟩ : ∃ fu, fuel = fu + 1 := ⟨fuel - 1, by omega⟩
    have : i = m := by omega
    subst this
    refine ⟨g, D, ?_, Fk.rf, w, h⟩
    show f7_reckon_57b _ g M (nI i) = _
    unfold f7_reckon_57b
    rw [if_pos r.1.1, r.2.2.1, if_pos (Int32.le_refl _)]
  | succ k ih =>
    intro i fuel g D hk hf r w h
    obtain ⟨fu, rfl⟩ : ∃ fu, fuel = fu + 1 := ⟨fuel - 1, by omega⟩
    have h14 := r.2.2.2.1
    have h24 := r.2.2.2.2.1
    have hi : i < m := by omega
    obtain ⟨ha, hb, -, h6⟩ := hl i hi
    have c1 : Int32.toNatClampNeg (nI (14 * la i 0 + la i 1)) = 14 * la i 0 + la i 1 := cl_nI (by omega)
    have c2 : Int32.toNatClampNeg (nI (14 * la i 1 + la i 0)) = 14 * la i 1 + la i 0 := cl_nI (by omega)
    have hD := h.1.2.1 _ _ ha hb
    have hv : (if nI (D (la i 0) (la i 1)) < nI (la i 2) then nI (D (la i 0) (la i 1)) else nI (la i 2)) = nI (if D (la i 0) (la i 1) < la i 2 then D (la i 0) (la i 1) else la i 2) := by
      by_cases c : D (la i 0) (la i 1) < la i 2
      · rw [if_pos ((nI_ltI (by omega) (by omega)).mpr c), if_pos c]
      · rw [if_neg fun q => c ((nI_ltI (by omega) (by omega)).mp q), if_neg c]
    have w1 := w.put (x := la i 0) (y := la i 1) (v := if D (la i 0) (la i 1) < la i 2 then D (la i 0) (la i 1) else la i 2) h14 hb
    have w2 := w1.put (x := la i 1) (y := la i 0) (v := if D (la i 0) (la i 1) < la i 2 then D (la i 0) (la i 1) else la i 2) h14 ha
    have r1 := r.fk (h := gPI g (M + 3) (14 * la i 0 + la i 1) (nI (if D (la i 0) (la i 1) < la i 2 then D (la i 0) (la i 1) else la i 2))) Fk.put
    obtain ⟨g', D', e1, e2, e3, e4⟩ := ih (i + 1) fu _ _ (by omega) (by omega) (r1.fk Fk.put) w2 (h.step hl hne hi)
    refine ⟨g', D', ?_, (Fk.put.tr Fk.put).tr e2, e3, e4⟩
    rw [← e1]
    have q2 := r_ro (k := 2) (y := (2 : Int32)) r hi (by omega) rfl rfl
    have q0 := r_ro (k := 0) (y := (0 : Int32)) r hi (by omega) rfl rfl
    have q1 := r_ro (k := 1) (y := (1 : Int32)) r hi (by omega) rfl rfl
    have p0 := r_ro (k := 0) (y := (0 : Int32)) r1 hi (by omega) rfl rfl
    have p1 := r_ro (k := 1) (y := (1 : Int32)) r1 hi (by omega) rfl rfl
    show f7_reckon_57b (f7_reckon_57 fu) g M (nI i) = _
    unfold f7_reckon_57b gLt
    rw [if_pos r.1.1, r.2.2.1, if_neg (nI_ge (by omega) (by omega)), q2, gB2_some, if_pos r.1.1, r.1.2.1.2.2.1, ob_some, q0, gB2_some, if_pos r.1.1, q1, gB2_some, r.1.2.2.2.2.1, if_pos rfl, ix14, if_pos (ixOk (by omega) (by omega)), if_pos r.1.1, r.1.2.1.2.2.1, ob_some, q0, gB2_some, if_pos r.1.1, q1, gB2_some]
    dsimp only
    rw [c1, w _ _ ha hb, hv]
    rw [r.1.2.2.2.2.1, if_pos rfl, ix14, if_pos (ixOk (by omega) (by omega)), if_pos r.1.1, c1, r1.1.2.1.2.2.1, ob_some, p1, gB2_some, if_pos r1.1.1, p0, gB2_some, r1.1.2.2.2.2.1, if_pos rfl, ix14, if_pos (ixOk (by omega) (by omega)), c2, nI_1]
end
section
/-! PURE: the model's reckoning, all pairs -/
theorem r_fwRow {M n m k0 x : Nat} {la : Nat → Nat → Nat} {D0 : Nat → Nat → Nat} (G : Gv la m n m k0 D0) (hk0 : k0 < n) (hx : x < n) (K148) (K158) :
    ∀ k y fuel : Nat, ∀ (g : g_H) (D : Nat → Nat → Nat), y + k = n → k < fuel → RkI M g n m la → WM M g n D → Qv la m n k0 D0 D x y → ∃ g' D', f7_reckon_168 K148 K158 fuel g M (nI k0) (nI x) (nI y) = K158 g' M (nI k0) (nI x + 1) ∧ Fk M g g' ∧ WM M g' n D' ∧ Qv la m n k0 D0 D' (x + 1) 0 := by
  intro k
  induction k with
  | zero =>
    intro y fuel g D hk hf r w h
    obtain ⟨fu, rfl⟩ : ∃ fu, fuel = fu + 1 := ⟨fuel - 1, by omega⟩
    have : y = n := by omega
    subst this
    refine ⟨g, D, ?_, Fk.rf, w, h.row⟩
    show f7_reckon_168b K148 K158 _ g M (nI k0) (nI x) (nI y) = _
    unfold f7_reckon_168b
    rw [if_pos r.1.1, r.2.1, if_pos (Int32.le_refl _)]
  | succ k ih =>
    intro y fuel g D hk hf r w h
    obtain ⟨fu, rfl⟩ : ∃ fu, fuel = fu + 1 := ⟨fuel - 1, by omega⟩
    have h14 := r.2.2.2.1
    have hy : y < n := by omega
    have c1 : Int32.toNatClampNeg (nI (14 * x + y)) = 14 * x + y := cl_nI (by omega)
    have c2 : Int32.toNatClampNeg (nI (14 * x + k0)) = 14 * x + k0 := cl_nI (by omega)
    have c3 : Int32.toNatClampNeg (nI (14 * k0 + y)) = 14 * k0 + y := cl_nI (by omega)
    have le : ∀ i j, i < n → j < n → D i j ≤ 9999 := fun i j hi hj => by
      have := (h.1 i j hi hj).1
      have := G.2.1 i j hi hj
      omega
    have q1 := le x k0 hx hk0
    have q2 := le k0 y hk0 hy
    have q3 := le x y hx hy
    have hv : (if nI (D x k0) + nI (D k0 y) < nI (D x y) then nI (D x k0) + nI (D k0 y) else nI (D x y)) = nI (fm D k0 x y) := by
      unfold fm
      rw [nI_add]
      by_cases c : D x k0 + D k0 y < D x y
      · rw [if_pos ((nI_ltI (by omega) (by omega)).mpr c), if_pos c]
      · rw [if_neg fun q => c ((nI_ltI (by omega) (by omega)).mp q), if_neg c]
    obtain ⟨g', D', e1, e2, e3, e4⟩ := ih (y + 1) fu _ _ (by omega) (by omega) (r.fk Fk.put) (w.put (x := x) (y := y) (v := fm D k0 x y) h14 hy) (h.step G hk0 hx hy)
    refine ⟨g', D', ?_, Fk.put.tr e2, e3, e4⟩
    rw [← e1]
    show f7_reckon_168b K148 K158 (f7_reckon_168 K148 K158 fu) g M (nI k0) (nI x) (nI y) = _
    unfold f7_reckon_168b gLt
    have ok : ∀ j, j < 196 → (nI j < 0 ∨ 196 ≤ j) = False := fun j hj => eq_false fun k => k.elim (nI_pos (by omega)) (fun q => by omega)
    simp only [r.1.1, if_true, r.2.1, if_neg (nI_ge (a := y) (b := n) hy (by omega)), r.1.2.1.2.2.1, ob_some, r.1.2.2.2.2.1, ix14, c1, c2, c3, ok (14 * x + y) (by omega), ok (14 * x + k0) (by omega), ok (14 * k0 + y) (by omega), not_false_eq_true, w _ _ hx hk0, w _ _ hk0 hy, w _ _ hx hy, hv, nI_1]
theorem r_fwAll {M n m k0 : Nat} {la : Nat → Nat → Nat} {D0 : Nat → Nat → Nat} (hl : Hl la m n) (G : Gv la m n m k0 D0) (hk0 : k0 < n) (K148) :
    ∀ k x fuel : Nat, ∀ (g : g_H) (D : Nat → Nat → Nat), x + k = n → k < fuel → RkI M g n m la → WM M g n D → Qv la m n k0 D0 D x 0 → ∃ g' D', f7_reckon_158 K148 fuel g M (nI k0) (nI x) = K148 g' M (nI k0 + 1) ∧ Fk M g g' ∧ WM M g' n D' ∧ Gv la m n m (k0 + 1) D' := by
  intro k
  induction k with
  | zero =>
    intro x fuel g D hk hf r w h
    obtain ⟨fu, rfl⟩ : ∃ fu, fuel = fu + 1 := ⟨fuel - 1, by omega⟩
    have : x = n := by omega
    subst this
    refine ⟨g, D, ?_, Fk.rf, w, h.fin G hl hk0⟩
    show f7_reckon_158b K148 _ g M (nI k0) (nI x) = _
    unfold f7_reckon_158b
    rw [if_pos r.1.1, r.2.1, if_pos (Int32.le_refl _)]
  | succ k ih =>
    intro x fuel g D hk hf r w h
    obtain ⟨fu, rfl⟩ : ∃ fu, fuel = fu + 1 := ⟨fuel - 1, by omega⟩
    have h14 := r.2.2.2.1
    obtain ⟨g1, D1, e1, e2, e3, e4⟩ := r_fwRow G hk0 (show x < n by omega) K148 (f7_reckon_158 K148 fu) n 0 300 g D (by omega) (by omega) r w h
    obtain ⟨g2, D2, d1, d2, d3, d4⟩ := ih (x + 1) fu g1 D1 (by omega) (by omega) (r.fk e2) e3 e4
    refine ⟨g2, D2, ?_, e2.tr d2, d3, d4⟩
    show f7_reckon_158b K148 (f7_reckon_158 K148 fu) g M (nI k0) (nI x) = _
    unfold f7_reckon_158b
    rw [if_pos r.1.1, r.2.1, if_neg (nI_ge (by omega) (by omega)), show (0 : Int32) = nI 0 from rfl, e1, nI_1]
    exact d1
theorem r_fw {M n m : Nat} {la : Nat → Nat → Nat} (hl : Hl la m n) :
    ∀ k k0 fuel : Nat, ∀ (g : g_H) (D : Nat → Nat → Nat), k0 + k = n → k < fuel → RkI M g n m la → WM M g n D → Gv la m n m k0 D → ∃ g' D', f7_reckon_148 fuel g M (nI k0) = some g' ∧ Fk M g g' ∧ WM M g' n D' ∧ Gv la m n m n D' := by
  intro k
  induction k with
  | zero =>
    intro k0 fuel g D hk hf r w h
    obtain ⟨fu, rfl⟩ : ∃ fu, fuel = fu + 1 := ⟨fuel - 1, by omega⟩
    have : k0 = n := by omega
    subst this
    refine ⟨g, D, ?_, Fk.rf, w, h⟩
    show f7_reckon_148b _ g M (nI k0) = _
    unfold f7_reckon_148b
    rw [if_pos r.1.1, r.2.1, if_pos (Int32.le_refl _)]
  | succ k ih =>
    intro k0 fuel g D hk hf r w h
    obtain ⟨fu, rfl⟩ : ∃ fu, fuel = fu + 1 := ⟨fuel - 1, by omega⟩
    have h14 := r.2.2.2.1
    obtain ⟨g1, D1, e1, e2, e3, e4⟩ := r_fwAll hl h (show k0 < n by omega) (f7_reckon_148 fu) n 0 300 g D (by omega) (by omega) r w (Qv.init h)
    obtain ⟨g2, D2, d1, d2, d3, d4⟩ := ih (k0 + 1) fu g1 D1 (by omega) (by omega) (r.fk e2) e3 e4
    refine ⟨g2, D2, ?_, e2.tr d2, d3, d4⟩
    show f7_reckon_148b (f7_reckon_148 fu) g M (nI k0) = _
    unfold f7_reckon_148b
    rw [if_pos r.1.1, r.2.1, if_neg (nI_ge (by omega) (by omega)), show (0 : Int32) = nI 0 from rfl, e1, nI_1]
    exact d1
theorem r_reckon {M n m : Nat} {la : Nat → Nat → Nat} {g : g_H} (hl : Hl la m n) (hne : ∀ i, i < m → la i 0 ≠ la i 1) (r : RkI M g n m la) : ∃ g' D, f7_reckon g M = some g' ∧ Fk M g g' ∧ WM M g' n D ∧ Val la m n 9999 D := by
  have h14 := r.2.2.2.1
  have h24 := r.2.2.2.2.1
  obtain ⟨g1, e1, e2, e3⟩ := r_init (la := la) n 0 300 g (by omega) (by omega) r (fun i j _ _ h => by omega)
  have w1 : WM M g1 n (fun x y => if x = y then 0 else 9999) := fun x y hx hy => e3 x y hx hy (Or.inl hx)
  obtain ⟨g2, D2, d1, d2, d3, d4⟩ := r_lanes hl hne m 0 300 g1 _ (by omega) (by omega) (r.fk e2) w1 (Gl.init fun x y _ _ => rfl)
  obtain ⟨g3, D3, c1, c2, c3, c4⟩ := r_fw hl n 0 300 g2 D2 (by omega) (by omega) ((r.fk e2).fk d2) d3 d4.1
  refine ⟨g3, D3, ?_, (e2.tr d2).tr c2, c3, c4.val hl⟩
  show f7_reckon_2 300 g M (nI 0) = _
  rw [e1, show (0 : Int32) = nI 0 from rfl, d1]
  exact c1
end
