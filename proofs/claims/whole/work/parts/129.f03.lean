/-! PURE: a lane joined, in the heap -/
def WC (a0 : Nat) (g : g_H) (C : Nat → Nat → Nat) : Prop := ∀ x y, x < 14 → y < 14 → gI g (a0 + 29 + x) y = nI (C x y)
def Fw (a0 : Nat) (g h : g_H) : Prop := gS h = gS g ∧ gR h = gR g ∧ gJ h = gJ g ∧ gZ h = gZ g ∧ ∀ a, ¬ (a0 + 29 ≤ a ∧ a ≤ a0 + 42) → gI h a = gI g a
theorem Fw.rf {a0 : Nat} {g : g_H} : Fw a0 g g := ⟨rfl, rfl, rfl, rfl, fun _ _ => rfl⟩
theorem Fw.tr {a0 : Nat} {g h k : g_H} (x : Fw a0 g h) (y : Fw a0 h k) : Fw a0 g k := ⟨y.1.trans x.1, y.2.1.trans x.2.1, y.2.2.1.trans x.2.2.1, y.2.2.2.1.trans x.2.2.2.1, fun a ha => (y.2.2.2.2 a ha).trans (x.2.2.2.2 a ha)⟩
theorem min_nI {u v w : Nat} (hu : u < 2 ^ 31) (hv : v < 2 ^ 31) (hw : w < 2 ^ 31) : (if (if nI v < nI u then nI v else nI u) < nI w then (if nI v < nI u then nI v else nI u) else nI w) = nI (if (if v < u then v else u) < w then (if v < u then v else u) else w) := by
  by_cases c : v < u
  · rw [if_pos ((nI_ltI hv hu).mpr c), if_pos c]
    by_cases d : v < w
    · rw [if_pos ((nI_ltI hv hw).mpr d), if_pos d]
    · rw [if_neg (fun k => d ((nI_ltI hv hw).mp k)), if_neg d]
  · rw [if_neg (fun k => c ((nI_ltI hv hu).mp k)), if_neg c]
    by_cases d : u < w
    · rw [if_pos ((nI_ltI hu hw).mpr d), if_pos d]
    · rw [if_neg (fun k => d ((nI_ltI hu hw).mp k)), if_neg d]
theorem p_jStep {a0 n a b l x y : Nat} {g : g_H} {C : Nat → Nat → Nat} (t : TL a0 g) (hn : gI g (a0 + 1) 0 = nI n) (h14 : n ≤ 14) (wc : WC a0 g C) (hC : ∀ i j, i < n → j < n → C i j ≤ 1000) (ha : a < n) (hb : b < n) (hl : l ≤ 6) (hx : x < n) (hy : y < n) (K18) (K30) :
    f5_join_30b K18 K30 g (a0 + 1) (nI a) (nI b) (nI l) (nI x) (nI y) = K30 (gPI g (a0 + 29 + x) y (nI (jm C a b l x y))) (a0 + 1) (nI a) (nI b) (nI l) (nI x) (nI y + 1) := by
  obtain ⟨t1, t2, t3, t4, t5, t6, t7, t8, t9⟩ := t
  have ok : ∀ i, i < n → (nI i < 0 ∨ 14 ≤ i) = False := fun i hi => eq_false fun k => k.elim (nI_pos (by omega)) (fun q => by omega)
  have cl' : ∀ i, i < n → Int32.toNatClampNeg (nI i) = i := fun i hi => cl_nI (by omega)
  have row : ∀ i, i < n → gR g (a0 + 28) i = some (a0 + 29 + i) := fun i hi => (t9 i (by omega)).1
  have rowS : ∀ i, i < n → gS g (a0 + 29 + i) = (11, 14) := fun i hi => (t9 i (by omega)).2
  have cell : ∀ i j, i < n → j < n → gI g (a0 + 29 + i) j = nI (C i j) := fun i j hi hj => wc i j (by omega) (by omega)
  unfold f5_join_30b gLt
  simp only [t1, if_true, hn, if_neg (nI_ge (a := y) (b := n) hy (by omega)), t4, ob_some, t7, ok x hx, ok y hy, ok a ha, ok b hb, not_false_eq_true, cl' x hx, cl' y hy, cl' a ha, cl' b hb, row x hx, row a ha, row b hb, rowS x hx, rowS a ha, rowS b hb, cell x a hx ha, cell x b hx hb, cell b y hb hy, cell a y ha hy, cell x y hx hy, nI_add]
  have q1 := hC x a hx ha
  have q2 := hC x b hx hb
  have q3 := hC b y hb hy
  have q4 := hC a y ha hy
  have q5 := hC x y hx hy
  rw [min_nI (by omega) (by omega) (by omega)]
  rfl
theorem WC.put {a0 x y v : Nat} {g : g_H} {C : Nat → Nat → Nat} (wc : WC a0 g C) : WC a0 (gPI g (a0 + 29 + x) y (nI v)) (cU C x y v) := by
  intro i j hi hj
  rw [gI_PI]
  unfold cU
  by_cases c : i = x ∧ j = y
  · rw [if_pos (by omega), if_pos c.2, if_pos c]
  · rw [if_neg c]
    by_cases d : i = x
    · rw [if_pos (by omega), if_neg (by omega)]; exact wc i j hi hj
    · rw [if_neg (by omega)]; exact wc i j hi hj
theorem TL.fw {a0 : Nat} {g h : g_H} (t : TL a0 g) (f : Fw a0 g h) : TL a0 h := by
  unfold TL
  rw [f.1, f.2.1]
  exact t
theorem Jv.le1000 {la : Nat → Nat → Nat} {m n x y : Nat} {C0 C : Nat → Nat → Nat} (v : Val la m n 1000 C0) (h : Jv la m n C0 C x y) : ∀ i j, i < n → j < n → C i j ≤ 1000 := fun i j hi hj => by
  have := h.1 i j
  have := v.2.2.1 i j hi hj
  omega
/-- a row -/
theorem p_jRow {a0 n m x : Nat} {la : Nat → Nat → Nat} {C0 : Nat → Nat → Nat} (v : Val la m n 1000 C0) (hl : Hl la (m + 1) n) (h14 : n ≤ 14) (hx : x < n) (K18) :
    ∀ k y fuel : Nat, ∀ (g : g_H) (C : Nat → Nat → Nat), y + k = n → k < fuel → TL a0 g → gI g (a0 + 1) 0 = nI n → WC a0 g C → Jv la m n C0 C x y →
    ∃ g' C', f5_join_30 K18 fuel g (a0 + 1) (nI (la m 0)) (nI (la m 1)) (nI (la m 2)) (nI x) (nI y) = K18 g' (a0 + 1) (nI (la m 0)) (nI (la m 1)) (nI (la m 2)) (nI x + 1) ∧ Fw a0 g g' ∧ WC a0 g' C' ∧ Jv la m n C0 C' (x + 1) 0 := by
  intro k
  obtain ⟨ha, hb, -, h6⟩ := hl m (by omega)
  induction k with
  | zero =>
    intro y fuel g C hk hf t hn wc j
    obtain ⟨fu, rfl⟩ : ∃ fu, fuel = fu + 1 := ⟨fuel - 1, by omega⟩
    have : y = n := by omega
    subst this
    refine ⟨g, C, ?_, Fw.rf, wc, j.row⟩
    show f5_join_30b K18 _ g (a0 + 1) _ _ _ (nI x) (nI y) = _
    unfold f5_join_30b
    rw [if_pos t.1, hn, if_pos (Int32.le_refl _)]
  | succ k ih =>
    intro y fuel g C hk hf t hn wc j
    obtain ⟨fu, rfl⟩ : ∃ fu, fuel = fu + 1 := ⟨fuel - 1, by omega⟩
    have hst := p_jStep (a := la m 0) (b := la m 1) (l := la m 2) t hn h14 wc (j.le1000 v) ha hb h6 hx (show y < n by omega) K18 (f5_join_30 K18 fu)
    have f1 : Fw a0 g (gPI g (a0 + 29 + x) y (nI (jm C (la m 0) (la m 1) (la m 2) x y))) := ⟨rfl, rfl, rfl, rfl, fun b hb => gU_o (by omega)⟩
    obtain ⟨g', C', e1, e2, e3, e4⟩ := ih (y + 1) fu _ _ (by omega) (by omega) (t.fw f1) (by rw [f1.2.2.2.2 _ (by omega)]; exact hn) wc.put (j.step hl hx (by omega))
    refine ⟨g', C', ?_, f1.tr e2, e3, e4⟩
    rw [← nI_1] at e1
    exact hst.trans e1
theorem p_jLoop {a0 n m : Nat} {la : Nat → Nat → Nat} {C0 : Nat → Nat → Nat} (v : Val la m n 1000 C0) (hl : Hl la (m + 1) n) (h14 : n ≤ 14) :
    ∀ k x fuel : Nat, ∀ (g : g_H) (C : Nat → Nat → Nat), x + k = n → k < fuel → TL a0 g → gI g (a0 + 1) 0 = nI n → WC a0 g C → Jv la m n C0 C x 0 →
    ∃ g' C', f5_join_18 fuel g (a0 + 1) (nI (la m 0)) (nI (la m 1)) (nI (la m 2)) (nI x) = some (gI g (a0 + 1) 1, gPI g' (a0 + 1) 1 (gI g (a0 + 1) 1 + 1)) ∧ Fw a0 g g' ∧ WC a0 g' C' ∧ Jv la m n C0 C' n 0 := by
  intro k
  induction k with
  | zero =>
    intro x fuel g C hk hf t hn wc j
    obtain ⟨fu, rfl⟩ : ∃ fu, fuel = fu + 1 := ⟨fuel - 1, by omega⟩
    have : x = n := by omega
    subst this
    refine ⟨g, C, ?_, Fw.rf, wc, j⟩
    show f5_join_18b _ g (a0 + 1) _ _ _ (nI x) = _
    unfold f5_join_18b
    rw [if_pos t.1, hn, if_pos (Int32.le_refl _)]
  | succ k ih =>
    intro x fuel g C hk hf t hn wc j
    obtain ⟨fu, rfl⟩ : ∃ fu, fuel = fu + 1 := ⟨fuel - 1, by omega⟩
    obtain ⟨g1, C1, e1, e2, e3, e4⟩ := p_jRow v hl h14 (show x < n by omega) (f5_join_18 fu) n 0 300 g C (by omega) (by omega) t hn wc j
    obtain ⟨g2, C2, d1, d2, d3, d4⟩ := ih (x + 1) fu g1 C1 (by omega) (by omega) (t.fw e2) (by rw [e2.2.2.2.2 _ (by omega)]; exact hn) e3 e4
    refine ⟨g2, C2, ?_, e2.tr d2, d3, d4⟩
    show f5_join_18b (f5_join_18 fu) g (a0 + 1) _ _ _ (nI x) = _
    unfold f5_join_18b
    rw [if_pos t.1, hn, if_neg (nI_ge (by omega) (by omega)), show (0 : Int32) = nI 0 from rfl, e1, nI_1, d1, e2.2.2.2.2 _ (by omega)]
