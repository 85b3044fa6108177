/-! PURE: the model's reckoning, in the heap -/
def RkI (M : Nat) (g : g_H) (n m : Nat) (la : Nat → Nat → Nat) : Prop := ML M g ∧ gI g M 1 = nI n ∧ gI g M 3 = nI m ∧ n ≤ 14 ∧ m ≤ 24 ∧ ∀ i, i < m → ∀ k, k < 3 → gI g (M + 2) (5 * i + k) = nI (la i k)
def Fk (M : Nat) (g h : g_H) : Prop := gS h = gS g ∧ gR h = gR g ∧ gJ h = gJ g ∧ gZ h = gZ g ∧ ∀ a, a ≠ M + 3 → gI h a = gI g a
theorem Fk.rf {M : Nat} {g : g_H} : Fk M g g := ⟨rfl, rfl, rfl, rfl, fun _ _ => rfl⟩
theorem Fk.tr {M : Nat} {g h k : g_H} (x : Fk M g h) (y : Fk M h k) : Fk M g k := ⟨y.1.trans x.1, y.2.1.trans x.2.1, y.2.2.1.trans x.2.2.1, y.2.2.2.1.trans x.2.2.2.1, fun a ha => (y.2.2.2.2 a ha).trans (x.2.2.2.2 a ha)⟩
theorem Fk.put {M k : Nat} {g : g_H} {v : Int32} : Fk M g (gPI g (M + 3) k v) := ⟨rfl, rfl, rfl, rfl, fun b hb => gU_o hb⟩
theorem RkI.fk {M n m : Nat} {la : Nat → Nat → Nat} {g h : g_H} (r : RkI M g n m la) (f : Fk M g h) : RkI M h n m la := by
  obtain ⟨r1, r2, r3, r4, r5, r6⟩ := r
  obtain ⟨f1, f2, f3, f4, f5⟩ := f
  refine ⟨by unfold ML; rw [f1, f2]; exact r1, ?_, ?_, r4, r5, fun i hi k hk => ?_⟩
  · rw [f5 _ (by omega)]; exact r2
  · rw [f5 _ (by omega)]; exact r3
  · rw [f5 _ (by omega)]; exact r6 i hi k hk
theorem r_ro {M n m i k : Nat} {la : Nat → Nat → Nat} {g : g_H} {x y : Int32} (r : RkI M g n m la) (hi : i < m) (hk : k < 3) (hx : x = nI i) (hy : y = nI k) : f7_ro g M x y = some (nI (la i k), g) := by
  obtain ⟨⟨l1, ⟨l2, l3, l4, l5, l6, l7, l8, l9⟩, k1, k2, k3, k4, k5, k6, k7, k8⟩, r2, r3, r4, r5, r6⟩ := r
  subst hx; subst hy
  have c1 : Int32.toNatClampNeg (nI (5 * i + k)) = 5 * i + k := cl_nI (by omega)
  unfold f7_ro
  rw [if_pos l1, l3, ob_some, k2, if_pos rfl, ix5, if_pos (ixOk (by omega) (by omega)), c1, r6 i hi k hk]
def WM (M : Nat) (g : g_H) (n : Nat) (D : Nat → Nat → Nat) : Prop := ∀ x y, x < n → y < n → gI g (M + 3) (14 * x + y) = nI (D x y)
theorem WM.put {M n x y v : Nat} {g : g_H} {D : Nat → Nat → Nat} (w : WM M g n D) (hn : n ≤ 14) (hy : y < n) : WM M (gPI g (M + 3) (14 * x + y) (nI v)) n (cU D x y v) := by
  intro i j hi hj
  rw [gI_PI, if_pos rfl]
  unfold cU
  by_cases c : i = x ∧ j = y
  · rw [if_pos (by omega), if_pos c]
  · rw [if_neg c, if_neg (by omega)]
    exact w i j hi hj
def WP (M : Nat) (g : g_H) (n x y : Nat) : Prop := ∀ i j, i < n → j < n → (i < x ∨ (i = x ∧ j < y)) → gI g (M + 3) (14 * i + j) = nI (if i = j then 0 else 9999)
theorem r_init1 {M n m x : Nat} {la : Nat → Nat → Nat} (hx : x < n) (K2) :
    ∀ k y fuel : Nat, ∀ g : g_H, y + k = n → k < fuel → RkI M g n m la → WP M g n x y → ∃ g', f7_reckon_12 K2 fuel g M (nI x) (nI y) = K2 g' M (nI x + 1) ∧ Fk M g g' ∧ WP M g' n (x + 1) 0 := by
  intro k
  induction k with
  | zero =>
    intro y fuel g hk hf r w
    obtain ⟨fu, rfl⟩ : ∃ fu, fuel = fu + 1 := ⟨fuel - 1, by omega⟩
    have : y = n := by omega
    subst this
    refine ⟨g, ?_, Fk.rf, fun i j hi hj h => w i j hi hj (by omega)⟩
    show f7_reckon_12b K2 _ g M (nI x) (nI y) = _
    unfold f7_reckon_12b
    rw [if_pos r.1.1, r.2.1, if_pos (Int32.le_refl _)]
  | succ k ih =>
    intro y fuel g hk hf r w
    obtain ⟨fu, rfl⟩ : ∃ fu, fuel = fu + 1 := ⟨fuel - 1, by omega⟩
    have h14 := r.2.2.2.1
    have c1 : Int32.toNatClampNeg (nI (14 * x + y)) = 14 * x + y := cl_nI (by omega)
    have w' : WP M (gPI g (M + 3) (14 * x + y) (nI (if x = y then 0 else 9999))) n x (y + 1) := by
      intro i j hi hj h
      rw [gI_PI, if_pos rfl]
      by_cases c : i = x ∧ j = y
      · rw [if_pos (by omega), c.1, c.2]
      · rw [if_neg (by omega)]
        exact w i j hi hj (by omega)
    obtain ⟨g', e1, e2, e3⟩ := ih (y + 1) fu _ (by omega) (by omega) (r.fk Fk.put) w'
    refine ⟨g', ?_, Fk.put.tr e2, e3⟩
    show f7_reckon_12b K2 (f7_reckon_12 K2 fu) g M (nI x) (nI y) = _
    unfold f7_reckon_12b f7_reckon_42
    rw [if_pos r.1.1, r.2.1, if_neg (nI_ge (by omega) (by omega)), r.1.2.1.2.2.1, ob_some, r.1.2.2.2.2.1, if_pos rfl, ix14, if_pos (ixOk (by omega) (by omega)), c1, nI_1]
    by_cases c : x = y
    · rw [if_pos ((nI_eq (by omega) (by omega)).mpr c)]
      rw [if_pos c] at e1
      exact e1
    · have hix : ¬ (nI (14 * x + y) < 0 ∨ 196 ≤ 14 * x + y) := fun k => k.elim (nI_pos (by omega)) (fun q => by omega)
      rw [if_neg fun q => c ((nI_eq (by omega) (by omega)).mp q), if_pos hix]
      rw [if_neg c] at e1
      exact e1
theorem r_init {M n m : Nat} {la : Nat → Nat → Nat} :
    ∀ k x fuel : Nat, ∀ g : g_H, x + k = n → k < fuel → RkI M g n m la → WP M g n x 0 → ∃ g', f7_reckon_2 fuel g M (nI x) = f7_reckon_57 300 g' M 0 ∧ Fk M g g' ∧ WP M g' n n 0 := by
  intro k
  induction k with
  | zero =>
    intro x fuel g hk hf r w
    obtain ⟨fu, rfl⟩ : ∃ fu, fuel = fu + 1 := ⟨fuel - 1, by omega⟩
    have : x = n := by omega
    subst this
    refine ⟨g, ?_, Fk.rf, w⟩
    show f7_reckon_2b _ g M (nI x) = _
    unfold f7_reckon_2b
    rw [if_pos r.1.1, r.2.1, if_pos (Int32.le_refl _)]
  | succ k ih =>
    intro x fuel g hk hf r w
    obtain ⟨fu, rfl⟩ : ∃ fu, fuel = fu + 1 := ⟨fuel - 1, by omega⟩
    have h14 := r.2.2.2.1
    obtain ⟨g1, e1, e2, e3⟩ := r_init1 (show x < n by omega) (f7_reckon_2 fu) n 0 300 g (by omega) (by omega) r w
    obtain ⟨g2, d1, d2, d3⟩ := ih (x + 1) fu g1 (by omega) (by omega) (r.fk e2) e3
    refine ⟨g2, ?_, e2.tr d2, d3⟩
    show f7_reckon_2b (f7_reckon_2 fu) g M (nI x) = _
    unfold f7_reckon_2b
    rw [if_pos r.1.1, r.2.1, if_neg (nI_ge (by omega) (by omega)), show (0 : Int32) = nI 0 from rfl, e1, nI_1]
    exact d1
theorem r_lanes {M n m : Nat} {la : Nat → Nat → Nat} (hl : Hl la m n) (hne : ∀ i, i < m → la i 0 ≠ la i 1) :
    ∀ k i fuel : Nat, ∀ (g : g_H) (D : Nat → Nat → Nat), i + k = m → k < fuel → RkI M g n m la → WM M g n D → Gl la m n i D → ∃ g' D', f7_reckon_57 fuel g M (nI i) = f7_reckon_148 300 g' M 0 ∧ Fk M g g' ∧ WM M g' n D' ∧ Gl la m n m D' := by
  intro k
  induction k with
  | zero =>
    intro i fuel g D hk hf r w h
    obtain ⟨fu, rfl⟩ : ∃ fu, fuel = fu + 1 := ⟨fuel - 1, by omega⟩
    have : i = m := by omega
    subst this
    refine ⟨g, D, ?_, Fk.rf, w, h⟩
    show f7_reckon_57b _ g M (nI i) = _
    unfold f7_reckon_57b
    rw [if_pos r.1.1, r.2.2.1, if_pos (Int32.le_refl _)]
  | succ k ih =>
    intro i fuel g D hk hf r w h
    obtain ⟨fu, rfl⟩ : ∃ fu, fuel = fu + 1 := ⟨fuel - 1, by omega⟩
    have h14 := r.2.2.2.1
    have h24 := r.2.2.2.2.1
    have hi : i < m := by omega
    obtain ⟨ha, hb, -, h6⟩ := hl i hi
    have c1 : Int32.toNatClampNeg (nI (14 * la i 0 + la i 1)) = 14 * la i 0 + la i 1 := cl_nI (by omega)
    have c2 : Int32.toNatClampNeg (nI (14 * la i 1 + la i 0)) = 14 * la i 1 + la i 0 := cl_nI (by omega)
    have hD := h.1.2.1 _ _ ha hb
    have hv : (if nI (D (la i 0) (la i 1)) < nI (la i 2) then nI (D (la i 0) (la i 1)) else nI (la i 2)) = nI (if D (la i 0) (la i 1) < la i 2 then D (la i 0) (la i 1) else la i 2) := by
      by_cases c : D (la i 0) (la i 1) < la i 2
      · rw [if_pos ((nI_ltI (by omega) (by omega)).mpr c), if_pos c]
      · rw [if_neg fun q => c ((nI_ltI (by omega) (by omega)).mp q), if_neg c]
    have w1 := w.put (x := la i 0) (y := la i 1) (v := if D (la i 0) (la i 1) < la i 2 then D (la i 0) (la i 1) else la i 2) h14 hb
    have w2 := w1.put (x := la i 1) (y := la i 0) (v := if D (la i 0) (la i 1) < la i 2 then D (la i 0) (la i 1) else la i 2) h14 ha
    have r1 := r.fk (h := gPI g (M + 3) (14 * la i 0 + la i 1) (nI (if D (la i 0) (la i 1) < la i 2 then D (la i 0) (la i 1) else la i 2))) Fk.put
    obtain ⟨g', D', e1, e2, e3, e4⟩ := ih (i + 1) fu _ _ (by omega) (by omega) (r1.fk Fk.put) w2 (h.step hl hne hi)
    refine ⟨g', D', ?_, (Fk.put.tr Fk.put).tr e2, e3, e4⟩
    rw [← e1]
    have q2 := r_ro (k := 2) (y := (2 : Int32)) r hi (by omega) rfl rfl
    have q0 := r_ro (k := 0) (y := (0 : Int32)) r hi (by omega) rfl rfl
    have q1 := r_ro (k := 1) (y := (1 : Int32)) r hi (by omega) rfl rfl
    have p0 := r_ro (k := 0) (y := (0 : Int32)) r1 hi (by omega) rfl rfl
    have p1 := r_ro (k := 1) (y := (1 : Int32)) r1 hi (by omega) rfl rfl
    show f7_reckon_57b (f7_reckon_57 fu) g M (nI i) = _
    unfold f7_reckon_57b gLt
    rw [if_pos r.1.1, r.2.2.1, if_neg (nI_ge (by omega) (by omega)), q2, gB2_some, if_pos r.1.1, r.1.2.1.2.2.1, ob_some, q0, gB2_some, if_pos r.1.1, q1, gB2_some, r.1.2.2.2.2.1, if_pos rfl, ix14, if_pos (ixOk (by omega) (by omega)), if_pos r.1.1, r.1.2.1.2.2.1, ob_some, q0, gB2_some, if_pos r.1.1, q1, gB2_some]
    dsimp only
    rw [c1, w _ _ ha hb, hv]
    rw [r.1.2.2.2.2.1, if_pos rfl, ix14, if_pos (ixOk (by omega) (by omega)), if_pos r.1.1, c1, r1.1.2.1.2.2.1, ob_some, p1, gB2_some, if_pos r1.1.1, p0, gB2_some, r1.1.2.2.2.2.1, if_pos rfl, ix14, if_pos (ixOk (by omega) (by omega)), c2, nI_1]
