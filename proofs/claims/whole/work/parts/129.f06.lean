/-! PURE: the model's reckoning, all pairs -/
theorem r_fwRow {M n m k0 x : Nat} {la : Nat → Nat → Nat} {D0 : Nat → Nat → Nat} (G : Gv la m n m k0 D0) (hk0 : k0 < n) (hx : x < n) (K148) (K158) :
    ∀ k y fuel : Nat, ∀ (g : g_H) (D : Nat → Nat → Nat), y + k = n → k < fuel → RkI M g n m la → WM M g n D → Qv la m n k0 D0 D x y → ∃ g' D', f7_reckon_168 K148 K158 fuel g M (nI k0) (nI x) (nI y) = K158 g' M (nI k0) (nI x + 1) ∧ Fk M g g' ∧ WM M g' n D' ∧ Qv la m n k0 D0 D' (x + 1) 0 := by
  intro k
  induction k with
  | zero =>
    intro y fuel g D hk hf r w h
    obtain ⟨fu, rfl⟩ : ∃ fu, fuel = fu + 1 := ⟨fuel - 1, by omega⟩
    have : y = n := by omega
    subst this
    refine ⟨g, D, ?_, Fk.rf, w, h.row⟩
    show f7_reckon_168b K148 K158 _ g M (nI k0) (nI x) (nI y) = _
    unfold f7_reckon_168b
    rw [if_pos r.1.1, r.2.1, if_pos (Int32.le_refl _)]
  | succ k ih =>
    intro y fuel g D hk hf r w h
    obtain ⟨fu, rfl⟩ : ∃ fu, fuel = fu + 1 := ⟨fuel - 1, by omega⟩
    have h14 := r.2.2.2.1
    have hy : y < n := by omega
    have c1 : Int32.toNatClampNeg (nI (14 * x + y)) = 14 * x + y := cl_nI (by omega)
    have c2 : Int32.toNatClampNeg (nI (14 * x + k0)) = 14 * x + k0 := cl_nI (by omega)
    have c3 : Int32.toNatClampNeg (nI (14 * k0 + y)) = 14 * k0 + y := cl_nI (by omega)
    have le : ∀ i j, i < n → j < n → D i j ≤ 9999 := fun i j hi hj => by
      have := (h.1 i j hi hj).1
      have := G.2.1 i j hi hj
      omega
    have q1 := le x k0 hx hk0
    have q2 := le k0 y hk0 hy
    have q3 := le x y hx hy
    have hv : (if nI (D x k0) + nI (D k0 y) < nI (D x y) then nI (D x k0) + nI (D k0 y) else nI (D x y)) = nI (fm D k0 x y) := by
      unfold fm
      rw [nI_add]
      by_cases c : D x k0 + D k0 y < D x y
      · rw [if_pos ((nI_ltI (by omega) (by omega)).mpr c), if_pos c]
      · rw [if_neg fun q => c ((nI_ltI (by omega) (by omega)).mp q), if_neg c]
    obtain ⟨g', D', e1, e2, e3, e4⟩ := ih (y + 1) fu _ _ (by omega) (by omega) (r.fk Fk.put) (w.put (x := x) (y := y) (v := fm D k0 x y) h14 hy) (h.step G hk0 hx hy)
    refine ⟨g', D', ?_, Fk.put.tr e2, e3, e4⟩
    rw [← e1]
    show f7_reckon_168b K148 K158 (f7_reckon_168 K148 K158 fu) g M (nI k0) (nI x) (nI y) = _
    unfold f7_reckon_168b gLt
    have ok : ∀ j, j < 196 → (nI j < 0 ∨ 196 ≤ j) = False := fun j hj => eq_false fun k => k.elim (nI_pos (by omega)) (fun q => by omega)
    simp only [r.1.1, if_true, r.2.1, if_neg (nI_ge (a := y) (b := n) hy (by omega)), r.1.2.1.2.2.1, ob_some, r.1.2.2.2.2.1, ix14, c1, c2, c3, ok (14 * x + y) (by omega), ok (14 * x + k0) (by omega), ok (14 * k0 + y) (by omega), not_false_eq_true, w _ _ hx hk0, w _ _ hk0 hy, w _ _ hx hy, hv, nI_1]
theorem r_fwAll {M n m k0 : Nat} {la : Nat → Nat → Nat} {D0 : Nat → Nat → Nat} (hl : Hl la m n) (G : Gv la m n m k0 D0) (hk0 : k0 < n) (K148) :
    ∀ k x fuel : Nat, ∀ (g : g_H) (D : Nat → Nat → Nat), x + k = n → k < fuel → RkI M g n m la → WM M g n D → Qv la m n k0 D0 D x 0 → ∃ g' D', f7_reckon_158 K148 fuel g M (nI k0) (nI x) = K148 g' M (nI k0 + 1) ∧ Fk M g g' ∧ WM M g' n D' ∧ Gv la m n m (k0 + 1) D' := by
  intro k
  induction k with
  | zero =>
    intro x fuel g D hk hf r w h
    obtain ⟨fu, rfl⟩ : ∃ fu, fuel = fu + 1 := ⟨fuel - 1, by omega⟩
    have : x = n := by omega
    subst this
    refine ⟨g, D, ?_, Fk.rf, w, h.fin G hl hk0⟩
    show f7_reckon_158b K148 _ g M (nI k0) (nI x) = _
    unfold f7_reckon_158b
    rw [if_pos r.1.1, r.2.1, if_pos (Int32.le_refl _)]
  | succ k ih =>
    intro x fuel g D hk hf r w h
    obtain ⟨fu, rfl⟩ : ∃ fu, fuel = fu + 1 := ⟨fuel - 1, by omega⟩
    have h14 := r.2.2.2.1
    obtain ⟨g1, D1, e1, e2, e3, e4⟩ := r_fwRow G hk0 (show x < n by omega) K148 (f7_reckon_158 K148 fu) n 0 300 g D (by omega) (by omega) r w h
    obtain ⟨g2, D2, d1, d2, d3, d4⟩ := ih (x + 1) fu g1 D1 (by omega) (by omega) (r.fk e2) e3 e4
    refine ⟨g2, D2, ?_, e2.tr d2, d3, d4⟩
    show f7_reckon_158b K148 (f7_reckon_158 K148 fu) g M (nI k0) (nI x) = _
    unfold f7_reckon_158b
    rw [if_pos r.1.1, r.2.1, if_neg (nI_ge (by omega) (by omega)), show (0 : Int32) = nI 0 from rfl, e1, nI_1]
    exact d1
theorem r_fw {M n m : Nat} {la : Nat → Nat → Nat} (hl : Hl la m n) :
    ∀ k k0 fuel : Nat, ∀ (g : g_H) (D : Nat → Nat → Nat), k0 + k = n → k < fuel → RkI M g n m la → WM M g n D → Gv la m n m k0 D → ∃ g' D', f7_reckon_148 fuel g M (nI k0) = some g' ∧ Fk M g g' ∧ WM M g' n D' ∧ Gv la m n m n D' := by
  intro k
  induction k with
  | zero =>
    intro k0 fuel g D hk hf r w h
    obtain ⟨fu, rfl⟩ : ∃ fu, fuel = fu + 1 := ⟨fuel - 1, by omega⟩
    have : k0 = n := by omega
    subst this
    refine ⟨g, D, ?_, Fk.rf, w, h⟩
    show f7_reckon_148b _ g M (nI k0) = _
    unfold f7_reckon_148b
    rw [if_pos r.1.1, r.2.1, if_pos (Int32.le_refl _)]
  | succ k ih =>
    intro k0 fuel g D hk hf r w h
    obtain ⟨fu, rfl⟩ : ∃ fu, fuel = fu + 1 := ⟨fuel - 1, by omega⟩
    have h14 := r.2.2.2.1
    obtain ⟨g1, D1, e1, e2, e3, e4⟩ := r_fwAll hl h (show k0 < n by omega) (f7_reckon_148 fu) n 0 300 g D (by omega) (by omega) r w (Qv.init h)
    obtain ⟨g2, D2, d1, d2, d3, d4⟩ := ih (k0 + 1) fu g1 D1 (by omega) (by omega) (r.fk e2) e3 e4
    refine ⟨g2, D2, ?_, e2.tr d2, d3, d4⟩
    show f7_reckon_148b (f7_reckon_148 fu) g M (nI k0) = _
    unfold f7_reckon_148b
    rw [if_pos r.1.1, r.2.1, if_neg (nI_ge (by omega) (by omega)), show (0 : Int32) = nI 0 from rfl, e1, nI_1]
    exact d1
theorem r_reckon {M n m : Nat} {la : Nat → Nat → Nat} {g : g_H} (hl : Hl la m n) (hne : ∀ i, i < m → la i 0 ≠ la i 1) (r : RkI M g n m la) : ∃ g' D, f7_reckon g M = some g' ∧ Fk M g g' ∧ WM M g' n D ∧ Val la m n 9999 D := by
  have h14 := r.2.2.2.1
  have h24 := r.2.2.2.2.1
  obtain ⟨g1, e1, e2, e3⟩ := r_init (la := la) n 0 300 g (by omega) (by omega) r (fun i j _ _ h => by omega)
  have w1 : WM M g1 n (fun x y => if x = y then 0 else 9999) := fun x y hx hy => e3 x y hx hy (Or.inl hx)
  obtain ⟨g2, D2, d1, d2, d3, d4⟩ := r_lanes hl hne m 0 300 g1 _ (by omega) (by omega) (r.fk e2) w1 (Gl.init fun x y _ _ => rfl)
  obtain ⟨g3, D3, c1, c2, c3, c4⟩ := r_fw hl n 0 300 g2 D2 (by omega) (by omega) ((r.fk e2).fk d2) d3 d4.1
  refine ⟨g3, D3, ?_, (e2.tr d2).tr c2, c3, c4.val hl⟩
  show f7_reckon_2 300 g M (nI 0) = _
  rw [e1, show (0 : Int32) = nI 0 from rfl, d1]
  exact c1
