/-! PURE: a lane joined, as numbers -/
theorem jn.up {la : Nat → Nat → Nat} {m z y l : Nat} (h : jn la m z y l) : jn la (m + 1) z y l := by
  obtain ⟨i, h1, h2⟩ := h
  exact ⟨i, by omega, h2⟩
theorem Wk.up {la : Nat → Nat → Nat} {m k x y d : Nat} (h : Wk la m k x y d) : Wk la (m + 1) k x y d := by
  induction k generalizing y d with
  | zero => exact h
  | succ k ih =>
    obtain ⟨z, l, e, h1, h2, h3⟩ := h
    exact ⟨z, l, e, h1.up, h2, ih h3⟩
def cU (C : Nat → Nat → Nat) (x y v : Nat) : Nat → Nat → Nat := fun i j => if i = x ∧ j = y then v else C i j
def jm (C : Nat → Nat → Nat) (a b l x y : Nat) : Nat := if (if C x b + l + C a y < C x a + l + C b y then C x b + l + C a y else C x a + l + C b y) < C x y then (if C x b + l + C a y < C x a + l + C b y then C x b + l + C a y else C x a + l + C b y) else C x y
theorem jm_le {C : Nat → Nat → Nat} {a b l x y : Nat} : jm C a b l x y ≤ C x y ∧ jm C a b l x y ≤ C x a + l + C b y ∧ jm C a b l x y ≤ C x b + l + C a y ∧ (jm C a b l x y = C x y ∨ jm C a b l x y = C x a + l + C b y ∨ jm C a b l x y = C x b + l + C a y) := by
  unfold jm
  by_cases h1 : C x b + l + C a y < C x a + l + C b y
  · rw [if_pos h1]
    by_cases h2 : C x b + l + C a y < C x y
    · rw [if_pos h2]; omega
    · rw [if_neg h2]; omega
  · rw [if_neg h1]
    by_cases h2 : C x a + l + C b y < C x y
    · rw [if_pos h2]; omega
    · rw [if_neg h2]; omega
/-- underway: (x, y) is the next -/
def Jv (la : Nat → Nat → Nat) (m n : Nat) (C0 C : Nat → Nat → Nat) (x y : Nat) : Prop :=
  (∀ i j, C i j ≤ C0 i j) ∧ (∀ i, i < n → C i i = 0) ∧ (∀ i j, i < n → j < n → C i j < 1000 → ∃ k, Wk la (m + 1) k i j (C i j)) ∧
  (∀ i j, i < n → j < n → (i < x ∨ (i = x ∧ j < y)) → C i j ≤ C0 i (la m 0) + la m 2 + C0 (la m 1) j ∧ C i j ≤ C0 i (la m 1) + la m 2 + C0 (la m 0) j) ∧ ∀ i j, ¬ (i < n ∧ j < n) → C i j = C0 i j
theorem Jv.init {la : Nat → Nat → Nat} {m n : Nat} {C0 : Nat → Nat → Nat} (v : Val la m n 1000 C0) : Jv la m n C0 C0 0 0 :=
  ⟨fun _ _ => Nat.le_refl _, v.1, fun i j hi hj h => by
    obtain ⟨k, hk⟩ := v.2.2.2 i j hi hj h
    exact ⟨k, hk.up⟩, fun i j _ _ h => by omega, fun _ _ _ => rfl⟩
theorem Jv.row {la : Nat → Nat → Nat} {m n x : Nat} {C0 C : Nat → Nat → Nat} (h : Jv la m n C0 C x n) : Jv la m n C0 C (x + 1) 0 :=
  ⟨h.1, h.2.1, h.2.2.1, fun i j hi hj hh => h.2.2.2.1 i j hi hj (by omega), h.2.2.2.2⟩
theorem Jv.step {la : Nat → Nat → Nat} {m n x y : Nat} {C0 C : Nat → Nat → Nat} (hl : Hl la (m + 1) n) (hx : x < n) (hy : y < n) (h : Jv la m n C0 C x y) : Jv la m n C0 (cU C x y (jm C (la m 0) (la m 1) (la m 2) x y)) x (y + 1) := by
  obtain ⟨h1, h2, h3, h4, h5⟩ := h
  obtain ⟨ha, hb, -, -⟩ := hl m (by omega)
  obtain ⟨j1, j2, j3, j4⟩ := jm_le (C := C) (a := la m 0) (b := la m 1) (l := la m 2) (x := x) (y := y)
  have hj : jn la (m + 1) (la m 0) (la m 1) (la m 2) := ⟨m, by omega, rfl, Or.inl ⟨rfl, rfl⟩⟩
  have step : ∀ u v, jn la (m + 1) u v (la m 2) → Wk la (m + 1) 1 u v (0 + la m 2) := fun u v q => ⟨u, la m 2, 0, q, rfl, rfl, rfl⟩
  have e1 := h1 x y
  have e2 := h1 x (la m 0)
  have e3 := h1 (la m 1) y
  have e4 := h1 x (la m 1)
  have e5 := h1 (la m 0) y
  refine ⟨fun i j => ?_, fun i hi => ?_, fun i j hi hj' hf => ?_, fun i j hi hj' hh => ?_, fun i j hij => ?_⟩
  · unfold cU
    by_cases c : i = x ∧ j = y
    · rw [if_pos c, c.1, c.2]; omega
    · rw [if_neg c]; exact h1 i j
  · unfold cU
    by_cases c : i = x ∧ i = y
    · rw [if_pos c]
      have q := h2 i hi
      rw [← c.1, ← c.2] at j1 ⊢
      omega
    · rw [if_neg c]; exact h2 i hi
  · unfold cU at hf ⊢
    by_cases c : i = x ∧ j = y
    · rw [if_pos c] at hf ⊢
      rw [c.1, c.2]
      rcases j4 with q | q | q
      · rw [q]; exact h3 x y hx hy (by omega)
      · obtain ⟨k1, w1⟩ := h3 x (la m 0) hx ha (by omega)
        obtain ⟨k2, w2⟩ := h3 (la m 1) y hb hy (by omega)
        have w := (w1.cat (step _ _ hj)).cat w2
        rw [Nat.zero_add, ← q] at w
        exact ⟨_, w⟩
      · obtain ⟨k1, w1⟩ := h3 x (la m 1) hx hb (by omega)
        obtain ⟨k2, w2⟩ := h3 (la m 0) y ha hy (by omega)
        have w := (w1.cat (step _ _ hj.sym)).cat w2
        rw [Nat.zero_add, ← q] at w
        exact ⟨_, w⟩
    · rw [if_neg c] at hf ⊢
      exact h3 i j hi hj' hf
  · unfold cU
    by_cases c : i = x ∧ j = y
    · rw [if_pos c, c.1, c.2]; omega
    · rw [if_neg c]
      exact h4 i j hi hj' (by omega)
  · unfold cU
    rw [if_neg (by omega)]
    exact h5 i j hij
theorem Jv.low {la : Nat → Nat → Nat} {m n : Nat} {C0 : Nat → Nat → Nat} (v : Val la m n 1000 C0) (hl : Hl la (m + 1) n) {k x y d : Nat} (hx : x < n) (h : Wk la (m + 1) k x y d) : y < n ∧ (C0 x y ≤ d ∨ C0 x (la m 0) + la m 2 + C0 (la m 1) y ≤ d ∨ C0 x (la m 1) + la m 2 + C0 (la m 0) y ≤ d) := by
  obtain ⟨ha, hb, -, -⟩ := hl m (by omega)
  have za := v.1 _ ha
  have zb := v.1 _ hb
  induction k generalizing y d with
  | zero =>
    obtain ⟨rfl, rfl⟩ := h
    exact ⟨hx, Or.inl (by rw [v.1 x hx]; omega)⟩
  | succ k ih =>
    obtain ⟨z, l, e, h1, h2, h3⟩ := h
    obtain ⟨q1, q2⟩ := ih h3
    refine ⟨(h1.lt hl).2.1, ?_⟩
    obtain ⟨i, i1, i2, i3⟩ := h1
    by_cases c : i = m
    · subst c
      rcases i3 with ⟨e1, e2⟩ | ⟨e1, e2⟩
      · subst e1; subst e2
        rcases q2 with q | q | q
        · exact Or.inr (Or.inl (by omega))
        · exact Or.inr (Or.inl (by omega))
        · exact Or.inl (by omega)
      · subst e1; subst e2
        rcases q2 with q | q | q
        · exact Or.inr (Or.inr (by omega))
        · exact Or.inl (by omega)
        · exact Or.inr (Or.inr (by omega))
    · have hj : jn la m z y l := ⟨i, by omega, i2, i3⟩
      have r1 := v.2.1 x z y l hx hj
      have r2 := v.2.1 (la m 1) z y l hb hj
      have r3 := v.2.1 (la m 0) z y l ha hj
      rcases q2 with q | q | q
      · exact Or.inl (by omega)
      · exact Or.inr (Or.inl (by omega))
      · exact Or.inr (Or.inr (by omega))
theorem Jv.fin {la : Nat → Nat → Nat} {m n : Nat} {C0 C : Nat → Nat → Nat} (v : Val la m n 1000 C0) (hl : Hl la (m + 1) n) (h : Jv la m n C0 C n 0) : Val la (m + 1) n 1000 C := by
  obtain ⟨h1, h2, h3, h4, h5⟩ := h
  have hle : ∀ x y, x < n → y < n → C x y ≤ 1000 := fun x y hx hy => by
    have := v.2.2.1 x y hx hy
    have := h1 x y
    omega
  refine ⟨h2, fun x z y l hx hj => ?_, hle, h3⟩
  obtain ⟨hz, hy, -, -⟩ := hj.lt hl
  by_cases c : C x z < 1000
  · obtain ⟨k, hk⟩ := h3 x z hx hz c
    have hw : Wk la (m + 1) (k + 1) x y (C x z + l) := ⟨z, l, C x z, hj, rfl, hk⟩
    have := (Jv.low v hl hx hw).2
    have p := h4 x y hx hy (Or.inl hx)
    have p1 := h1 x y
    omega
  · have := hle x y hx hy
    omega
