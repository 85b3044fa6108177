/-! PURE: the model's reckoning, as numbers -/
def Gv (la : Nat → Nat → Nat) (m n p k : Nat) (D : Nat → Nat → Nat) : Prop := (∀ x, x < n → D x x = 0) ∧ (∀ x y, x < n → y < n → D x y ≤ 9999) ∧ (∀ x y, x < n → y < n → D x y < 9999 → ∃ j, Wk la m j x y (D x y)) ∧ (∀ z y l, jn la p z y l → D z y ≤ l) ∧ ∀ x y z, x < n → y < n → z < k → D x y ≤ D x z + D z y
theorem Gv.val {la : Nat → Nat → Nat} {m n : Nat} {D : Nat → Nat → Nat} (h : Gv la m n m n D) (hl : Hl la m n) : Val la m n 9999 D := by
  obtain ⟨h1, h2, h3, h4, h5⟩ := h
  refine ⟨h1, fun x z y l hx hj => ?_, h2, h3⟩
  obtain ⟨hz, hy, -, -⟩ := hj.lt hl
  have a := h4 z y l hj
  have b := h5 x y z hx hy hz
  omega
def Qv (la : Nat → Nat → Nat) (m n k : Nat) (D0 D : Nat → Nat → Nat) (x y : Nat) : Prop :=
  (∀ i j, i < n → j < n → D i j ≤ D0 i j ∧ (D i j = D0 i j ∨ D i j = D0 i k + D0 k j)) ∧ (∀ i, i < n → D i k = D0 i k ∧ D k i = D0 k i) ∧ (∀ i j, i < n → j < n → D i j < 9999 → ∃ w, Wk la m w i j (D i j)) ∧
  (∀ i j, i < n → j < n → (i < x ∨ (i = x ∧ j < y)) → D i j ≤ D0 i k + D0 k j)
theorem Qv.init {la : Nat → Nat → Nat} {m n k p : Nat} {D0 : Nat → Nat → Nat} (g : Gv la m n p k D0) : Qv la m n k D0 D0 0 0 :=
  ⟨fun _ _ _ _ => ⟨Nat.le_refl _, Or.inl rfl⟩, fun _ _ => ⟨rfl, rfl⟩, g.2.2.1, fun _ _ _ _ h => by omega⟩
theorem Qv.row {la : Nat → Nat → Nat} {m n k x : Nat} {D0 D : Nat → Nat → Nat} (h : Qv la m n k D0 D x n) : Qv la m n k D0 D (x + 1) 0 :=
  ⟨h.1, h.2.1, h.2.2.1, fun i j hi hj hh => h.2.2.2 i j hi hj (by omega)⟩
def fm (D : Nat → Nat → Nat) (k x y : Nat) : Nat := if D x k + D k y < D x y then D x k + D k y else D x y
theorem Qv.step {la : Nat → Nat → Nat} {m n k p x y : Nat} {D0 D : Nat → Nat → Nat} (g : Gv la m n p k D0) (hk : k < n) (hx : x < n) (hy : y < n) (h : Qv la m n k D0 D x y) : Qv la m n k D0 (cU D x y (fm D k x y)) x (y + 1) := by
  obtain ⟨h1, h2, h3, h4⟩ := h
  have kk := g.1 k hk
  have e1 := (h2 x hx).1
  have e2 := (h2 y hy).2
  obtain ⟨a1, a2⟩ := h1 x y hx hy
  have hv : fm D k x y ≤ D x y ∧ fm D k x y ≤ D0 x k + D0 k y ∧ (fm D k x y = D x y ∨ fm D k x y = D0 x k + D0 k y) := by
    unfold fm
    rw [e1, e2]
    by_cases c : D0 x k + D0 k y < D x y
    · rw [if_pos c]; omega
    · rw [if_neg c]; omega
  obtain ⟨v1, v2, v3⟩ := hv
  refine ⟨fun i j hi hj => ?_, fun i hi => ⟨?_, ?_⟩, fun i j hi hj hf => ?_, fun i j hi hj hh => ?_⟩
  · unfold cU
    by_cases c : i = x ∧ j = y
    · rw [if_pos c, c.1, c.2]
      omega
    · rw [if_neg c]; exact h1 i j hi hj
  · unfold cU
    by_cases c : i = x ∧ k = y
    · rw [if_pos c]
      obtain ⟨c1, c2⟩ := c
      subst c1; subst c2
      have := (h1 i k hi hk).1
      have := (h2 i hi).1
      rcases v3 with q | q <;> omega
    · rw [if_neg c]; exact (h2 i hi).1
  · unfold cU
    by_cases c : k = x ∧ i = y
    · rw [if_pos c]
      obtain ⟨c1, c2⟩ := c
      subst c1; subst c2
      have := (h2 i hi).2
      rcases v3 with q | q <;> omega
    · rw [if_neg c]; exact (h2 i hi).2
  · unfold cU at hf ⊢
    by_cases c : i = x ∧ j = y
    · rw [if_pos c] at hf ⊢
      rw [c.1, c.2]
      rcases v3 with q | q
      · rw [q]; exact h3 x y hx hy (by omega)
      · obtain ⟨k1, w1⟩ := h3 x k hx hk (by omega)
        obtain ⟨k2, w2⟩ := h3 k y hk hy (by omega)
        have w := w1.cat w2
        rw [e1, e2, ← q] at w
        exact ⟨_, w⟩
    · rw [if_neg c] at hf ⊢
      exact h3 i j hi hj hf
  · unfold cU
    by_cases c : i = x ∧ j = y
    · rw [if_pos c, c.1, c.2]; exact v2
    · rw [if_neg c]
      exact h4 i j hi hj (by omega)
theorem Qv.fin {la : Nat → Nat → Nat} {m n k p : Nat} {D0 D : Nat → Nat → Nat} (g : Gv la m n p k D0) (hl : Hl la p n) (hk : k < n) (h : Qv la m n k D0 D n 0) : Gv la m n p (k + 1) D := by
  obtain ⟨g1, g2, g3, g4, g5⟩ := g
  obtain ⟨h1, h2, h3, h4⟩ := h
  refine ⟨fun x hx => ?_, fun x y hx hy => ?_, h3, fun z y l hj => ?_, fun x y z hx hy hz => ?_⟩
  · have := (h1 x x hx hx).1
    have := g1 x hx
    omega
  · have := (h1 x y hx hy).1
    have := g2 x y hx hy
    omega
  · obtain ⟨hz, hy, -, -⟩ := hj.lt hl
    have := (h1 z y hz hy).1
    have := g4 z y l hj
    omega
  · have hz' : z < n := by omega
    have c1 := h4 x y hx hy (Or.inl hx)
    have c2 := (h1 x y hx hy).1
    obtain ⟨-, d1⟩ := h1 x z hx hz'
    obtain ⟨-, d2⟩ := h1 z y hz' hy
    by_cases e : z = k
    · subst e
      rw [(h2 x hx).1, (h2 y hy).2]
      exact c1
    · have t1 := g5 x y z hx hy (by omega)
      have t2 := g5 k y z hk hy (by omega)
      have t3 := g5 x k z hx hk (by omega)
      rcases d1 with d1 | d1 <;> rcases d2 with d2 | d2 <;> omega
/-- the lanes, one after the other -/
def Gl (la : Nat → Nat → Nat) (m n i : Nat) (D : Nat → Nat → Nat) : Prop := Gv la m n i 0 D ∧ ∀ x y, x < n → y < n → D x y = D y x
theorem Gl.step {la : Nat → Nat → Nat} {m n i : Nat} {D : Nat → Nat → Nat} (h : Gl la m n i D) (hl : Hl la m n) (hne : ∀ i, i < m → la i 0 ≠ la i 1) (hi : i < m) :
    Gl la m n (i + 1) (cU (cU D (la i 0) (la i 1) (if D (la i 0) (la i 1) < la i 2 then D (la i 0) (la i 1) else la i 2)) (la i 1) (la i 0) (if D (la i 0) (la i 1) < la i 2 then D (la i 0) (la i 1) else la i 2)) := by
  obtain ⟨⟨g1, g2, g3, g4, g5⟩, gs⟩ := h
  obtain ⟨ha, hb, l1, l6⟩ := hl i hi
  have hn := hne i hi
  have hsym := gs _ _ ha hb
  obtain ⟨v, hv⟩ : ∃ v, v = (if D (la i 0) (la i 1) < la i 2 then D (la i 0) (la i 1) else la i 2) := ⟨_, rfl⟩
  rw [← hv]
  have v1 : v ≤ la i 2 ∧ v ≤ D (la i 0) (la i 1) ∧ (v = D (la i 0) (la i 1) ∨ v = la i 2) := by
    rw [hv]
    split <;> omega
  have hj : jn la m (la i 0) (la i 1) (la i 2) := ⟨i, hi, rfl, Or.inl ⟨rfl, rfl⟩⟩
  have step : ∀ u w, jn la m u w (la i 2) → Wk la m 1 u w (0 + la i 2) := fun u w q => ⟨u, la i 2, 0, q, rfl, rfl, rfl⟩
  have out : ∀ x y, ¬ (x = la i 0 ∧ y = la i 1) → ¬ (x = la i 1 ∧ y = la i 0) → cU (cU D (la i 0) (la i 1) v) (la i 1) (la i 0) v x y = D x y := fun x y q1 q2 => by
    unfold cU; rw [if_neg q2, if_neg q1]
  have in1 : cU (cU D (la i 0) (la i 1) v) (la i 1) (la i 0) v (la i 0) (la i 1) = v := by
    unfold cU
    rw [if_neg (by omega), if_pos ⟨rfl, rfl⟩]
  have in2 : cU (cU D (la i 0) (la i 1) v) (la i 1) (la i 0) v (la i 1) (la i 0) = v := by
    unfold cU
    rw [if_pos ⟨rfl, rfl⟩]
  have le : ∀ x y, x < n → y < n → cU (cU D (la i 0) (la i 1) v) (la i 1) (la i 0) v x y ≤ D x y := fun x y hx hy => by
    by_cases q1 : x = la i 0 ∧ y = la i 1
    · rw [q1.1, q1.2, in1]; omega
    · by_cases q2 : x = la i 1 ∧ y = la i 0
      · rw [q2.1, q2.2, in2]; omega
      · rw [out x y q1 q2]; omega
  refine ⟨⟨fun x hx => ?_, fun x y hx hy => ?_, fun x y hx hy hf => ?_, fun z y l hjn => ?_, fun x y z _ _ hz => by omega⟩, fun x y hx hy => ?_⟩
  · rw [out x x (by omega) (by omega)]; exact g1 x hx
  · have := le x y hx hy
    have := g2 x y hx hy
    omega
  · by_cases q1 : x = la i 0 ∧ y = la i 1
    · rw [q1.1, q1.2, in1] at hf ⊢
      rcases v1.2.2 with q | q
      · rw [q]; exact g3 _ _ ha hb (by omega)
      · rw [q]; exact ⟨1, by have := step _ _ hj; rw [Nat.zero_add] at this; exact this⟩
    · by_cases q2 : x = la i 1 ∧ y = la i 0
      · rw [q2.1, q2.2, in2] at hf ⊢
        rcases v1.2.2 with q | q
        · rw [q, hsym]; exact g3 _ _ hb ha (by omega)
        · rw [q]; exact ⟨1, by have := step _ _ hj.sym; rw [Nat.zero_add] at this; exact this⟩
      · rw [out x y q1 q2] at hf ⊢
        exact g3 x y hx hy hf
  · obtain ⟨j, j1, j2, j3⟩ := hjn
    by_cases e : j = i
    · subst e
      rcases j3 with ⟨e1, e2⟩ | ⟨e1, e2⟩
      · rw [← e1, ← e2, in1]; omega
      · rw [← e1, ← e2, in2]; omega
    · have hold : jn la i z y l := ⟨j, by omega, j2, j3⟩
      have hm : jn la m z y l := ⟨j, by omega, j2, j3⟩
      obtain ⟨hz, hy, -, -⟩ := hm.lt hl
      have := le z y hz hy
      have := g4 z y l hold
      omega
  · by_cases q1 : x = la i 0 ∧ y = la i 1
    · rw [q1.1, q1.2, in1, in2]
    · by_cases q2 : x = la i 1 ∧ y = la i 0
      · rw [q2.1, q2.2, in2, in1]
      · rw [out x y q1 q2, out y x (by omega) (by omega)]
        exact gs x y hx hy
theorem Gl.init {la : Nat → Nat → Nat} {m n : Nat} {D : Nat → Nat → Nat} (h : ∀ x y, x < n → y < n → D x y = if x = y then 0 else 9999) : Gl la m n 0 D := by
  refine ⟨⟨fun x hx => by rw [h x x hx hx, if_pos rfl], fun x y hx hy => ?_, fun x y hx hy hf => ?_, fun z y l hj => ?_, fun x y z _ _ hz => by omega⟩, fun x y hx hy => ?_⟩
  · rw [h x y hx hy]; split <;> omega
  · rw [h x y hx hy] at hf ⊢
    by_cases e : x = y
    · rw [if_pos e]; exact ⟨0, e, rfl⟩
    · rw [if_neg e] at hf; omega
  · obtain ⟨j, j1, -⟩ := hj
    omega
  · rw [h x y hx hy, h y x hy hx]
    by_cases e : x = y
    · rw [if_pos e, if_pos e.symm]
    · rw [if_neg e, if_neg fun q => e q.symm]
