/-! PURE: ways, as numbers -/
def jn (la : Nat → Nat → Nat) (m z y l : Nat) : Prop := ∃ i, i < m ∧ la i 2 = l ∧ ((la i 0 = z ∧ la i 1 = y) ∨ (la i 0 = y ∧ la i 1 = z))
def Wk (la : Nat → Nat → Nat) (m : Nat) : Nat → Nat → Nat → Nat → Prop
  | 0, x, y, d => x = y ∧ d = 0
  | k + 1, x, y, d => ∃ z l e, jn la m z y l ∧ d = e + l ∧ Wk la m k x z e
def Hl (la : Nat → Nat → Nat) (m n : Nat) : Prop := ∀ i, i < m → la i 0 < n ∧ la i 1 < n ∧ 1 ≤ la i 2 ∧ la i 2 ≤ 6
def Val (la : Nat → Nat → Nat) (m n far : Nat) (D : Nat → Nat → Nat) : Prop := (∀ x, x < n → D x x = 0) ∧ (∀ x z y l, x < n → jn la m z y l → D x y ≤ D x z + l) ∧ (∀ x y, x < n → y < n → D x y ≤ far) ∧ ∀ x y, x < n → y < n → D x y < far → ∃ k, Wk la m k x y (D x y)
theorem jn.sym {la : Nat → Nat → Nat} {m z y l : Nat} (h : jn la m z y l) : jn la m y z l := by
  obtain ⟨i, h1, h2, h3⟩ := h
  exact ⟨i, h1, h2, h3.symm⟩
theorem jn.lt {la : Nat → Nat → Nat} {m n z y l : Nat} (h : jn la m z y l) (hl : Hl la m n) : z < n ∧ y < n ∧ 1 ≤ l ∧ l ≤ 6 := by
  obtain ⟨i, h1, h2, h3⟩ := h
  obtain ⟨a, b, c, d⟩ := hl i h1
  rcases h3 with ⟨e, f⟩ | ⟨e, f⟩
  · exact ⟨by omega, by omega, by omega, by omega⟩
  · exact ⟨by omega, by omega, by omega, by omega⟩
theorem Wk.cat {la : Nat → Nat → Nat} {m j k x y z d e : Nat} (h : Wk la m j x y d) (h' : Wk la m k y z e) : Wk la m (j + k) x z (d + e) := by
  induction k generalizing z e with
  | zero =>
    obtain ⟨rfl, rfl⟩ := h'
    exact h
  | succ k ih =>
    obtain ⟨w, l, f, h1, h2, h3⟩ := h'
    exact ⟨w, l, d + f, h1, by omega, ih h3⟩
theorem Val.le {la : Nat → Nat → Nat} {m n far : Nat} {D : Nat → Nat → Nat} (v : Val la m n far D) (hl : Hl la m n) {k x y d : Nat} (hx : x < n) (h : Wk la m k x y d) : y < n ∧ D x y ≤ d := by
  induction k generalizing y d with
  | zero =>
    obtain ⟨rfl, rfl⟩ := h
    exact ⟨hx, by rw [v.1 x hx]; omega⟩
  | succ k ih =>
    obtain ⟨z, l, e, h1, h2, h3⟩ := h
    obtain ⟨q1, q2⟩ := ih h3
    have := v.2.1 x z y l hx h1
    exact ⟨(h1.lt hl).2.1, by omega⟩
def cn (f : Nat → Nat) (v : Nat) : Nat → Nat
  | 0 => 0
  | n + 1 => cn f v n + (if f n < v then 1 else 0)
theorem cn_mono {f : Nat → Nat} {u v n : Nat} (h : u ≤ v) : cn f u n ≤ cn f v n := by
  induction n with
  | zero => exact Nat.le_refl _
  | succ n ih =>
    show cn f u n + _ ≤ cn f v n + _
    by_cases h1 : f n < u
    · rw [if_pos h1, if_pos (by omega)]; omega
    · rw [if_neg h1]
      omega
theorem cn_more {f : Nat → Nat} {u v n z : Nat} (h : u ≤ v) (hz : z < n) (h1 : f z < v) (h2 : ¬ f z < u) : cn f u n + 1 ≤ cn f v n := by
  induction n with
  | zero => omega
  | succ n ih =>
    show cn f u n + _ + 1 ≤ cn f v n + _
    by_cases e : z = n
    · subst e
      rw [if_pos h1, if_neg h2]
      have := cn_mono (f := f) (n := z) h
      omega
    · have := ih (by omega)
      by_cases h3 : f n < u
      · rw [if_pos h3, if_pos (by omega)]; omega
      · rw [if_neg h3]; omega
theorem cn_le {f : Nat → Nat} {v n : Nat} : cn f v n ≤ n := by
  induction n with
  | zero => exact Nat.le_refl _
  | succ n ih =>
    show cn f v n + _ ≤ n + 1
    by_cases h : f n < v
    · rw [if_pos h]; omega
    · rw [if_neg h]; omega
theorem cn_lt {f : Nat → Nat} {v n y : Nat} (hy : y < n) (h : ¬ f y < v) : cn f v n + 1 ≤ n := by
  induction n with
  | zero => omega
  | succ n ih =>
    show cn f v n + _ + 1 ≤ n + 1
    by_cases e : y = n
    · subst e
      rw [if_neg h]
      have := cn_le (f := f) (v := v) (n := y)
      omega
    · have := ih (by omega)
      by_cases h3 : f n < v
      · rw [if_pos h3]; omega
      · rw [if_neg h3]; omega
/-- the last lane of a shortest way -/
theorem Val.last {la : Nat → Nat → Nat} {m n far : Nat} {D : Nat → Nat → Nat} (v : Val la m n far D) (hl : Hl la m n) {x y : Nat} (hx : x < n) (hy : y < n) (hne : x ≠ y) (hf : D x y < far) : ∃ z l, jn la m z y l ∧ z < n ∧ D x z + l ≤ D x y := by
  obtain ⟨k, hk⟩ := v.2.2.2 x y hx hy hf
  cases k with
  | zero => exact absurd hk.1 hne
  | succ k =>
    obtain ⟨z, l, e, h1, h2, h3⟩ := hk
    obtain ⟨q1, q2⟩ := v.le hl hx h3
    exact ⟨z, l, h1, q1, by omega⟩
theorem Val.bound {la : Nat → Nat → Nat} {m n far : Nat} {D : Nat → Nat → Nat} (v : Val la m n far D) (hl : Hl la m n) {x : Nat} (hx : x < n) : ∀ d y, D x y ≤ d → y < n → D x y < far → D x y ≤ 6 * cn (D x) (D x y) n := by
  intro d
  induction d with
  | zero => intro y h1 h2 h3; omega
  | succ d ih =>
    intro y h1 h2 h3
    by_cases e : x = y
    · subst e
      rw [v.1 x hx]; omega
    · obtain ⟨z, l, j1, j2, j3⟩ := v.last hl hx h2 e h3
      obtain ⟨-, -, l1, l6⟩ := j1.lt hl
      have r := v.2.1 x z y l hx j1
      have := ih z (by omega) j2 (by omega)
      have := cn_more (f := D x) (u := D x z) (v := D x y) (n := n) (z := z) (by omega) j2 (by omega) (by omega)
      omega
theorem Val.le78 {la : Nat → Nat → Nat} {m n far : Nat} {D : Nat → Nat → Nat} (v : Val la m n far D) (hl : Hl la m n) (hn : n ≤ 14) {x y : Nat} (hx : x < n) (hy : y < n) (hf : D x y < far) : D x y ≤ 78 := by
  have h1 := v.bound hl hx (D x y) y (Nat.le_refl _) hy hf
  have h2 := cn_lt (f := D x) (v := D x y) (n := n) hy (by omega)
  omega
theorem Val.uni {la : Nat → Nat → Nat} {m n : Nat} {C D : Nat → Nat → Nat} (c : Val la m n 1000 C) (v : Val la m n 9999 D) (hl : Hl la m n) (hn : n ≤ 14) {x y : Nat} (hx : x < n) (hy : y < n) : D x y = if C x y = 1000 then 9999 else C x y := by
  by_cases h : C x y < 1000
  · obtain ⟨k, hk⟩ := c.2.2.2 x y hx hy h
    have h1 := (v.le hl hx hk).2
    obtain ⟨k', hk'⟩ := v.2.2.2 x y hx hy (by omega)
    have h2 := (c.le hl hx hk').2
    rw [if_neg (by omega)]
    omega
  · have h3 := c.2.2.1 x y hx hy
    rw [if_pos (by omega)]
    by_cases h' : D x y < 9999
    · obtain ⟨k', hk'⟩ := v.2.2.2 x y hx hy h'
      have h2 := (c.le hl hx hk').2
      have := v.le78 hl hn hx hy h'
      omega
    · have := v.2.2.1 x y hx hy
      omega
