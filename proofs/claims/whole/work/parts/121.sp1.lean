/-! PURE: reading the pure heap; the class's small methods -/
theorem gS_PI {g : g_H} {a k : Nat} {x : Int32} : gS (gPI g a k x) = gS g := rfl
theorem gR_PI {g : g_H} {a k : Nat} {x : Int32} : gR (gPI g a k x) = gR g := rfl
theorem gJ_PI {g : g_H} {a k : Nat} {x : Int32} : gJ (gPI g a k x) = gJ g := rfl
theorem gZ_PI {g : g_H} {a k : Nat} {x : Int32} : gZ (gPI g a k x) = gZ g := rfl
theorem gI_PI {g : g_H} {a k : Nat} {x : Int32} (b j : Nat) : gI (gPI g a k x) b j = if b = a then (if j = k then x else gI g b j) else gI g b j := rfl
theorem gS_PR {g : g_H} {a k : Nat} {x : Option Nat} : gS (gPR g a k x) = gS g := rfl
theorem gI_PR {g : g_H} {a k : Nat} {x : Option Nat} : gI (gPR g a k x) = gI g := rfl
theorem gJ_PR {g : g_H} {a k : Nat} {x : Option Nat} : gJ (gPR g a k x) = gJ g := rfl
theorem gZ_PR {g : g_H} {a k : Nat} {x : Option Nat} : gZ (gPR g a k x) = gZ g := rfl
theorem gR_PR {g : g_H} {a k : Nat} {x : Option Nat} (b j : Nat) : gR (gPR g a k x) b j = if b = a then (if j = k then x else gR g b j) else gR g b j := rfl
theorem gS_PW {g : g_H} {a : Nat} {r : Nat → Int32} : gS (gPW g a r) = gS g := rfl
theorem gR_PW {g : g_H} {a : Nat} {r : Nat → Int32} : gR (gPW g a r) = gR g := rfl
theorem gJ_PW {g : g_H} {a : Nat} {r : Nat → Int32} : gJ (gPW g a r) = gJ g := rfl
theorem gZ_PW {g : g_H} {a : Nat} {r : Nat → Int32} : gZ (gPW g a r) = gZ g := rfl
theorem gI_PW {g : g_H} {a : Nat} {r : Nat → Int32} (b j : Nat) : gI (gPW g a r) b j = if b = a then r j else gI g b j := by
  show gW (gI g) a r b j = _
  unfold gW
  split <;> rfl
abbrev inR (n x : Int32) : Prop := ¬ x < 0 ∧ ¬ n ≤ x
theorem inR_nat {n : Nat} {x : Int32} (hn : n < 2 ^ 31) (h : inR (nI n) x) : ∃ j, j < n ∧ x = nI j := by
  obtain ⟨j, h1, h2, -⟩ := pk_mu h.1 h.2 hn
  exact ⟨j, h1, h2⟩
theorem inR_of {n j : Nat} (hn : n < 2 ^ 31) (h : j < n) : inR (nI n) (nI j) := ⟨nI_pos (by omega), nI_ge h hn⟩
theorem cl_nI {n : Nat} (h : n < 2 ^ 31) : Int32.toNatClampNeg (nI n) = n := nI_clamp h
/-- the town's cells -/
def TL (a0 : Nat) (g : g_H) : Prop := (gS g (a0 + 1)).1 = 6 ∧ gR g (a0 + 1) 2 = some (a0 + 2) ∧ gR g (a0 + 1) 3 = some (a0 + 3) ∧ gR g (a0 + 1) 4 = some (a0 + 28) ∧ gS g (a0 + 2) = (12, 14) ∧ gS g (a0 + 3) = (16, 24) ∧ gS g (a0 + 28) = (14, 14) ∧
  (∀ i, i < 24 → gR g (a0 + 3) i = some (a0 + 4 + i) ∧ (gS g (a0 + 4 + i)).1 = 3) ∧ (∀ x, x < 14 → gR g (a0 + 28) x = some (a0 + 29 + x) ∧ gS g (a0 + 29 + x) = (11, 14))
/-- a route's cells -/
def RtL (r : Nat) (g : g_H) : Prop := (gS g r).1 = 5 ∧ gR g r 1 = some (r + 1) ∧ gR g r 2 = some (r + 2) ∧ gR g r 3 = some (r + 3) ∧ gS g (r + 1) = (11, 7) ∧ gS g (r + 2) = (11, 7) ∧ gS g (r + 3) = (11, 14)
/-- a flight's cells -/
def FL (a0 F : Nat) (g : g_H) : Prop := (gS g F).1 = 2 ∧ gR g F 0 = some (a0 + 1) ∧ gR g F 1 = some (F + 1) ∧ gR g F 2 = some (F + 32) ∧ gS g (F + 1) = (15, 6) ∧ gS g (F + 32) = (17, 20) ∧
  (∀ b, b < 6 → gR g (F + 1) b = some (F + 2 + 5 * b) ∧ (gS g (F + 2 + 5 * b)).1 = 1) ∧ (∀ i, i < 20 → gR g (F + 32) i = some (F + 33 + i) ∧ (gS g (F + 33 + i)).1 = 4)
theorem p_hasHouse {g : g_H} {t : Nat} (h : (gS g t).1 = 6) (x : Int32) : f5_hasHouse g t x = some (if inR (gI g t 0) x then 1 else 0, g) := by
  unfold f5_hasHouse
  by_cases h1 : x < 0
  · simp [h1]
  · by_cases h2 : gI g t 0 ≤ x <;> simp [h1, h, h2]
theorem p_hasLane {g : g_H} {t : Nat} (h : (gS g t).1 = 6) (x : Int32) : f5_hasLane g t x = some (if inR (gI g t 1) x then 1 else 0, g) := by
  unfold f5_hasLane
  by_cases h1 : x < 0
  · simp [h1]
  · by_cases h2 : gI g t 1 ≤ x <;> simp [h1, h, h2]
/-- the way between two, 1000 without one -/
def wyF (g : g_H) (a0 : Nat) (x y : Int32) : Int32 := if inR (gI g (a0 + 1) 0) x ∧ inR (gI g (a0 + 1) 0) y then gI g (a0 + 29 + Int32.toNatClampNeg x) (Int32.toNatClampNeg y) else 1000
theorem p_way {g : g_H} {a0 n : Nat} (hT : TL a0 g) (hn : gI g (a0 + 1) 0 = nI n) (hn2 : n ≤ 14) (x y : Int32) : f5_wayBetween g (a0 + 1) x y = some (wyF g a0 x y, g) := by
  obtain ⟨h1, h2, h3, h4, h5, h6, h7, h8, h9⟩ := hT
  unfold f5_wayBetween wyF
  rw [if_pos h1, p_hasHouse h1, hn]
  by_cases hx : inR (nI n) x
  · obtain ⟨i, hi, rfl⟩ := inR_nat (by omega) hx
    obtain ⟨e1, e2⟩ := h9 i (by omega)
    have ci : Int32.toNatClampNeg (nI i) = i := cl_nI (by omega)
    by_cases hy : inR (nI n) y
    · obtain ⟨j, hj, rfl⟩ := inR_nat (by omega) hy
      have cj : Int32.toNatClampNeg (nI j) = j := cl_nI (by omega)
      simp [gB2, hx, hy, h1, p_hasHouse h1, hn, h4, h7, ci, cj, e1, e2, nI_pos (n := i) (by omega), nI_pos (n := j) (by omega), show i < 14 by omega, show j < 14 by omega]
    · have hy' : ¬ (¬ y < 0 ∧ ¬ nI n ≤ y) := hy
      simp [gB2, hx, h1, p_hasHouse h1, hn, hy']
  · have hx' : ¬ (¬ x < 0 ∧ ¬ nI n ≤ x) := hx
    simp [gB2, hx']
