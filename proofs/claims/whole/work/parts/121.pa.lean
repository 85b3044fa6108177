section
/-! PURE: reading the pure heap; the class's small methods -/
theorem gS_PI {g : g_H} {a k : Nat} {x : Int32} : gS (gPI g a k x) = gS g := rfl
theorem gR_PI {g : g_H} {a k : Nat} {x : Int32} : gR (gPI g a k x) = gR g := rfl
theorem gJ_PI {g : g_H} {a k : Nat} {x : Int32} : gJ (gPI g a k x) = gJ g := rfl
theorem gZ_PI {g : g_H} {a k : Nat} {x : Int32} : gZ (gPI g a k x) = gZ g := rfl
theorem gI_PI {g : g_H} {a k : Nat} {x : Int32} (b j : Nat) : gI (gPI g a k x) b j = if b = a then (if j = k then x else gI g b j) else gI g b j := rfl
theorem gS_PR {g : g_H} {a k : Nat} {x : Option Nat} : gS (gPR g a k x) = gS g := rfl
theorem gI_PR {g : g_H} {a k : Nat} {x : Option Nat} : gI (gPR g a k x) = gI g := rfl
theorem gJ_PR {g : g_H} {a k : Nat} {x : Option Nat} : gJ (gPR g a k x) = gJ g := rfl
theorem gZ_PR {g : g_H} {a k : Nat} {x : Option Nat} : gZ (gPR g a k x) = gZ g := rfl
theorem gR_PR {g : g_H} {a k : Nat} {x : Option Nat} (b j : Nat) : gR (gPR g a k x) b j = if b = a then (if j = k then x else gR g b j) else gR g b j := rfl
theorem gS_PW {g : g_H} {a : Nat} {r : Nat → Int32} : gS (gPW g a r) = gS g := rfl
theorem gR_PW {g : g_H} {a : Nat} {r : Nat → Int32} : gR (gPW g a r) = gR g := rfl
theorem gJ_PW {g : g_H} {a : Nat} {r : Nat → Int32} : gJ (gPW g a r) = gJ g := rfl
theorem gZ_PW {g : g_H} {a : Nat} {r : Nat → Int32} : gZ (gPW g a r) = gZ g := rfl
theorem gI_PW {g : g_H} {a : Nat} {r : Nat → Int32} (b j : Nat) : gI (gPW g a r) b j = if b = a then r j else gI g b j := by
  show gW (gI g) a r b j = _
  unfold gW
  split <;> rfl
abbrev inR (n x : Int32) : Prop := ¬ x < 0 ∧ ¬ n ≤ x
theorem inR_nat {n : Nat} {x : Int32} (hn : n < 2 ^ 31) (h : inR (nI n) x) : ∃ j, j < n ∧ x = nI j := by
  obtain ⟨j, h1, h2, -⟩ := pk_mu h.1 h.2 hn
  exact ⟨j, h1, h2⟩
theorem inR_of {n j : Nat} (hn : n < 2 ^ 31) (h : j < n) : inR (nI n) (nI j) := ⟨nI_pos (by omega), nI_ge h hn⟩
theorem cl_nI {n : Nat} (h : n < 2 ^ 31) : Int32.toNatClampNeg (nI n) = n := nI_clamp h
/-- the town's cells -/
def TL (a0 : Nat) (g : g_H) : Prop := (gS g (a0 + 1)).1 = 6 ∧ gR g (a0 + 1) 2 = some (a0 + 2) ∧ gR g (a0 + 1) 3 = some (a0 + 3) ∧ gR g (a0 + 1) 4 = some (a0 + 28) ∧ gS g (a0 + 2) = (12, 14) ∧ gS g (a0 + 3) = (16, 24) ∧ gS g (a0 + 28) = (14, 14) ∧
  (∀ i, i < 24 → gR g (a0 + 3) i = some (a0 + 4 + i) ∧ (gS g (a0 + 4 + i)).1 = 3) ∧ (∀ x, x < 14 → gR g (a0 + 28) x = some (a0 + 29 + x) ∧ gS g (a0 + 29 + x) = (11, 14))
/-- a route's cells -/
def RtL (r : Nat) (g : g_H) : Prop := (gS g r).1 = 5 ∧ gR g r 1 = some (r + 1) ∧ gR g r 2 = some (r + 2) ∧ gR g r 3 = some (r + 3) ∧ gS g (r + 1) = (11, 7) ∧ gS g (r + 2) = (11, 7) ∧ gS g (r + 3) = (11, 14)
/-- a flight's cells -/
def FL (a0 F : Nat) (g : g_H) : Prop := (gS g F).1 = 2 ∧ gR g F 0 = some (a0 + 1) ∧ gR g F 1 = some (F + 1) ∧ gR g F 2 = some (F + 32) ∧ gS g (F + 1) = (15, 6) ∧ gS g (F + 32) = (17, 20) ∧
  (∀ b, b < 6 → gR g (F + 1) b = some (F + 2 + 5 * b) ∧ (gS g (F + 2 + 5 * b)).1 = 1) ∧ (∀ i, i < 20 → gR g (F + 32) i = some (F + 33 + i) ∧ (gS g (F + 33 + i)).1 = 4)
theorem p_hasHouse {g : g_H} {t : Nat} (h : (gS g t).1 = 6) (x : Int32) : f5_hasHouse g t x = some (if inR (gI g t 0) x then 1 else 0, g) := by
  unfold f5_hasHouse
  by_cases h1 : x < 0
  · simp [h1]
  · by_cases h2 : gI g t 0 ≤ x <;> simp [h1, h, h2]
theorem p_hasLane {g : g_H} {t : Nat} (h : (gS g t).1 = 6) (x : Int32) : f5_hasLane g t x = some (if inR (gI g t 1) x then 1 else 0, g) := by
  unfold f5_hasLane
  by_cases h1 : x < 0
  · simp [h1]
  · by_cases h2 : gI g t 1 ≤ x <;> simp [h1, h, h2]
/-- the way between two, 1000 without one -/
def wyF (g : g_H) (a0 : Nat) (x y : Int32) : Int32 := if inR (gI g (a0 + 1) 0) x ∧ inR (gI g (a0 + 1) 0) y then gI g (a0 + 29 + Int32.toNatClampNeg x) (Int32.toNatClampNeg y) else 1000
theorem p_way {g : g_H} {a0 n : Nat} (hT : TL a0 g) (hn : gI g (a0 + 1) 0 = nI n) (hn2 : n ≤ 14) (x y : Int32) : f5_wayBetween g (a0 + 1) x y = some (wyF g a0 x y, g) := by
  obtain ⟨h1, h2, h3, h4, h5, h6, h7, h8, h9⟩ := hT
  unfold f5_wayBetween wyF
  rw [if_pos h1, p_hasHouse h1, hn]
  by_cases hx : inR (nI n) x
  · obtain ⟨i, hi, rfl⟩ := inR_nat (by omega) hx
    obtain ⟨e1, e2⟩ := h9 i (by omega)
    have ci : Int32.toNatClampNeg (nI i) = i := cl_nI (by omega)
    by_cases hy : inR (nI n) y
    · obtain ⟨j, hj, rfl⟩ := inR_nat (by omega) hy
      have cj : Int32.toNatClampNeg (nI j) = j := cl_nI (by omega)
      simp [gB2, hx, hy, h1, p_hasHouse h1, hn, h4, h7, ci, cj, e1, e2, nI_pos (n := i) (by omega), nI_pos (n := j) (by omega), show i < 14 by omega, show j < 14 by omega]
    · have hy' : ¬ (¬ y < 0 ∧ ¬ nI n ≤ y) := hy
      simp [gB2, hx, h1, p_hasHouse h1, hn, hy']
  · have hx' : ¬ (¬ x < 0 ∧ ¬ nI n ≤ x) := hx
    simp [gB2, hx']
end
section
/-! PURE: the town as one table of ints: kind, number, field. Kinds: 0 counts (0 quarter, 1 houses, 2 lanes, 3 bees, 4 letters), 1 hives, 2 lanes (a b length from till), 3 bees (0 place 1 left 2 strength 3 honour 4 rests 5 houses of its route 6 delivered 7 onward), 4 routes, 5 letters (to lies carrier arrived taken), 6 ways (1000: none) -/
abbrev Sg : Type := Nat → Nat → Nat → Int32
def su (s : Sg) (t i k : Nat) (v : Int32) : Sg := fun t' i' k' => if t' = t ∧ i' = i ∧ k' = k then v else s t' i' k'
abbrev cl (x : Int32) : Nat := Int32.toNatClampNeg x
theorem su_s {s : Sg} {t i k : Nat} {v : Int32} : su s t i k v t i k = v := if_pos ⟨rfl, rfl, rfl⟩
theorem su_t {s : Sg} {t i k t' i' k' : Nat} {v : Int32} (h : t' ≠ t) : su s t i k v t' i' k' = s t' i' k' := if_neg fun q => h q.1
theorem su_i {s : Sg} {t i k t' i' k' : Nat} {v : Int32} (h : i' ≠ i) : su s t i k v t' i' k' = s t' i' k' := if_neg fun q => h q.2.1
theorem su_k {s : Sg} {t i k t' i' k' : Nat} {v : Int32} (h : k' ≠ k) : su s t i k v t' i' k' = s t' i' k' := if_neg fun q => h q.2.2
def wy (s : Sg) (x y : Int32) : Int32 := if inR (s 0 0 1) x ∧ inR (s 0 0 1) y then s 6 (cl x) (cl y) else 1000
def tgF (s : Sg) (b : Nat) (to : Int32) : Nat → Int32 × Int32
  | 0 => (-1, 1000)
  | k + 1 => if wy s (s 4 b k) to < (tgF s b to k).2 then (s 4 b k, wy s (s 4 b k) to) else tgF s b to k
def tg (s : Sg) (b : Nat) (to : Int32) : Int32 := (tgF s b to (cl (s 3 b 5))).1
def slF (s : Sg) (a b : Int32) : Nat → Int32
  | 0 => -1
  | i + 1 => if ((s 2 i 0 = a ∧ s 2 i 1 = b) ∨ (s 2 i 0 = b ∧ s 2 i 1 = a)) ∧ (slF s a b i = -1 ∨ s 2 i 2 < s 2 (cl (slF s a b i)) 2) then nI i else slF s a b i
def sl (s : Sg) (a b : Int32) : Int32 := slF s a b (cl (s 0 0 2))
/-- how many letters a bee carries -/
def carF (s : Sg) (b : Nat) : Nat → Int32
  | 0 => 0
  | i + 1 => carF s b i + (if s 5 i 2 = nI b then 1 else 0)
def car (s : Sg) (b : Nat) : Int32 := carF s b (cl (s 0 0 4))
/-- how many letters have arrived -/
def arrF (s : Sg) : Nat → Int32
  | 0 => 0
  | i + 1 => arrF s i + (if s 5 i 3 = -1 then 0 else 1)
def arr (s : Sg) : Int32 := arrF s (cl (s 0 0 4))
def clip (x : Int32) : Int32 := if (0 : Int32) < (if x < (20 : Int32) then x else (20 : Int32)) then (if x < (20 : Int32) then x else (20 : Int32)) else (0 : Int32)
def strong (x : Int32) : Int32 := if x < (30 : Int32) then x else (30 : Int32)
/-- a letter at hand is handed over -/
def hoS (s : Sg) (b : Nat) (here : Int32) (i : Nat) : Sg :=
  if s 5 i 2 = nI b then
    if s 5 i 0 = here then su (su (su (su s 5 i 2 (-1)) 5 i 3 (s 0 0 0)) 3 b 6 (s 3 b 6 + 1)) 3 b 3 (clip (s 3 b 3 + 1))
    else if tg s b (s 5 i 0) = here then su (su s 5 i 2 (-1)) 5 i 1 here else s
  else s
def hoF (s : Sg) (b : Nat) (here : Int32) : Nat → Sg
  | 0 => s
  | i + 1 => hoS (hoF s b here i) b here i
def takeS (s : Sg) (b i : Nat) : Sg := su (su (su s 5 i 1 (-1)) 5 i 2 (nI b)) 5 i 4 (s 5 i 4 + 1)
def coS (s : Sg) (b : Nat) (here : Int32) (i : Nat) : Sg :=
  if s 5 i 1 = here ∧ ¬ (3 : Int32) ≤ car s b ∧ wy s (tg s b (s 5 i 0)) (s 5 i 0) < wy s here (s 5 i 0) then takeS s b i else s
def coF (s : Sg) (b : Nat) (here : Int32) : Nat → Sg
  | 0 => s
  | i + 1 => coS (coF s b here i) b here i
def hourS (s : Sg) : Int32 := s 0 0 0 - s 0 0 0 / (24 : Int32) * (24 : Int32)
/-- is the gate of lane l open? -/
def opS (s : Sg) (l : Nat) : Prop := ¬ hourS s < s 2 l 3 ∧ ¬ s 2 l 4 ≤ hourS s
def onS (s : Sg) (b : Nat) : Int32 := if s 3 b 0 = (if s 3 b 7 = 0 then 0 else s 3 b 5 - 1) then (if s 3 b 7 = 0 then 1 else 0) else s 3 b 7
def nextS (s : Sg) (b : Nat) : Int32 := if onS s b = 0 then s 3 b 0 + -1 else s 3 b 0 + 1
def flyS (s : Sg) (b : Nat) (here : Int32) : Sg :=
  let l := sl s here (s 4 b (cl (nextS s b)))
  if (¬ hourS s < s 2 (cl l) 3 ∧ ¬ s 2 (cl l) 4 ≤ hourS s) ∧ ¬ s 3 b 2 < s 2 (cl l) 2 then su (su (su (su s 3 b 7 (onS s b)) 3 b 2 (s 3 b 2 - s 2 (cl l) 2)) 3 b 1 (s 2 (cl l) 2)) 3 b 0 (nextS s b)
  else su (su s 3 b 7 (onS s b)) 3 b 2 (strong (s 3 b 2 + 1))
def mvS (s : Sg) (b : Nat) (here : Int32) : Sg :=
  if ¬ s 3 b 4 = 0 then su (su s 3 b 2 (strong (s 3 b 2 + 3))) 3 b 4 (if (20 : Int32) ≤ strong (s 3 b 2 + 3) then 0 else 1)
  else if ¬ s 1 (cl here) 0 = 0 ∧ ¬ (10 : Int32) ≤ s 3 b 2 then su s 3 b 4 1
  else if s 3 b 5 = 1 then s
  else flyS s b here
/-- a bee's part of a quarter -/
def beeS (s : Sg) (b : Nat) : Sg :=
  let s1 := if 0 < s 3 b 1 then su s 3 b 1 (s 3 b 1 - 1) else s
  if s1 3 b 1 = 0 then
    let here := s1 4 b (cl (s1 3 b 0))
    let s2 := hoF s1 b here (cl (s1 0 0 4))
    let s3 := coF s2 b here (cl (s1 0 0 4))
    mvS s3 b here
  else s1
def beeF (s : Sg) : Nat → Sg
  | 0 => s
  | b + 1 => beeS (beeF s b) b
def quS (s : Sg) : Sg := let s1 := beeF s (cl (s 0 0 3)); su s1 0 0 0 (s1 0 0 0 + 1)
def quF (s : Sg) : Nat → Sg
  | 0 => s
  | k + 1 => quS (quF s k)
end
section
/-! PURE: what is well formed, and how the class's cells hold the table -/
def Same (s t : Sg) : Prop := (∀ k, k ≠ 0 → t 0 0 k = s 0 0 k) ∧ t 1 = s 1 ∧ t 2 = s 2 ∧ t 4 = s 4 ∧ t 6 = s 6 ∧ ∀ b, t 3 b 5 = s 3 b 5
theorem Same.rf {s : Sg} : Same s s := ⟨fun _ _ => rfl, rfl, rfl, rfl, rfl, fun _ => rfl⟩
theorem Same.tr {s t u : Sg} (h : Same s t) (h' : Same t u) : Same s u := ⟨fun k hk => (h'.1 k hk).trans (h.1 k hk), h'.2.1.trans h.2.1, h'.2.2.1.trans h.2.2.1, h'.2.2.2.1.trans h.2.2.2.1, h'.2.2.2.2.1.trans h.2.2.2.2.1, fun b => (h'.2.2.2.2.2 b).trans (h.2.2.2.2.2 b)⟩
theorem Same.l {s : Sg} {i k : Nat} {v : Int32} : Same s (su s 5 i k v) :=
  ⟨fun _ _ => su_t (by omega), funext fun _ => funext fun _ => su_t (by omega), funext fun _ => funext fun _ => su_t (by omega), funext fun _ => funext fun _ => su_t (by omega), funext fun _ => funext fun _ => su_t (by omega), fun _ => su_t (by omega)⟩
theorem Same.b {s : Sg} {i k : Nat} {v : Int32} (hk : k ≠ 5) : Same s (su s 3 i k v) :=
  ⟨fun _ _ => su_t (by omega), funext fun _ => funext fun _ => su_t (by omega), funext fun _ => funext fun _ => su_t (by omega), funext fun _ => funext fun _ => su_t (by omega), funext fun _ => funext fun _ => su_t (by omega), fun _ => su_k (Ne.symm hk)⟩
theorem Same.q {s : Sg} {v : Int32} : Same s (su s 0 0 0 v) :=
  ⟨fun _ hk => su_k hk, funext fun _ => funext fun _ => su_t (by omega), funext fun _ => funext fun _ => su_t (by omega), funext fun _ => funext fun _ => su_t (by omega), funext fun _ => funext fun _ => su_t (by omega), fun _ => su_t (by omega)⟩
theorem Same.wyE {s t : Sg} (h : Same s t) (x y : Int32) : wy t x y = wy s x y := by
  unfold wy
  rw [h.1 1 (by omega), h.2.2.2.2.1]
theorem Same.tgFE {s t : Sg} (h : Same s t) (b : Nat) (to : Int32) (k : Nat) : tgF t b to k = tgF s b to k := by
  induction k with
  | zero => rfl
  | succ k ih =>
    show (if _ then _ else _) = (if _ then _ else _)
    rw [ih, h.wyE, h.2.2.2.1]
theorem Same.tgE {s t : Sg} (h : Same s t) (b : Nat) (to : Int32) : tg t b to = tg s b to := by
  show (tgF t b to _).1 = (tgF s b to _).1
  rw [h.tgFE, h.2.2.2.2.2]
theorem Same.slFE {s t : Sg} (h : Same s t) (a b : Int32) (k : Nat) : slF t a b k = slF s a b k := by
  induction k with
  | zero => rfl
  | succ k ih =>
    show (if _ then _ else _) = (if _ then _ else _)
    rw [ih, h.2.2.1]
theorem Same.slE {s t : Sg} (h : Same s t) (a b : Int32) : sl t a b = sl s a b := by
  show slF t a b _ = slF s a b _
  rw [h.slFE, h.1 2 (by omega)]
def WT (s : Sg) (n1 n2 : Nat) : Prop := s 0 0 1 = nI n1 ∧ n1 ≤ 14 ∧ s 0 0 2 = nI n2 ∧ n2 ≤ 24 ∧
  (∀ i, i < n2 → inR (nI n1) (s 2 i 0) ∧ inR (nI n1) (s 2 i 1) ∧ s 2 i 0 ≠ s 2 i 1 ∧ (∃ d, 1 ≤ d ∧ d ≤ 6 ∧ s 2 i 2 = nI d) ∧ ∃ f t, f ≤ 23 ∧ f ≤ t ∧ t ≤ 24 ∧ s 2 i 3 = nI f ∧ s 2 i 4 = nI t) ∧
  (∀ h, h < 14 → s 1 h 0 = 0 ∨ s 1 h 0 = 1) ∧ (∀ x y, x < n1 → y < n1 → ∃ d, d ≤ 1000 ∧ s 6 x y = nI d)
def WB (s : Sg) (n1 b : Nat) : Prop := ∃ z p l st ho : Nat, s 3 b 5 = nI z ∧ 1 ≤ z ∧ z ≤ 7 ∧ s 3 b 0 = nI p ∧ p < z ∧ s 3 b 1 = nI l ∧ l ≤ 6 ∧ s 3 b 2 = nI st ∧ st ≤ 30 ∧ s 3 b 3 = nI ho ∧ ho ≤ 20 ∧ (s 3 b 4 = 0 ∨ s 3 b 4 = 1) ∧ (s 3 b 7 = 0 ∨ s 3 b 7 = 1) ∧
  (∀ k, k < z → inR (nI n1) (s 4 b k)) ∧ (∀ k, k + 1 < z → sl s (s 4 b k) (s 4 b (k + 1)) ≠ -1)
def WL (s : Sg) (n1 n3 i : Nat) : Prop := inR (nI n1) (s 5 i 0) ∧ (s 5 i 1 = -1 ∨ inR (nI n1) (s 5 i 1)) ∧ (s 5 i 2 = -1 ∨ ∃ b, b < n3 ∧ s 5 i 2 = nI b) ∧ (s 5 i 2 ≠ -1 → s 5 i 1 = -1 ∧ s 5 i 3 = -1) ∧ (s 5 i 3 ≠ -1 → s 5 i 1 = -1 ∧ s 5 i 2 = -1) ∧ (s 5 i 3 = -1 ∨ ∃ t, t < 2 ^ 26 ∧ s 5 i 3 = nI t)
def WF (s : Sg) (n1 n2 n3 n4 q : Nat) : Prop := WT s n1 n2 ∧ s 0 0 3 = nI n3 ∧ n3 ≤ 6 ∧ s 0 0 4 = nI n4 ∧ n4 ≤ 20 ∧ s 0 0 0 = nI q ∧ q < 2 ^ 26 ∧ (∀ b, b < n3 → WB s n1 b ∧ ∃ c, c ≤ 3 ∧ car s b = nI c) ∧ ∀ i, i < n4 → WL s n1 n3 i
theorem WT.same {s t : Sg} {n1 n2 : Nat} (h : Same s t) (w : WT s n1 n2) : WT t n1 n2 := by
  obtain ⟨w1, w2, w3, w4, w5, w6, w7⟩ := w
  refine ⟨(h.1 1 (by omega)).trans w1, w2, (h.1 2 (by omega)).trans w3, w4, fun i hi => ?_, fun x hx => ?_, fun x y hx hy => ?_⟩
  · rw [h.2.2.1]; exact w5 i hi
  · rw [h.2.1]; exact w6 x hx
  · rw [h.2.2.2.2.1]; exact w7 x y hx hy
/-- which cells a flight's quarters change -/
def chg (F a : Nat) : Prop := a = F ∨ (∃ b, b < 6 ∧ a = F + 2 + 5 * b) ∨ ∃ i, i < 20 ∧ a = F + 33 + i
def Fr (F : Nat) (g h : g_H) : Prop := gS h = gS g ∧ gR h = gR g ∧ gJ h = gJ g ∧ gZ h = gZ g ∧ (gI h F 7 = gI g F 7 ∧ ∀ a, gI h a 0 = gI g a 0) ∧ ∀ a, ¬ chg F a → gI h a = gI g a
theorem Fr.rf {F : Nat} {g : g_H} : Fr F g g := ⟨rfl, rfl, rfl, rfl, ⟨rfl, fun _ => rfl⟩, fun _ _ => rfl⟩
theorem Fr.tr {F : Nat} {g h k : g_H} (x : Fr F g h) (y : Fr F h k) : Fr F g k := ⟨y.1.trans x.1, y.2.1.trans x.2.1, y.2.2.1.trans x.2.2.1, y.2.2.2.1.trans x.2.2.2.1, ⟨y.2.2.2.2.1.1.trans x.2.2.2.2.1.1, fun a => (y.2.2.2.2.1.2 a).trans (x.2.2.2.2.1.2 a)⟩, fun a ha => (y.2.2.2.2.2 a ha).trans (x.2.2.2.2.2 a ha)⟩
theorem Fr.put {F a k : Nat} {g : g_H} {v : Int32} (h : chg F a) (h7 : a ≠ F ∨ k ≠ 7) (h0 : k ≠ 0 := by omega) : Fr F g (gPI g a k v) := by
  refine ⟨rfl, rfl, rfl, rfl, ⟨?_, fun b => ?_⟩, fun b hb => ?_⟩
  · rw [gI_PI]
    by_cases e : F = a
    · rw [if_pos e, if_neg (by rcases h7 with h7 | h7 <;> omega)]
    · rw [if_neg e]
  · rw [gI_PI, if_neg h0.symm]
    split <;> rfl
  · have e : b ≠ a := fun q => hb (q ▸ h)
    exact gU_o e
def R1 (a0 F : Nat) (g : g_H) (s : Sg) (n2 : Nat) : Prop := gI g (a0 + 1) 0 = s 0 0 1 ∧ gI g (a0 + 1) 1 = s 0 0 2 ∧ (∀ h, h < 14 → gI g (a0 + 2) h = s 1 h 0) ∧
  (∀ i, i < n2 → (∀ k, k < 3 → gI g (a0 + 4 + i) k = s 2 i k) ∧ (nI i = gI g F 7 → s 2 i 3 = 0 ∧ s 2 i 4 = 24) ∧ (nI i ≠ gI g F 7 → gI g (a0 + 4 + i) 3 = s 2 i 3 ∧ gI g (a0 + 4 + i) 4 = s 2 i 4)) ∧ ∀ x y, x < 14 → y < 14 → gI g (a0 + 29 + x) y = s 6 x y
def R2 (F : Nat) (g : g_H) (s : Sg) : Prop := gI g F 3 = s 0 0 3 ∧ gI g F 4 = s 0 0 4 ∧ gI g F 5 = s 0 0 0
def R3 (a0 F : Nat) (g : g_H) (s : Sg) (n3 : Nat) : Prop := ∀ b, b < n3 → gR g (F + 2 + 5 * b) 1 = some (a0 + 46 + 5 * b) ∧ gI g (F + 2 + 5 * b) 0 = nI b ∧ gI g (F + 2 + 5 * b) 2 = s 3 b 0 ∧ gI g (F + 2 + 5 * b) 3 = s 3 b 1 ∧ gI g (F + 2 + 5 * b) 4 = s 3 b 2 ∧ gI g (F + 2 + 5 * b) 5 = s 3 b 3 ∧ gI g (F + 2 + 5 * b) 7 = s 3 b 4 ∧ gI g (F + 2 + 5 * b) 8 = s 3 b 6 ∧ gI g (F + 2 + 5 * b) 9 = s 3 b 7
def R4 (F : Nat) (g : g_H) (s : Sg) (n3 : Nat) : Prop := ∀ b, b < n3 → gI g (F + 2 + 5 * b) 6 = car s b
def R5 (F : Nat) (g : g_H) (s : Sg) : Prop := gI g F 6 = arr s
def R6 (a0 : Nat) (g : g_H) (s : Sg) (n3 : Nat) : Prop := ∀ b, b < n3 → gI g (a0 + 46 + 5 * b) 0 = s 3 b 5 ∧ (∀ k, k < cl (s 3 b 5) → gI g (a0 + 47 + 5 * b) k = s 4 b k) ∧ (∀ k, k + 1 < cl (s 3 b 5) → gI g (a0 + 48 + 5 * b) k = sl s (s 4 b k) (s 4 b (k + 1))) ∧ ∀ h, h < 14 → gI g (a0 + 49 + 5 * b) h = tg s b (nI h)
def R7 (F : Nat) (g : g_H) (s : Sg) (n4 : Nat) : Prop := ∀ i, i < n4 → ∀ k, k < 5 → gI g (F + 33 + i) k = s 5 i k
def RS (a0 F : Nat) (g : g_H) (s : Sg) (n2 n3 : Nat) : Prop := (F = a0 + 43 ∨ F = a0 + 96) ∧ TL a0 g ∧ FL a0 F g ∧ (∀ b, b < 6 → RtL (a0 + 46 + 5 * b) g) ∧ R1 a0 F g s n2 ∧ R6 a0 g s n3
def RD (a0 F : Nat) (g : g_H) (s : Sg) (n3 n4 : Nat) : Prop := R2 F g s ∧ R3 a0 F g s n3 ∧ R4 F g s n3 ∧ R5 F g s ∧ R7 F g s n4
theorem RS.fr {a0 F n2 n3 : Nat} {g h : g_H} {s t : Sg} (r : RS a0 F g s n2 n3) (f : Fr F g h) (hs : Same s t) (hn3 : n3 ≤ 6) (hn2 : n2 ≤ 24) : RS a0 F h t n2 n3 := by
  obtain ⟨hF, r1, r2, r3, r4, r5⟩ := r
  obtain ⟨f1, f2, f3, f4, f5, f6⟩ := f
  have nc : ∀ a, (a < F ∨ (F < a ∧ a < F + 32 ∧ (a - F) % 5 ≠ 2)) → ¬ chg F a := by
    intro a ha hc
    rcases hc with h | ⟨b, hb, h⟩ | ⟨i, hi, h⟩ <;> omega
  refine ⟨hF, ?_, ?_, ?_, ?_, ?_⟩
  · unfold TL; rw [f1, f2]; exact r1
  · unfold FL; rw [f1, f2]; exact r2
  · intro b hb; unfold RtL; rw [f1, f2]; exact r3 b hb
  · obtain ⟨q1, q2, q3, q4, q5⟩ := r4
    refine ⟨?_, ?_, fun x hx => ?_, fun i hi => ?_, fun x y hx hy => ?_⟩
    · rw [f6 _ (nc _ (by omega)), hs.1 1 (by omega)]; exact q1
    · rw [f6 _ (nc _ (by omega)), hs.1 2 (by omega)]; exact q2
    · rw [f6 _ (nc _ (by omega)), hs.2.1]; exact q3 x hx
    · rw [f6 _ (nc _ (by omega)), hs.2.2.1, f5.1]; exact q4 i hi
    · rw [f6 _ (nc _ (by omega)), hs.2.2.2.2.1]; exact q5 x y hx hy
  · intro b hb
    obtain ⟨q1, q2, q3, q4⟩ := r5 b hb
    have n1 : ∀ j, j < 4 → ¬ chg F (a0 + 46 + j + 5 * b) := by
      intro j hj hc
      rcases hc with h | ⟨b', hb', h⟩ | ⟨i, hi, h⟩ <;> omega
    refine ⟨?_, fun k hk => ?_, fun k hk => ?_, fun x hx => ?_⟩
    · rw [f6 _ (n1 0 (by omega)), hs.2.2.2.2.2]; exact q1
    · rw [hs.2.2.2.2.2] at hk
      rw [f6 _ (n1 1 (by omega)), hs.2.2.2.1]; exact q2 k hk
    · rw [hs.2.2.2.2.2] at hk
      rw [f6 _ (n1 2 (by omega)), hs.2.2.2.1, hs.slE]; exact q3 k hk
    · rw [f6 _ (n1 3 (by omega)), hs.tgE]; exact q4 x hx
end
section
/-! PURE: counting letters; the class's steps at a house -/
theorem carF_off {s : Sg} {b n : Nat} (h : ∀ i, i < n → s 5 i 2 ≠ nI b) : carF s b n = 0 := by
  induction n with
  | zero => rfl
  | succ n ih =>
    show carF s b n + _ = 0
    rw [ih (fun i hi => h i (by omega)), if_neg (h n (by omega))]
    rfl
theorem carF_nat (s : Sg) (b n : Nat) : ∃ c, c ≤ n ∧ carF s b n = nI c ∧ (∀ i, i < n → s 5 i 2 = nI b → 0 < c) := by
  induction n with
  | zero => exact ⟨0, Nat.le_refl _, rfl, fun i hi => absurd hi (by omega)⟩
  | succ n ih =>
    obtain ⟨c, h1, h2, h3⟩ := ih
    by_cases h : s 5 n 2 = nI b
    · refine ⟨c + 1, by omega, ?_, fun _ _ _ => by omega⟩
      show carF s b n + _ = _
      rw [if_pos h, h2]
      exact nI_1 c
    · refine ⟨c, by omega, ?_, fun i hi e => ?_⟩
      · show carF s b n + _ = _
        rw [if_neg h, h2]
        exact Int32.add_zero _
      · rcases Nat.lt_succ_iff_lt_or_eq.mp hi with q | q
        · exact h3 i q e
        · rw [q] at e; exact absurd e h
theorem carF_iff {s t : Sg} {b n : Nat} (h : ∀ i, i < n → (t 5 i 2 = nI b ↔ s 5 i 2 = nI b)) : carF t b n = carF s b n := by
  induction n with
  | zero => rfl
  | succ n ih =>
    show carF t b n + _ = carF s b n + _
    rw [ih (fun i hi => h i (by omega))]
    by_cases e : s 5 n 2 = nI b
    · rw [if_pos e, if_pos ((h n (by omega)).mpr e)]
    · rw [if_neg e, if_neg (fun q => e ((h n (by omega)).mp q))]
theorem carF_keep {s t : Sg} {b n : Nat} (h : ∀ i, i < n → t 5 i 2 = s 5 i 2) : carF t b n = carF s b n := carF_iff fun i hi => by rw [h i hi]
/-- one letter less -/
theorem carF_less {s t : Sg} {b n i : Nat} (hi : i < n) (h : s 5 i 2 = nI b) (h' : t 5 i 2 ≠ nI b) (ho : ∀ j, j < n → j ≠ i → t 5 j 2 = s 5 j 2) : carF t b n = carF s b n - 1 := by
  induction n with
  | zero => omega
  | succ n ih =>
    show carF t b n + _ = carF s b n + _ - 1
    by_cases e : i = n
    · subst e
      rw [carF_keep (fun j hj => ho j (by omega) (by omega)), if_pos h, if_neg h', Int32.add_sub_cancel, Int32.add_zero]
    · rw [ih (by omega) (fun j hj => ho j (by omega)), ho n (by omega) (fun q => e q.symm)]
      rw [Int32.sub_eq_add_neg, Int32.sub_eq_add_neg, Int32.add_assoc, Int32.add_assoc, Int32.add_comm (-1 : Int32)]
theorem carF_more {s t : Sg} {b n i : Nat} (hi : i < n) (h : s 5 i 2 ≠ nI b) (h' : t 5 i 2 = nI b) (ho : ∀ j, j < n → j ≠ i → t 5 j 2 = s 5 j 2) : carF t b n = carF s b n + 1 := by
  induction n with
  | zero => omega
  | succ n ih =>
    show carF t b n + _ = carF s b n + _ + 1
    by_cases e : i = n
    · subst e
      rw [carF_keep (fun j hj => ho j (by omega) (by omega)), if_neg h, if_pos h', Int32.add_zero]
    · rw [ih (by omega) (fun j hj => ho j (by omega)), ho n (by omega) (fun q => e q.symm)]
      rw [Int32.add_assoc, Int32.add_assoc, Int32.add_comm (1 : Int32)]
theorem arrF_keep {s t : Sg} {n : Nat} (h : ∀ i, i < n → t 5 i 3 = s 5 i 3) : arrF t n = arrF s n := by
  induction n with
  | zero => rfl
  | succ n ih =>
    show arrF t n + _ = arrF s n + _
    rw [ih (fun i hi => h i (by omega)), h n (by omega)]
theorem arrF_more {s t : Sg} {n i : Nat} (hi : i < n) (h : s 5 i 3 = -1) (h' : t 5 i 3 ≠ -1) (ho : ∀ j, j < n → j ≠ i → t 5 j 3 = s 5 j 3) : arrF t n = arrF s n + 1 := by
  induction n with
  | zero => omega
  | succ n ih =>
    show arrF t n + _ = arrF s n + _ + 1
    by_cases e : i = n
    · subst e
      rw [arrF_keep (fun j hj => ho j (by omega) (by omega)), if_pos h, if_neg h', Int32.add_zero]
    · rw [ih (by omega) (fun j hj => ho j (by omega)), ho n (by omega) (fun q => e q.symm)]
      rw [Int32.add_assoc, Int32.add_assoc, Int32.add_comm (1 : Int32)]
theorem nI_m1 {n : Nat} (h : n < 2 ^ 31) : nI n ≠ -1 := by
  intro e
  have h1 := nI_toInt h
  rw [e] at h1
  have h2 : (-1 : Int32).toInt = -1 := rfl
  omega
theorem nI_inj {a b : Nat} (ha : a < 2 ^ 31) (hb : b < 2 ^ 31) (h : nI a = nI b) : a = b := (nI_eq ha hb).mp h
theorem p_targetFor {g : g_H} {r : Nat} (h : RtL r g) (x : Int32) : f4_targetFor g r x = some (if inR 14 x then gI g (r + 3) (cl x) else -1, g) := by
  obtain ⟨h1, -, -, h4, -, -, h7⟩ := h
  unfold f4_targetFor
  by_cases c1 : x < 0
  · simp [c1]
  · by_cases c2 : (14 : Int32) ≤ x
    · simp [c1, c2]
    · obtain ⟨j, hj, rfl⟩ := inR_nat (n := 14) (by omega) ⟨c1, c2⟩
      simp [c1, c2, h1, h4, h7, cl_nI (show j < 2 ^ 31 by omega), show j < 14 by omega]
theorem p_houseAt {g : g_H} {r n : Nat} (h : RtL r g) (hn : gI g r 0 = nI n) (hn7 : n ≤ 7) (x : Int32) : f4_houseAt g r x = some (if inR (nI n) x then gI g (r + 1) (cl x) else -1, g) := by
  obtain ⟨h1, h2, -, -, h5, -, -⟩ := h
  unfold f4_houseAt
  by_cases c1 : x < 0
  · simp [c1]
  · by_cases c2 : nI n ≤ x
    · simp [c1, c2, h1, hn]
    · obtain ⟨j, hj, rfl⟩ := inR_nat (n := n) (by omega) ⟨c1, c2⟩
      simp [c1, c2, h1, h2, h5, hn, cl_nI (show j < 2 ^ 31 by omega), show j < 7 by omega]
theorem p_laneAt {g : g_H} {r n : Nat} (h : RtL r g) (hn : gI g r 0 = nI n) (hn7 : n ≤ 7) (x : Int32) : f4_laneAt g r x = some (if inR (nI n) x then gI g (r + 2) (cl x) else -1, g) := by
  obtain ⟨h1, -, h3, -, -, h6, -⟩ := h
  unfold f4_laneAt
  by_cases c1 : x < 0
  · simp [c1]
  · by_cases c2 : nI n ≤ x
    · simp [c1, c2, h1, hn]
    · obtain ⟨j, hj, rfl⟩ := inR_nat (n := n) (by omega) ⟨c1, c2⟩
      simp [c1, c2, h1, h3, h6, hn, cl_nI (show j < 2 ^ 31 by omega), show j < 7 by omega]
theorem p_house {g : g_H} {B r n : Nat} (hB : (gS g B).1 = 1) (hr : gR g B 1 = some r) (h : RtL r g) (hn : gI g r 0 = nI n) (hn7 : n ≤ 7) : f0_house g B = some (if inR (nI n) (gI g B 2) then gI g (r + 1) (cl (gI g B 2)) else -1, g) := by
  unfold f0_house
  simp [hB, hr, h.1, p_houseAt h hn hn7, gB2]
theorem p_addHonour {g : g_H} {B : Nat} (hB : (gS g B).1 = 1) (x : Int32) : f0_addHonour g B x = some (gPI g B 5 (clip (gI g B 5 + x))) := by
  unfold f0_addHonour gLt clip
  simp [hB]
theorem p_addStrength {g : g_H} {B : Nat} (hB : (gS g B).1 = 1) (x : Int32) : f0_addStrength g B x = some (gPI g B 4 (strong (gI g B 4 + x))) := by
  unfold f0_addStrength gLt strong
  simp [hB]
theorem p_take {g : g_H} {B L : Nat} (hB : (gS g B).1 = 1) (hL : (gS g L).1 = 4) (hn : B ≠ L) : f0_take g B L = some (gPI (gPI (gPI (gPI g L 1 (-1)) L 2 (gI g B 0)) L 4 (gI g L 4 + 1)) B 6 (gI g B 6 + 1)) := by
  unfold f0_take gLt
  simp [hB, hL, gI_PI, hn]
theorem p_deliver {g : g_H} {B L : Nat} (hB : (gS g B).1 = 1) (hL : (gS g L).1 = 4) (hn : B ≠ L) (x : Int32) : f0_deliver g B L x = some (gPI (gPI (gPI (gPI (gPI g L 2 (-1)) L 3 x) B 6 (gI g B 6 - 1)) B 8 (gI g B 8 + 1)) B 5 (clip (gI g B 5 + 1))) := by
  unfold f0_deliver gLt
  rw [if_pos hL, if_pos hB]
  show (f0_addHonour _ B 1).bind _ = _
  rw [p_addHonour (by exact hB)]
  simp [gI_PI, hn]
theorem p_layDown {g : g_H} {B L r n : Nat} (hB : (gS g B).1 = 1) (hL : (gS g L).1 = 4) (hn : B ≠ L) (hr : gR g B 1 = some r) (h : RtL r g) (hz : gI g r 0 = nI n) (hn7 : n ≤ 7) (hrL : r ≠ L) (hrL1 : r + 1 ≠ L) (hin : inR (nI n) (gI g B 2)) : f0_layDown g B L = some (gPI (gPI (gPI g L 2 (-1)) L 1 (gI g (r + 1) (cl (gI g B 2)))) B 6 (gI g B 6 - 1)) := by
  unfold f0_layDown gLt
  have h' : RtL r (gPI g L 2 (-1)) := h
  rw [if_pos hL, if_pos hB, p_house (g := gPI g L 2 (-1)) (n := n) hB hr h' (by rw [gI_PI, if_neg hrL]; exact hz) hn7]
  have e2 : gI (gPI g L 2 (-1)) B 2 = gI g B 2 := by rw [gI_PI, if_neg hn]
  rw [e2, if_pos hin]
  simp [gB2, gS_PI, hB, hL, gI_PI, hn, hrL1]
end
section
/-! PURE: the class's flight holds the table; a letter handed over, laid down, taken -/
def CI (a0 F : Nat) (g : g_H) (s : Sg) (n1 n2 n3 n4 q : Nat) : Prop := WF s n1 n2 n3 n4 q ∧ RS a0 F g s n2 n3 ∧ RD a0 F g s n3 n4
theorem clip_nI {n : Nat} (h : n ≤ 21) : clip (nI n) = nI (if n < 20 then n else 20) ∧ (if n < 20 then n else 20) ≤ 20 := by
  refine ⟨?_, by split <;> omega⟩
  unfold clip
  by_cases c : n < 20
  · have c1 : nI n < (20 : Int32) := nI_lt (b := 20) c (by omega)
    rw [if_pos c1, if_pos c]
    by_cases z : (0 : Int32) < nI n
    · rw [if_pos z]
    · rw [if_neg z]
      have : ¬ 0 < n := fun q => z (nI_lt (a := 0) q (by omega))
      rw [show n = 0 by omega]
      rfl
  · have c1 : ¬ nI n < (20 : Int32) := nI_nlt (a := n) (b := 20) (by omega) (by omega)
    rw [if_neg c1, if_neg c]
    rfl
theorem strong_nI {n : Nat} (h : n ≤ 40) : strong (nI n) = nI (if n < 30 then n else 30) ∧ (if n < 30 then n else 30) ≤ 30 := by
  refine ⟨?_, by split <;> omega⟩
  unfold strong
  by_cases c : n < 30
  · have c1 : nI n < (30 : Int32) := nI_lt (b := 30) c (by omega)
    rw [if_pos c1, if_pos c]
  · have c1 : ¬ nI n < (30 : Int32) := nI_nlt (a := n) (b := 30) (by omega) (by omega)
    rw [if_neg c1, if_neg c]
    rfl
theorem car_def {s : Sg} {n4 : Nat} (h : s 0 0 4 = nI n4) (h2 : n4 ≤ 20) (b : Nat) : car s b = carF s b n4 := by
  unfold car
  rw [h, show cl (nI n4) = n4 from cl_nI (by omega)]
theorem arr_def {s : Sg} {n4 : Nat} (h : s 0 0 4 = nI n4) (h2 : n4 ≤ 20) : arr s = arrF s n4 := by
  unfold arr
  rw [h, show cl (nI n4) = n4 from cl_nI (by omega)]
/-- what of a bee stays when its route and place stay -/
theorem WB.keep {s t : Sg} {n1 b : Nat} (h : Same s t) (w : WB s n1 b) (h0 : t 3 b 0 = s 3 b 0) (h1 : t 3 b 1 = s 3 b 1) (h2 : ∃ st, st ≤ 30 ∧ t 3 b 2 = nI st) (h3 : ∃ ho, ho ≤ 20 ∧ t 3 b 3 = nI ho) (h4 : t 3 b 4 = 0 ∨ t 3 b 4 = 1) (h7 : t 3 b 7 = 0 ∨ t 3 b 7 = 1) : WB t n1 b := by
  obtain ⟨z, p, l, st, ho, w1, w2, w3, w4, w5, w6, w7, w8, w9, w10, w11, w12, w13, w14, w15⟩ := w
  obtain ⟨st', q1, q2⟩ := h2
  obtain ⟨ho', q3, q4⟩ := h3
  refine ⟨z, p, l, st', ho', (h.2.2.2.2.2 b).trans w1, w2, w3, h0.trans w4, w5, h1.trans w6, w7, q2, q1, q4, q3, h4, h7, ?_, ?_⟩
  · rw [h.2.2.2.1]; exact w14
  · rw [h.2.2.2.1]
    intro k hk
    rw [h.slE]
    exact w15 k hk
def delS (s : Sg) (b i : Nat) : Sg := su (su (su (su s 5 i 2 (-1)) 5 i 3 (s 0 0 0)) 3 b 6 (s 3 b 6 + 1)) 3 b 3 (clip (s 3 b 3 + 1))
theorem delS_same {s : Sg} {b i : Nat} : Same s (delS s b i) := ((Same.l.tr Same.l).tr (Same.b (by omega))).tr (Same.b (by omega))
def layS (s : Sg) (i : Nat) (here : Int32) : Sg := su (su s 5 i 2 (-1)) 5 i 1 here
theorem layS_same {s : Sg} {i : Nat} {here : Int32} : Same s (layS s i here) := Same.l.tr Same.l
theorem takeS_same {s : Sg} {b i : Nat} : Same s (takeS s b i) := (Same.l.tr Same.l).tr Same.l
theorem delS_car {s : Sg} {b i n4 : Nat} (hn4 : s 0 0 4 = nI n4) (h20 : n4 ≤ 20) (hb : b < 6) (hi : i < n4) (h : s 5 i 2 = nI b) (b' : Nat) (hb' : b' < 6) : car (delS s b i) b' = if b' = b then car s b - 1 else car s b' := by
  have e4 : (delS s b i) 0 0 4 = nI n4 := (delS_same.1 4 (by omega)).trans hn4
  rw [car_def e4 h20, car_def hn4 h20, car_def hn4 h20]
  have ho : ∀ j, j ≠ i → (delS s b i) 5 j 2 = s 5 j 2 := fun j hj => by simp [delS, su, hj]
  have hs : (delS s b i) 5 i 2 = -1 := by simp [delS, su]
  by_cases e : b' = b
  · rw [if_pos e, e]
    exact carF_less hi h (by rw [hs]; exact (nI_m1 (by omega)).symm) (fun j _ hj => ho j hj)
  · rw [if_neg e]
    refine carF_iff fun j hj => ?_
    by_cases ej : j = i
    · rw [ej, hs, h]
      exact ⟨fun q => absurd q.symm (nI_m1 (by omega)), fun q => absurd (nI_inj (by omega) (by omega) q).symm e⟩
    · rw [ho j ej]
theorem layS_car {s : Sg} {b i n4 : Nat} {here : Int32} (hn4 : s 0 0 4 = nI n4) (h20 : n4 ≤ 20) (hb : b < 6) (hi : i < n4) (h : s 5 i 2 = nI b) (b' : Nat) (hb' : b' < 6) : car (layS s i here) b' = if b' = b then car s b - 1 else car s b' := by
  have e4 : (layS s i here) 0 0 4 = nI n4 := (layS_same.1 4 (by omega)).trans hn4
  rw [car_def e4 h20, car_def hn4 h20, car_def hn4 h20]
  have ho : ∀ j, j ≠ i → (layS s i here) 5 j 2 = s 5 j 2 := fun j hj => by simp [layS, su, hj]
  have hs : (layS s i here) 5 i 2 = -1 := by simp [layS, su]
  by_cases e : b' = b
  · rw [if_pos e, e]
    exact carF_less hi h (by rw [hs]; exact (nI_m1 (by omega)).symm) (fun j _ hj => ho j hj)
  · rw [if_neg e]
    refine carF_iff fun j hj => ?_
    by_cases ej : j = i
    · rw [ej, hs, h]
      exact ⟨fun q => absurd q.symm (nI_m1 (by omega)), fun q => absurd (nI_inj (by omega) (by omega) q).symm e⟩
    · rw [ho j ej]
theorem takeS_car {s : Sg} {b i n4 : Nat} (hn4 : s 0 0 4 = nI n4) (h20 : n4 ≤ 20) (hb : b < 6) (hi : i < n4) (h : s 5 i 2 = -1) (b' : Nat) (hb' : b' < 6) : car (takeS s b i) b' = if b' = b then car s b + 1 else car s b' := by
  have e4 : (takeS s b i) 0 0 4 = nI n4 := (takeS_same.1 4 (by omega)).trans hn4
  rw [car_def e4 h20, car_def hn4 h20, car_def hn4 h20]
  have ho : ∀ j, j ≠ i → (takeS s b i) 5 j 2 = s 5 j 2 := fun j hj => by simp [takeS, su, hj]
  have hs : (takeS s b i) 5 i 2 = nI b := by simp [takeS, su]
  by_cases e : b' = b
  · rw [if_pos e, e]
    exact carF_more hi (by rw [h]; exact (nI_m1 (by omega)).symm) hs (fun j _ hj => ho j hj)
  · rw [if_neg e]
    refine carF_iff fun j hj => ?_
    by_cases ej : j = i
    · rw [ej, hs, h]
      exact ⟨fun q => absurd (nI_inj (by omega) (by omega) q).symm e, fun q => absurd q.symm (nI_m1 (by omega))⟩
    · rw [ho j ej]
theorem WF.del {s : Sg} {n1 n2 n3 n4 q b i : Nat} (w : WF s n1 n2 n3 n4 q) (hb : b < n3) (hi : i < n4) (h : s 5 i 2 = nI b) (hc : ¬ car s b ≤ 0) : WF (delS s b i) n1 n2 n3 n4 q := by
  obtain ⟨w1, w2, w3, w4, w5, w6, w7, w8, w9⟩ := w
  have hs := delS_same (s := s) (b := b) (i := i)
  refine ⟨w1.same hs, (hs.1 3 (by omega)).trans w2, w3, (hs.1 4 (by omega)).trans w4, w5, ?_, w7, fun b' hb' => ?_, fun j hj => ?_⟩
  · rw [← w6]; simp [delS, su]
  · obtain ⟨wb, c, hc3, hcc⟩ := w8 b' hb'
    refine ⟨?_, ?_⟩
    · obtain ⟨z, p, l, st, ho, e1, e2, e3, e4, e5, e6, e7, e8, e9, e10, e11, e12, e13, e14, e15⟩ := wb
      refine WB.keep hs ⟨z, p, l, st, ho, e1, e2, e3, e4, e5, e6, e7, e8, e9, e10, e11, e12, e13, e14, e15⟩ (by simp [delS, su]) (by simp [delS, su]) ⟨st, e9, by rw [← e8]; simp [delS, su]⟩ ?_ (by simpa [delS, su] using e12) (by simpa [delS, su] using e13)
      by_cases e : b' = b
      · have e0 : delS s b i 3 b' 3 = clip (s 3 b 3 + 1) := by rw [e]; simp [delS, su]
        rw [e0, ← e, e10, nI_1]
        obtain ⟨x1, x2⟩ := clip_nI (n := ho + 1) (by omega)
        exact ⟨_, x2, x1⟩
      · exact ⟨ho, e11, by rw [← e10]; simp [delS, su, e]⟩
    · rw [delS_car w4 w5 (by omega) hi h b' (by omega)]
      by_cases e : b' = b
      · rw [if_pos e, ← e, hcc]
        have : 0 < c := by
          rcases Nat.eq_zero_or_pos c with z | z
          · exfalso; apply hc; rw [← e, hcc, z]; exact Int32.le_refl _
          · exact z
        exact ⟨c - 1, by omega, by rw [show c = (c - 1) + 1 by omega, nI_pred]; rfl⟩
      · rw [if_neg e]; exact ⟨c, hc3, hcc⟩
  · obtain ⟨l1, l2, l3, l4, l5⟩ := w9 j hj
    by_cases e : j = i
    · subst e
      have a1 := l4 (by rw [h]; exact nI_m1 (by omega))
      have x0 : delS s b j 5 j 0 = s 5 j 0 := by simp [delS, su]
      have x1 : delS s b j 5 j 1 = -1 := by rw [← a1.1]; simp [delS, su]
      have x2 : delS s b j 5 j 2 = -1 := by simp [delS, su]
      have x3 : delS s b j 5 j 3 = nI q := by rw [← w6]; simp [delS, su]
      unfold WL
      rw [x0, x1, x2, x3]
      exact ⟨l1, Or.inl rfl, Or.inl rfl, fun q => absurd rfl q, fun _ => ⟨rfl, rfl⟩, Or.inr ⟨q, w7, rfl⟩⟩
    · have x : ∀ k, delS s b i 5 j k = s 5 j k := fun k => by simp [delS, su, e]
      unfold WL
      rw [x, x, x, x]
      exact ⟨l1, l2, l3, l4, l5⟩
end
section
/-! PURE: one cell put; handing over -/
theorem CI.step {a0 F n1 n2 n3 n4 q q' : Nat} {g h : g_H} {s t : Sg} (c : CI a0 F g s n1 n2 n3 n4 q) (f : Fr F g h) (hs : Same s t) (w : WF t n1 n2 n3 n4 q') (r : RD a0 F h t n3 n4) : CI a0 F h t n1 n2 n3 n4 q' := ⟨w, c.2.1.fr f hs c.1.2.2.1 c.1.1.2.2.2.1, r⟩
theorem su_T {s : Sg} {t i k t' : Nat} {v : Int32} (h : t' ≠ t) : su s t i k v t' = s t' := funext fun _ => funext fun _ => su_t h
theorem R7.l {F n4 i k : Nat} {g : g_H} {s : Sg} {v : Int32} (r : R7 F g s n4) : R7 F (gPI g (F + 33 + i) k v) (su s 5 i k v) n4 := by
  intro j hj k' hk
  rw [gI_PI]
  by_cases e : j = i
  · subst e
    rw [if_pos rfl]
    by_cases e' : k' = k
    · subst e'; rw [if_pos rfl]; exact su_s.symm
    · rw [if_neg e', su_k e']; exact r j hj k' hk
  · rw [if_neg (by omega), su_i e]; exact r j hj k' hk
theorem R7.o {F n4 a k : Nat} {g : g_H} {s t : Sg} {v : Int32} (r : R7 F g s n4) (h : ∀ j, j < n4 → F + 33 + j ≠ a) (ht : t 5 = s 5) : R7 F (gPI g a k v) t n4 := by
  intro j hj k' hk
  rw [gI_PI, if_neg (h j hj), ht]; exact r j hj k' hk
def fld (k k' : Nat) : Prop := (k = 2 ∧ k' = 0) ∨ (k = 3 ∧ k' = 1) ∨ (k = 4 ∧ k' = 2) ∨ (k = 5 ∧ k' = 3) ∨ (k = 7 ∧ k' = 4) ∨ (k = 8 ∧ k' = 6) ∨ (k = 9 ∧ k' = 7)
theorem R3.b {a0 F n3 b k k' : Nat} {g : g_H} {s : Sg} {v : Int32} (r : R3 a0 F g s n3) (h : fld k k') : R3 a0 F (gPI g (F + 2 + 5 * b) k v) (su s 3 b k' v) n3 := by
  intro b' hb'
  obtain ⟨x1, x2, x3, x4, x5, x6, x7, x8, x9⟩ := r b' hb'
  by_cases e : b' = b
  · subst e
    rcases h with ⟨rfl, rfl⟩ | ⟨rfl, rfl⟩ | ⟨rfl, rfl⟩ | ⟨rfl, rfl⟩ | ⟨rfl, rfl⟩ | ⟨rfl, rfl⟩ | ⟨rfl, rfl⟩ <;> simp [gI_PI, gR_PI, su, x1, x2, x3, x4, x5, x6, x7, x8, x9]
  · have e1 : F + 2 + 5 * b' ≠ F + 2 + 5 * b := by omega
    simp only [gI_PI, gR_PI, if_neg e1, su_i e]
    exact ⟨x1, x2, x3, x4, x5, x6, x7, x8, x9⟩
theorem R3.c {a0 F n3 b : Nat} {g : g_H} {s : Sg} {v : Int32} (r : R3 a0 F g s n3) : R3 a0 F (gPI g (F + 2 + 5 * b) 6 v) s n3 := by
  intro b' hb'
  obtain ⟨x1, x2, x3, x4, x5, x6, x7, x8, x9⟩ := r b' hb'
  simp [gI_PI, gR_PI, x1, x2, x3, x4, x5, x6, x7, x8, x9]
theorem R3.o {a0 F n3 a k : Nat} {g : g_H} {s t : Sg} {v : Int32} (r : R3 a0 F g s n3) (h : ∀ b, b < n3 → F + 2 + 5 * b ≠ a) (ht : t 3 = s 3) : R3 a0 F (gPI g a k v) t n3 := by
  intro b hb
  simp only [gI_PI, gR_PI, if_neg (h b hb), ht]
  exact r b hb
theorem R2.o {F a k : Nat} {g : g_H} {s t : Sg} {v : Int32} (r : R2 F g s) (h : F ≠ a) (ht : t 0 = s 0) : R2 F (gPI g a k v) t := by
  unfold R2
  simp only [gI_PI, if_neg h, ht]
  exact r
theorem R2.c {F : Nat} {g : g_H} {s : Sg} {v : Int32} (r : R2 F g s) : R2 F (gPI g F 6 v) s := by
  unfold R2
  simp only [gI_PI]
  exact r
theorem clE {a0 F n1 n2 n3 n4 q b : Nat} {g : g_H} {s : Sg} (c : CI a0 F g s n1 n2 n3 n4 q) (hb : b < n3) {to : Int32} (ht : inR (nI n1) to) : f4_targetFor g (a0 + 46 + 5 * b) to = some (tg s b to, g) := by
  obtain ⟨⟨⟨w1, w2, -⟩, w3, w4, -⟩, ⟨-, -, -, r3, -, r5⟩, -⟩ := c
  rw [p_targetFor (r3 b (by omega))]
  obtain ⟨j, hj, rfl⟩ := inR_nat (by omega) ht
  have c1 : inR (14 : Int32) (nI j) := inR_of (n := 14) (by omega) (by omega)
  rw [if_pos c1, show cl (nI j) = j from cl_nI (by omega), show a0 + 46 + 5 * b + 3 = a0 + 49 + 5 * b by omega]
  rw [(r5 b hb).2.2.2 j (by omega)]
theorem clB {a0 F n1 n2 n3 n4 q b : Nat} {g : g_H} {s : Sg} (c : CI a0 F g s n1 n2 n3 n4 q) (hb : b < n3) : (gS g F).1 = 2 ∧ gI g F 4 = nI n4 ∧ gI g F 5 = s 0 0 0 ∧ gI g F 6 = arr s ∧ gR g F 0 = some (a0 + 1) ∧ gR g F 1 = some (F + 1) ∧ gR g F 2 = some (F + 32) ∧ gS g (F + 1) = (15, 6) ∧ gS g (F + 32) = (17, 20) ∧ gR g (F + 1) b = some (F + 2 + 5 * b) ∧ (gS g (F + 2 + 5 * b)).1 = 1 ∧
    gR g (F + 2 + 5 * b) 1 = some (a0 + 46 + 5 * b) ∧ gI g (F + 2 + 5 * b) 0 = nI b ∧ gI g (F + 2 + 5 * b) 6 = car s b ∧ RtL (a0 + 46 + 5 * b) g ∧ (gS g (a0 + 46 + 5 * b)).1 = 5 ∧ (gS g (a0 + 1)).1 = 6 ∧ n3 ≤ 6 ∧ n4 ≤ 20 ∧ (F = a0 + 43 ∨ F = a0 + 96) := by
  obtain ⟨⟨w1, w2, w3, w4, w5, w6, w7, w8, w9⟩, ⟨r0, ⟨t1, -⟩, ⟨f1, f2, f3, f4, f5, f6, f7, f8⟩, r3, r4, r5⟩, ⟨d1, d2, d3, d4, d5⟩⟩ := c
  obtain ⟨x1, x2, x3, x4, x5, x6, x7, x8, x9⟩ := d2 b hb
  exact ⟨f1, d1.2.1.trans w4, d1.2.2, d4, f2, f3, f4, f5, f6, (f7 b (by omega)).1, (f7 b (by omega)).2, x1, x2, d3 b hb, r3 b (by omega), (r3 b (by omega)).1, t1, w3, w5, r0⟩
theorem clL {a0 F n1 n2 n3 n4 q i : Nat} {g : g_H} {s : Sg} (c : CI a0 F g s n1 n2 n3 n4 q) (hi : i < n4) : gR g (F + 32) i = some (F + 33 + i) ∧ (gS g (F + 33 + i)).1 = 4 ∧ ∀ k, k < 5 → gI g (F + 33 + i) k = s 5 i k := by
  obtain ⟨⟨w1, w2, w3, w4, w5, w6, w7, w8, w9⟩, ⟨r0, r1, ⟨f1, f2, f3, f4, f5, f6, f7, f8⟩, r3, r4, r5⟩, ⟨d1, d2, d3, d4, d5⟩⟩ := c
  exact ⟨(f8 i (by omega)).1, (f8 i (by omega)).2, d5 i hi⟩
theorem WF.lay {s : Sg} {n1 n2 n3 n4 q b i : Nat} {here : Int32} (w : WF s n1 n2 n3 n4 q) (hb : b < n3) (hi : i < n4) (h : s 5 i 2 = nI b) (hc : ¬ car s b ≤ 0) (hh : inR (nI n1) here) : WF (layS s i here) n1 n2 n3 n4 q := by
  obtain ⟨w1, w2, w3, w4, w5, w6, w7, w8, w9⟩ := w
  have hs := layS_same (s := s) (i := i) (here := here)
  refine ⟨w1.same hs, (hs.1 3 (by omega)).trans w2, w3, (hs.1 4 (by omega)).trans w4, w5, ?_, w7, fun b' hb' => ?_, fun j hj => ?_⟩
  · rw [← w6]; simp [layS, su]
  · obtain ⟨wb, c, hc3, hcc⟩ := w8 b' hb'
    refine ⟨?_, ?_⟩
    · obtain ⟨z, p, l, st, ho, e1, e2, e3, e4, e5, e6, e7, e8, e9, e10, e11, e12, e13, e14, e15⟩ := wb
      refine WB.keep hs ⟨z, p, l, st, ho, e1, e2, e3, e4, e5, e6, e7, e8, e9, e10, e11, e12, e13, e14, e15⟩ (by simp [layS, su]) (by simp [layS, su]) ⟨st, e9, by rw [← e8]; simp [layS, su]⟩ ⟨ho, e11, by rw [← e10]; simp [layS, su]⟩ (by simpa [layS, su] using e12) (by simpa [layS, su] using e13)
    · rw [layS_car w4 w5 (by omega) hi h b' (by omega)]
      by_cases e : b' = b
      · rw [if_pos e, ← e, hcc]
        have : 0 < c := by
          rcases Nat.eq_zero_or_pos c with z | z
          · exfalso; apply hc; rw [← e, hcc, z]; exact Int32.le_refl _
          · exact z
        exact ⟨c - 1, by omega, by rw [show c = (c - 1) + 1 by omega, nI_pred]; rfl⟩
      · rw [if_neg e]; exact ⟨c, hc3, hcc⟩
  · obtain ⟨l1, l2, l3, l4, l5⟩ := w9 j hj
    by_cases e : j = i
    · subst e
      have a1 := l4 (by rw [h]; exact nI_m1 (by omega))
      have x0 : layS s j here 5 j 0 = s 5 j 0 := by simp [layS, su]
      have x1 : layS s j here 5 j 1 = here := by simp [layS, su]
      have x2 : layS s j here 5 j 2 = -1 := by simp [layS, su]
      have x3 : layS s j here 5 j 3 = -1 := by rw [← a1.2]; simp [layS, su]
      unfold WL
      rw [x0, x1, x2, x3]
      exact ⟨l1, Or.inr hh, Or.inl rfl, fun q => absurd rfl q, fun q => absurd rfl q, Or.inl rfl⟩
    · have x : ∀ k, layS s i here 5 j k = s 5 j k := fun k => by simp [layS, su, e]
      unfold WL
      rw [x, x, x, x]
      exact ⟨l1, l2, l3, l4, l5⟩
theorem WF.take {s : Sg} {n1 n2 n3 n4 q b i : Nat} (w : WF s n1 n2 n3 n4 q) (hb : b < n3) (hi : i < n4) (h : s 5 i 1 ≠ -1) (hc : ¬ (3 : Int32) ≤ car s b) : WF (takeS s b i) n1 n2 n3 n4 q := by
  obtain ⟨w1, w2, w3, w4, w5, w6, w7, w8, w9⟩ := w
  have hs := takeS_same (s := s) (b := b) (i := i)
  have h2 : s 5 i 2 = -1 := by
    by_cases e : s 5 i 2 = -1
    · exact e
    · exact absurd ((w9 i hi).2.2.2.1 e).1 h
  have h3 : s 5 i 3 = -1 := by
    by_cases e : s 5 i 3 = -1
    · exact e
    · exact absurd ((w9 i hi).2.2.2.2.1 e).1 h
  refine ⟨w1.same hs, (hs.1 3 (by omega)).trans w2, w3, (hs.1 4 (by omega)).trans w4, w5, ?_, w7, fun b' hb' => ?_, fun j hj => ?_⟩
  · rw [← w6]; simp [takeS, su]
  · obtain ⟨wb, c, hc3, hcc⟩ := w8 b' hb'
    refine ⟨?_, ?_⟩
    · obtain ⟨z, p, l, st, ho, e1, e2, e3, e4, e5, e6, e7, e8, e9, e10, e11, e12, e13, e14, e15⟩ := wb
      refine WB.keep hs ⟨z, p, l, st, ho, e1, e2, e3, e4, e5, e6, e7, e8, e9, e10, e11, e12, e13, e14, e15⟩ (by simp [takeS, su]) (by simp [takeS, su]) ⟨st, e9, by rw [← e8]; simp [takeS, su]⟩ ⟨ho, e11, by rw [← e10]; simp [takeS, su]⟩ (by simpa [takeS, su] using e12) (by simpa [takeS, su] using e13)
    · rw [takeS_car w4 w5 (by omega) hi h2 b' (by omega)]
      by_cases e : b' = b
      · rw [if_pos e, ← e, hcc, nI_1]
        refine ⟨c + 1, ?_, rfl⟩
        rcases Nat.lt_or_ge c 3 with z | z
        · omega
        · exfalso; apply hc; rw [← e, hcc]; exact nI_le (a := 3) z (by omega)
      · rw [if_neg e]; exact ⟨c, hc3, hcc⟩
  · obtain ⟨l1, l2, l3, l4, l5⟩ := w9 j hj
    by_cases e : j = i
    · subst e
      have x0 : takeS s b j 5 j 0 = s 5 j 0 := by simp [takeS, su]
      have x1 : takeS s b j 5 j 1 = -1 := by simp [takeS, su]
      have x2 : takeS s b j 5 j 2 = nI b := by simp [takeS, su]
      have x3 : takeS s b j 5 j 3 = -1 := by rw [← h3]; simp [takeS, su]
      unfold WL
      rw [x0, x1, x2, x3]
      exact ⟨l1, Or.inl rfl, Or.inr ⟨b, hb, rfl⟩, fun _ => ⟨rfl, rfl⟩, fun q => absurd rfl q, Or.inl rfl⟩
    · have x : ∀ k, takeS s b i 5 j k = s 5 j k := fun k => by simp [takeS, su, e]
      unfold WL
      rw [x, x, x, x]
      exact ⟨l1, l2, l3, l4, l5⟩
end
section
/-! PURE: handing over, the loop -/
theorem hoS_same {s : Sg} {b i : Nat} {here : Int32} : Same s (hoS s b here i) := by
  unfold hoS
  split
  · split
    · exact delS_same
    · split
      · exact layS_same
      · exact Same.rf
  · exact Same.rf
theorem hoF_same {s : Sg} {b n : Nat} {here : Int32} : Same s (hoF s b here n) := by
  induction n with
  | zero => exact Same.rf
  | succ n ih => exact ih.tr hoS_same
theorem hoS_p {s : Sg} {b i b' : Nat} {here : Int32} : (hoS s b here i) 3 b' 0 = s 3 b' 0 ∧ (hoS s b here i) 3 b' 1 = s 3 b' 1 := by
  unfold hoS
  split
  · split
    · simp [su]
    · split
      · simp [su]
      · exact ⟨rfl, rfl⟩
  · exact ⟨rfl, rfl⟩
theorem hoF_p {s : Sg} {b n b' : Nat} {here : Int32} : (hoF s b here n) 3 b' 0 = s 3 b' 0 ∧ (hoF s b here n) 3 b' 1 = s 3 b' 1 := by
  induction n with
  | zero => exact ⟨rfl, rfl⟩
  | succ n ih => exact ⟨hoS_p.1.trans ih.1, hoS_p.2.trans ih.2⟩
theorem hoF_none {s : Sg} {b i n : Nat} {here : Int32} (h : ∀ j, i ≤ j → j < n → (hoF s b here i) 5 j 2 ≠ nI b) (hn : i ≤ n) : hoF s b here n = hoF s b here i := by
  induction n with
  | zero => rw [show i = 0 by omega]
  | succ n ih =>
    by_cases e : i = n + 1
    · rw [e]
    · show hoS (hoF s b here n) b here n = _
      rw [ih (fun j h1 h2 => h j h1 (by omega)) (by omega)]
      exact if_neg (h n (by omega) (by omega))
theorem car0 {s : Sg} {b n4 : Nat} (h : s 0 0 4 = nI n4) (h2 : n4 ≤ 20) (hc : car s b ≤ 0) : ∀ j, j < n4 → s 5 j 2 ≠ nI b := by
  intro j hj e
  obtain ⟨c, h3, h4, h5⟩ := carF_nat s b n4
  rw [car_def h h2, h4] at hc
  exact nI_nle (h5 j hj e) (by omega) hc
theorem CI.house {a0 F n1 n2 n3 n4 q b : Nat} {g : g_H} {s : Sg} (c : CI a0 F g s n1 n2 n3 n4 q) (hb : b < n3) : ∃ z p, s 3 b 5 = nI z ∧ z ≤ 7 ∧ s 3 b 0 = nI p ∧ p < z ∧ gI g (F + 2 + 5 * b) 2 = nI p ∧ gI g (a0 + 46 + 5 * b) 0 = nI z ∧ gI g (a0 + 47 + 5 * b) p = s 4 b p ∧ inR (nI n1) (s 4 b p) := by
  obtain ⟨⟨w1, w2, w3, w4, w5, w6, w7, w8, w9⟩, ⟨r0, r1, r2, r3, r4, r5⟩, ⟨d1, d2, d3, d4, d5⟩⟩ := c
  obtain ⟨⟨z, p, l, st, ho, e1, e2, e3, e4, e5, e6, e7, e8, e9, e10, e11, e12, e13, e14, e15⟩, -⟩ := w8 b hb
  have r6 := r5 b hb
  rw [e1, show cl (nI z) = z from cl_nI (by omega)] at r6
  exact ⟨z, p, e1, e3, e4, e5, (d2 b hb).2.2.1.trans e4, r6.1, r6.2.1 p e5, e14 p e5⟩
theorem clHouse {a0 F n1 n2 n3 n4 q b : Nat} {g : g_H} {s : Sg} (c : CI a0 F g s n1 n2 n3 n4 q) (hb : b < n3) : f0_house g (F + 2 + 5 * b) = some (s 4 b (cl (s 3 b 0)), g) := by
  obtain ⟨b1, b2, b3, b4, b5, b6, b7, b8, b9, b10, b11, b12, b13, b14, b15, b16, b17, b18, b19, b20⟩ := clB c hb
  obtain ⟨z, p, h1, h2, h3, h4, h5, h6, h7, h8⟩ := c.house hb
  rw [p_house b11 b12 b15 h6 h2, h5, if_pos (inR_of (by omega) h4), h3, show cl (nI p) = p from cl_nI (by omega), show a0 + 46 + 5 * b + 1 = a0 + 47 + 5 * b by omega, h7]
theorem clDel {a0 F n1 n2 n3 n4 q b i : Nat} {g : g_H} {s : Sg} (c : CI a0 F g s n1 n2 n3 n4 q) (hb : b < n3) (hi : i < n4) (h : s 5 i 2 = nI b) (hc : ¬ car s b ≤ 0) :
    ∃ h1 h2, f0_deliver g (F + 2 + 5 * b) (F + 33 + i) (s 0 0 0) = some h1 ∧ h2 = gPI h1 F 6 (gI h1 F 6 + 1) ∧ (gS h1 F).1 = 2 ∧ Fr F g h2 ∧ CI a0 F h2 (delS s b i) n1 n2 n3 n4 q := by
  obtain ⟨b1, b2, b3, b4, b5, b6, b7, b8, b9, b10, b11, b12, b13, b14, b15, b16, b17, b18, b19, b20⟩ := clB c hb
  obtain ⟨l1, l2, l3⟩ := clL c hi
  have c' := c
  obtain ⟨w, rs, ⟨d1, d2, d3, d4, d5⟩⟩ := c
  have hne : F + 2 + 5 * b ≠ F + 33 + i := by omega
  have e8 : gI g (F + 2 + 5 * b) 8 = s 3 b 6 := (d2 b hb).2.2.2.2.2.2.2.1
  have e5 : gI g (F + 2 + 5 * b) 5 = s 3 b 3 := (d2 b hb).2.2.2.2.2.1
  have cb : chg F (F + 2 + 5 * b) := Or.inr (Or.inl ⟨b, by omega, rfl⟩)
  have cL : chg F (F + 33 + i) := Or.inr (Or.inr ⟨i, by omega, rfl⟩)
  have cF : chg F F := Or.inl rfl
  have hF : F ≠ F + 2 + 5 * b := by omega
  have hF' : F ≠ F + 33 + i := by omega
  have hfr : Fr F g (gPI (gPI (gPI (gPI (gPI (gPI g (F + 33 + i) 2 (-1)) (F + 33 + i) 3 (s 0 0 0)) (F + 2 + 5 * b) 6 (gI g (F + 2 + 5 * b) 6 - 1)) (F + 2 + 5 * b) 8 (gI g (F + 2 + 5 * b) 8 + 1)) (F + 2 + 5 * b) 5 (clip (gI g (F + 2 + 5 * b) 5 + 1))) F 6 (gI g F 6 + 1)) :=
    (((((Fr.put cL (Or.inr (by omega))).tr (Fr.put cL (Or.inr (by omega)))).tr (Fr.put cb (Or.inr (by omega)))).tr (Fr.put cb (Or.inl hF.symm))).tr (Fr.put cb (Or.inr (by omega)))).tr (Fr.put cF (Or.inr (by omega)))
  refine ⟨_, _, p_deliver b11 l2 hne _, rfl, b1, ?_, ?_⟩
  · simpa [gI_PI, hF, hF'] using hfr
  · have eF : gI (gPI (gPI (gPI (gPI (gPI g (F + 33 + i) 2 (-1)) (F + 33 + i) 3 (s 0 0 0)) (F + 2 + 5 * b) 6 (gI g (F + 2 + 5 * b) 6 - 1)) (F + 2 + 5 * b) 8 (gI g (F + 2 + 5 * b) 8 + 1)) (F + 2 + 5 * b) 5 (clip (gI g (F + 2 + 5 * b) 5 + 1))) F 6 = gI g F 6 := by simp [gI_PI, hF, hF']
    rw [eF]
    refine c'.step hfr delS_same (w.del hb hi h hc) ⟨?_, ?_, ?_, ?_, ?_⟩
    · exact R2.c (R2.o (R2.o (R2.o (R2.o (R2.o d1 hF' (su_T (by omega))) hF' (su_T (by omega))) hF rfl) hF (su_T (by omega))) hF (su_T (by omega)))
    · rw [e8, e5]
      have q1 : R3 a0 F (gPI g (F + 33 + i) 2 (-1)) (su s 5 i 2 (-1)) n3 := R3.o d2 (fun b' _ => by omega) (su_T (by omega))
      have q2 : R3 a0 F (gPI (gPI g (F + 33 + i) 2 (-1)) (F + 33 + i) 3 (s 0 0 0)) (su (su s 5 i 2 (-1)) 5 i 3 (s 0 0 0)) n3 := R3.o q1 (fun b' _ => by omega) (su_T (by omega))
      have q3 := R3.c (b := b) (v := gI g (F + 2 + 5 * b) 6 - 1) q2
      have q4 := R3.b (b := b) (k := 8) (k' := 6) (v := s 3 b 6 + 1) q3 (by unfold fld; omega)
      have q5 := R3.b (b := b) (k := 5) (k' := 3) (v := clip (s 3 b 3 + 1)) q4 (by unfold fld; omega)
      exact R3.o q5 (fun b' _ => by omega) rfl
    · intro b' hb'
      have hn4 := w.2.2.2.1
      rw [delS_car hn4 b19 (by omega) hi h b' (by omega)]
      by_cases e : b' = b
      · subst e
        simp [gI_PI, hF.symm, hne, b14]
      · have e1 : F + 2 + 5 * b' ≠ F + 2 + 5 * b := by omega
        have e2 : F + 2 + 5 * b' ≠ F := by omega
        have e3 : F + 2 + 5 * b' ≠ F + 33 + i := by omega
        rw [if_neg e, gI_PI, if_neg e2, gI_PI, if_neg e1, gI_PI, if_neg e1, gI_PI, if_neg e1, gI_PI, if_neg e3, gI_PI, if_neg e3]
        exact d3 b' hb'
    · show gI _ F 6 = _
      rw [gI_PI, if_pos rfl, if_pos rfl, b4]
      have hn4 := w.2.2.2.1
      have e4 : (delS s b i) 0 0 4 = nI n4 := (delS_same.1 4 (by omega)).trans hn4
      rw [arr_def e4 b19, arr_def hn4 b19]
      refine (arrF_more hi ?_ ?_ ?_).symm
      · exact (w.2.2.2.2.2.2.2.2 i hi).2.2.2.1 (by rw [h]; exact nI_m1 (by omega)) |>.2
      · have : delS s b i 5 i 3 = s 0 0 0 := by simp [delS, su]
        rw [this, w.2.2.2.2.2.1]
        exact nI_m1 (by have := w.2.2.2.2.2.2.1; omega)
      · intro j _ hj
        simp [delS, su, hj]
    · have q1 := R7.l (i := i) (k := 2) (v := -1) d5
      have q2 := R7.l (i := i) (k := 3) (v := s 0 0 0) q1
      have q3 := R7.o (a := F + 2 + 5 * b) (k := 6) (v := gI g (F + 2 + 5 * b) 6 - 1) q2 (fun j _ => by omega) rfl
      have q4 : R7 F _ (su (su (su s 5 i 2 (-1)) 5 i 3 (s 0 0 0)) 3 b 6 (s 3 b 6 + 1)) n4 := R7.o (a := F + 2 + 5 * b) (k := 8) (v := gI g (F + 2 + 5 * b) 8 + 1) q3 (fun j _ => by omega) (su_T (by omega))
      have q5 : R7 F _ (delS s b i) n4 := R7.o (a := F + 2 + 5 * b) (k := 5) (v := clip (gI g (F + 2 + 5 * b) 5 + 1)) q4 (fun j _ => by omega) (su_T (by omega))
      exact R7.o q5 (fun j _ => by omega) rfl
theorem clLay {a0 F n1 n2 n3 n4 q b i : Nat} {g : g_H} {s : Sg} (c : CI a0 F g s n1 n2 n3 n4 q) (hb : b < n3) (hi : i < n4) (h : s 5 i 2 = nI b) (hc : ¬ car s b ≤ 0) :
    ∃ h1, f0_layDown g (F + 2 + 5 * b) (F + 33 + i) = some h1 ∧ Fr F g h1 ∧ CI a0 F h1 (layS s i (s 4 b (cl (s 3 b 0)))) n1 n2 n3 n4 q := by
  obtain ⟨b1, b2, b3, b4, b5, b6, b7, b8, b9, b10, b11, b12, b13, b14, b15, b16, b17, b18, b19, b20⟩ := clB c hb
  obtain ⟨l1, l2, l3⟩ := clL c hi
  obtain ⟨z, p, h1, h2, h3, h4, h5, h6, h7, h8⟩ := c.house hb
  have c' := c
  obtain ⟨w, rs, ⟨d1, d2, d3, d4, d5⟩⟩ := c
  have hne : F + 2 + 5 * b ≠ F + 33 + i := by omega
  have cb : chg F (F + 2 + 5 * b) := Or.inr (Or.inl ⟨b, by omega, rfl⟩)
  have cL : chg F (F + 33 + i) := Or.inr (Or.inr ⟨i, by omega, rfl⟩)
  have hF : F ≠ F + 2 + 5 * b := by omega
  have hF' : F ≠ F + 33 + i := by omega
  have e0 : s 4 b (cl (s 3 b 0)) = s 4 b p := by rw [h3, show cl (nI p) = p from cl_nI (by omega)]
  have eh : gI g (a0 + 46 + 5 * b + 1) (cl (gI g (F + 2 + 5 * b) 2)) = s 4 b p := by rw [h5, show cl (nI p) = p from cl_nI (by omega), show a0 + 46 + 5 * b + 1 = a0 + 47 + 5 * b by omega, h7]
  rw [e0]
  have hfr : Fr F g (gPI (gPI (gPI g (F + 33 + i) 2 (-1)) (F + 33 + i) 1 (s 4 b p)) (F + 2 + 5 * b) 6 (gI g (F + 2 + 5 * b) 6 - 1)) :=
    ((Fr.put cL (Or.inr (by omega))).tr (Fr.put cL (Or.inr (by omega)))).tr (Fr.put cb (Or.inr (by omega)))
  refine ⟨_, ?_, hfr, ?_⟩
  · rw [p_layDown b11 l2 hne b12 b15 h6 h2 (by omega) (by omega) (by rw [h5]; exact inR_of (by omega) h4), eh]
  · refine c'.step hfr layS_same (w.lay hb hi h hc h8) ⟨?_, ?_, ?_, ?_, ?_⟩
    · exact R2.o (R2.o (R2.o d1 hF' (su_T (by omega))) hF' (su_T (by omega))) hF rfl
    · have q1 : R3 a0 F (gPI g (F + 33 + i) 2 (-1)) (su s 5 i 2 (-1)) n3 := R3.o d2 (fun b' _ => by omega) (su_T (by omega))
      have q2 : R3 a0 F (gPI (gPI g (F + 33 + i) 2 (-1)) (F + 33 + i) 1 (s 4 b p)) (layS s i (s 4 b p)) n3 := R3.o q1 (fun b' _ => by omega) (su_T (by omega))
      exact R3.c q2
    · intro b' hb'
      rw [layS_car w.2.2.2.1 b19 (by omega) hi h b' (by omega)]
      by_cases e : b' = b
      · subst e
        simp [gI_PI, b14]
      · have e1 : F + 2 + 5 * b' ≠ F + 2 + 5 * b := by omega
        have e3 : F + 2 + 5 * b' ≠ F + 33 + i := by omega
        rw [if_neg e, gI_PI, if_neg e1, gI_PI, if_neg e3, gI_PI, if_neg e3]
        exact d3 b' hb'
    · show gI _ F 6 = _
      have hn4 := w.2.2.2.1
      have e4 : (layS s i (s 4 b p)) 0 0 4 = nI n4 := (layS_same.1 4 (by omega)).trans hn4
      rw [gI_PI, if_neg hF, gI_PI, if_neg hF', gI_PI, if_neg hF', b4, arr_def e4 b19, arr_def hn4 b19]
      refine (arrF_keep fun j _ => ?_).symm
      simp [layS, su]
    · have q1 := R7.l (i := i) (k := 2) (v := -1) d5
      have q2 := R7.l (i := i) (k := 1) (v := s 4 b p) q1
      exact R7.o q2 (fun j _ => by omega) rfl
end
section
/-! PURE: handing over and collecting, the loops -/
theorem i_ok {n i : Nat} (h : i < n) (hn : n < 2 ^ 31) : ¬ (nI i < 0 ∨ n ≤ Int32.toNatClampNeg (nI i)) := nI_in h hn
theorem p_hoStep {a0 F n1 n2 n3 n4 q b i : Nat} {g : g_H} {s : Sg} (c : CI a0 F g s n1 n2 n3 n4 q) (hb : b < n3) (hi : i < n4) (hc : ¬ car s b ≤ 0) :
    ∃ g', (∀ K, f1_handOver_2b K g F (F + 2 + 5 * b) (s 4 b (cl (s 3 b 0))) (nI i) = K g' F (F + 2 + 5 * b) (s 4 b (cl (s 3 b 0))) (nI i + 1)) ∧ Fr F g g' ∧ CI a0 F g' (hoS s b (s 4 b (cl (s 3 b 0))) i) n1 n2 n3 n4 q := by
  obtain ⟨b1, b2, b3, b4, b5, b6, b7, b8, b9, b10, b11, b12, b13, b14, b15, b16, b17, b18, b19, b20⟩ := clB c hb
  obtain ⟨l1, l2, l3⟩ := clL c hi
  have hlt : ¬ nI n4 ≤ nI i := nI_ge hi (by omega)
  have hix : ¬ (nI i < 0 ∨ 20 ≤ Int32.toNatClampNeg (nI i)) := nI_in (by omega) (by omega)
  have ci : Int32.toNatClampNeg (nI i) = i := cl_nI (by omega)
  have e0 : gI g (F + 33 + i) 0 = s 5 i 0 := l3 0 (by omega)
  have e2 : gI g (F + 33 + i) 2 = s 5 i 2 := l3 2 (by omega)
  have hto : inR (nI n1) (s 5 i 0) := (c.1.2.2.2.2.2.2.2.2 i hi).1
  by_cases h : s 5 i 2 = nI b
  · by_cases h' : s 5 i 0 = s 4 b (cl (s 3 b 0))
    · obtain ⟨h1, h2, x1, x2, x3, x4, x5⟩ := clDel c hb hi h hc
      refine ⟨h2, fun K => ?_, x4, ?_⟩
      · unfold f1_handOver_2b f1_handOver_91 gLt
        rw [if_pos b1, b2, if_neg hlt, if_pos b11, b14, if_neg hc, b7]
        show (if (gS g (F + 32)).fst = 17 then _ else _) = _
        rw [b9, if_pos rfl]
        show (if ¬ (nI i < 0 ∨ 20 ≤ Int32.toNatClampNeg (nI i)) then _ else _) = _
        rw [if_pos hix, ci, l1]
        show (if (gS g (F + 33 + i)).fst = 4 then _ else _) = _
        rw [if_pos l2, e2, b13, if_pos h, e0, if_pos h', b3, x1]
        show (if (gS h1 F).fst = 2 then _ else _) = _
        rw [if_pos x3, x2]
      · unfold hoS
        rw [if_pos h, if_pos h']
        exact x5
    · by_cases h'' : tg s b (s 5 i 0) = s 4 b (cl (s 3 b 0))
      · obtain ⟨h1, x1, x4, x5⟩ := clLay c hb hi h hc
        refine ⟨h1, fun K => ?_, x4, ?_⟩
        · unfold f1_handOver_2b f1_handOver_91
          rw [if_pos b1, b2, if_neg hlt, if_pos b11, b14, if_neg hc, b7]
          show (if (gS g (F + 32)).fst = 17 then _ else _) = _
          rw [b9, if_pos rfl]
          show (if ¬ (nI i < 0 ∨ 20 ≤ Int32.toNatClampNeg (nI i)) then _ else _) = _
          rw [if_pos hix, ci, l1]
          show (if (gS g (F + 33 + i)).fst = 4 then _ else _) = _
          rw [if_pos l2, e2, b13, if_pos h, e0, if_neg h', b12]
          show (if (gS g (a0 + 46 + 5 * b)).fst = 5 then _ else _) = _
          rw [if_pos b16, clE c hb hto]
          show (if tg s b (s 5 i 0) = _ then _ else _) = _
          rw [if_pos h'', if_pos b11, x1]
          rfl
        · unfold hoS
          rw [if_pos h, if_neg h', if_pos h'']
          exact x5
      · refine ⟨g, fun K => ?_, Fr.rf, ?_⟩
        · unfold f1_handOver_2b f1_handOver_91
          rw [if_pos b1, b2, if_neg hlt, if_pos b11, b14, if_neg hc, b7]
          show (if (gS g (F + 32)).fst = 17 then _ else _) = _
          rw [b9, if_pos rfl]
          show (if ¬ (nI i < 0 ∨ 20 ≤ Int32.toNatClampNeg (nI i)) then _ else _) = _
          rw [if_pos hix, ci, l1]
          show (if (gS g (F + 33 + i)).fst = 4 then _ else _) = _
          rw [if_pos l2, e2, b13, if_pos h, e0, if_neg h', b12]
          show (if (gS g (a0 + 46 + 5 * b)).fst = 5 then _ else _) = _
          rw [if_pos b16, clE c hb hto]
          show (if tg s b (s 5 i 0) = _ then _ else _) = _
          rw [if_neg h'']
        · unfold hoS
          rw [if_pos h, if_neg h', if_neg h'']
          exact c
  · refine ⟨g, fun K => ?_, Fr.rf, ?_⟩
    · unfold f1_handOver_2b f1_handOver_91
      rw [if_pos b1, b2, if_neg hlt, if_pos b11, b14, if_neg hc, b7]
      show (if (gS g (F + 32)).fst = 17 then _ else _) = _
      rw [b9, if_pos rfl]
      show (if ¬ (nI i < 0 ∨ 20 ≤ Int32.toNatClampNeg (nI i)) then _ else _) = _
      rw [if_pos hix, ci, l1]
      show (if (gS g (F + 33 + i)).fst = 4 then _ else _) = _
      rw [if_pos l2, e2, b13, if_neg h]
    · unfold hoS
      rw [if_neg h]
      exact c
theorem p_hoLoop {a0 F n1 n2 n3 n4 q b : Nat} {s0 : Sg} (hb : b < n3) {here : Int32} (hh : here = s0 4 b (cl (s0 3 b 0))) :
    ∀ m i fuel : Nat, ∀ g : g_H, i + m = n4 → m < fuel → CI a0 F g (hoF s0 b here i) n1 n2 n3 n4 q →
    ∃ g', f1_handOver_2 fuel g F (F + 2 + 5 * b) here (nI i) = some g' ∧ Fr F g g' ∧ CI a0 F g' (hoF s0 b here n4) n1 n2 n3 n4 q := by
  intro m
  induction m with
  | zero =>
    intro i fuel g him hf c
    obtain ⟨fu, rfl⟩ : ∃ fu, fuel = fu + 1 := ⟨fuel - 1, by omega⟩
    obtain ⟨b1, b2, -⟩ := clB c hb
    have : i = n4 := by omega
    subst this
    refine ⟨g, ?_, Fr.rf, c⟩
    show f1_handOver_2b _ g F (F + 2 + 5 * b) here (nI i) = _
    unfold f1_handOver_2b
    rw [if_pos b1, b2, if_pos (Int32.le_refl _)]
  | succ m ih =>
    intro i fuel g him hf c
    obtain ⟨fu, rfl⟩ : ∃ fu, fuel = fu + 1 := ⟨fuel - 1, by omega⟩
    by_cases hc : car (hoF s0 b here i) b ≤ 0
    · obtain ⟨b1, b2, b3, b4, b5, b6, b7, b8, b9, b10, b11, b12, b13, b14, b15, b16, b17, b18, b19, b20⟩ := clB c hb
      refine ⟨g, ?_, Fr.rf, ?_⟩
      · show f1_handOver_2b _ g F (F + 2 + 5 * b) here (nI i) = _
        unfold f1_handOver_2b
        rw [if_pos b1, b2, if_neg (nI_ge (by omega) (by omega)), if_pos b11, b14, if_pos hc]
      · have h0 := car0 c.1.2.2.2.1 b19 hc
        rw [hoF_none (i := i) (fun j _ h2 => h0 j h2) (by omega)]
        exact c
    · have hp := hoF_p (s := s0) (b := b) (n := i) (b' := b) (here := here)
      have e0 : (hoF s0 b here i) 4 b (cl ((hoF s0 b here i) 3 b 0)) = here := by
        rw [hp.1, (hoF_same (s := s0) (b := b) (n := i) (here := here)).2.2.2.1, hh]
      obtain ⟨g1, x1, x2, x3⟩ := p_hoStep c hb (show i < n4 by omega) hc
      rw [e0] at x1 x3
      obtain ⟨g2, y1, y2, y3⟩ := ih (i + 1) fu g1 (by omega) (by omega) x3
      refine ⟨g2, ?_, x2.tr y2, y3⟩
      show f1_handOver_2b (f1_handOver_2 fu) g F (F + 2 + 5 * b) here (nI i) = _
      rw [x1, nI_1]
      exact y1
theorem p_handOver {a0 F n1 n2 n3 n4 q b : Nat} {g : g_H} {s : Sg} (c : CI a0 F g s n1 n2 n3 n4 q) (hb : b < n3) {here : Int32} (hh : here = s 4 b (cl (s 3 b 0))) :
    ∃ g', f1_handOver g F (F + 2 + 5 * b) here = some g' ∧ Fr F g g' ∧ CI a0 F g' (hoF s b here n4) n1 n2 n3 n4 q := by
  obtain ⟨b1, b2, b3, b4, b5, b6, b7, b8, b9, b10, b11, b12, b13, b14, b15, b16, b17, b18, b19, b20⟩ := clB c hb
  exact p_hoLoop hb hh n4 0 300 g (by omega) (by omega) c
theorem clTake {a0 F n1 n2 n3 n4 q b i : Nat} {g : g_H} {s : Sg} (c : CI a0 F g s n1 n2 n3 n4 q) (hb : b < n3) (hi : i < n4) (h : s 5 i 1 ≠ -1) (hc : ¬ (3 : Int32) ≤ car s b) :
    ∃ h1, f0_take g (F + 2 + 5 * b) (F + 33 + i) = some h1 ∧ Fr F g h1 ∧ CI a0 F h1 (takeS s b i) n1 n2 n3 n4 q := by
  obtain ⟨b1, b2, b3, b4, b5, b6, b7, b8, b9, b10, b11, b12, b13, b14, b15, b16, b17, b18, b19, b20⟩ := clB c hb
  obtain ⟨l1, l2, l3⟩ := clL c hi
  have c' := c
  obtain ⟨w, rs, ⟨d1, d2, d3, d4, d5⟩⟩ := c
  have hne : F + 2 + 5 * b ≠ F + 33 + i := by omega
  have cb : chg F (F + 2 + 5 * b) := Or.inr (Or.inl ⟨b, by omega, rfl⟩)
  have cL : chg F (F + 33 + i) := Or.inr (Or.inr ⟨i, by omega, rfl⟩)
  have hF : F ≠ F + 2 + 5 * b := by omega
  have hF' : F ≠ F + 33 + i := by omega
  have e4 : gI g (F + 33 + i) 4 = s 5 i 4 := l3 4 (by omega)
  have h2 : s 5 i 2 = -1 := by
    by_cases e : s 5 i 2 = -1
    · exact e
    · exact absurd ((w.2.2.2.2.2.2.2.2 i hi).2.2.2.1 e).1 h
  have hfr : Fr F g (gPI (gPI (gPI (gPI g (F + 33 + i) 1 (-1)) (F + 33 + i) 2 (nI b)) (F + 33 + i) 4 (s 5 i 4 + 1)) (F + 2 + 5 * b) 6 (gI g (F + 2 + 5 * b) 6 + 1)) :=
    (((Fr.put cL (Or.inr (by omega))).tr (Fr.put cL (Or.inr (by omega)))).tr (Fr.put cL (Or.inr (by omega)))).tr (Fr.put cb (Or.inr (by omega)))
  refine ⟨_, ?_, hfr, ?_⟩
  · rw [p_take b11 l2 hne, b13, e4]
  · refine c'.step hfr takeS_same (w.take hb hi h hc) ⟨?_, ?_, ?_, ?_, ?_⟩
    · exact R2.o (R2.o (R2.o (R2.o d1 hF' (su_T (by omega))) hF' (su_T (by omega))) hF' (su_T (by omega))) hF rfl
    · have q1 : R3 a0 F (gPI g (F + 33 + i) 1 (-1)) (su s 5 i 1 (-1)) n3 := R3.o d2 (fun b' _ => by omega) (su_T (by omega))
      have q2 : R3 a0 F (gPI (gPI g (F + 33 + i) 1 (-1)) (F + 33 + i) 2 (nI b)) (su (su s 5 i 1 (-1)) 5 i 2 (nI b)) n3 := R3.o q1 (fun b' _ => by omega) (su_T (by omega))
      have q3 : R3 a0 F (gPI (gPI (gPI g (F + 33 + i) 1 (-1)) (F + 33 + i) 2 (nI b)) (F + 33 + i) 4 (s 5 i 4 + 1)) (takeS s b i) n3 := R3.o q2 (fun b' _ => by omega) (su_T (by omega))
      exact R3.c q3
    · intro b' hb'
      rw [takeS_car w.2.2.2.1 b19 (by omega) hi h2 b' (by omega)]
      by_cases e : b' = b
      · subst e
        simp [gI_PI, b14]
      · have e1 : F + 2 + 5 * b' ≠ F + 2 + 5 * b := by omega
        have e3 : F + 2 + 5 * b' ≠ F + 33 + i := by omega
        rw [if_neg e, gI_PI, if_neg e1, gI_PI, if_neg e3, gI_PI, if_neg e3, gI_PI, if_neg e3]
        exact d3 b' hb'
    · show gI _ F 6 = _
      have hn4 := w.2.2.2.1
      have e4 : (takeS s b i) 0 0 4 = nI n4 := (takeS_same.1 4 (by omega)).trans hn4
      rw [gI_PI, if_neg hF, gI_PI, if_neg hF', gI_PI, if_neg hF', gI_PI, if_neg hF', b4, arr_def e4 b19, arr_def hn4 b19]
      refine (arrF_keep fun j _ => ?_).symm
      simp [takeS, su]
    · have q1 := R7.l (i := i) (k := 1) (v := -1) d5
      have q2 := R7.l (i := i) (k := 2) (v := nI b) q1
      have q3 := R7.l (i := i) (k := 4) (v := s 5 i 4 + 1) q2
      exact R7.o q3 (fun j _ => by omega) rfl
theorem coS_same {s : Sg} {b i : Nat} {here : Int32} : Same s (coS s b here i) := by
  unfold coS
  split
  · exact takeS_same
  · exact Same.rf
theorem coF_same {s : Sg} {b n : Nat} {here : Int32} : Same s (coF s b here n) := by
  induction n with
  | zero => exact Same.rf
  | succ n ih => exact ih.tr coS_same
theorem coS_3 {s : Sg} {b i : Nat} {here : Int32} : (coS s b here i) 3 = s 3 := by
  unfold coS
  split
  · exact ((su_T (by omega)).trans (su_T (by omega))).trans (su_T (by omega))
  · rfl
theorem coF_3 {s : Sg} {b n : Nat} {here : Int32} : (coF s b here n) 3 = s 3 := by
  induction n with
  | zero => rfl
  | succ n ih => exact coS_3.trans ih
theorem coF_none {s : Sg} {b i n : Nat} {here : Int32} (h : (3 : Int32) ≤ car (coF s b here i) b) (hn : i ≤ n) : coF s b here n = coF s b here i := by
  induction n with
  | zero => rw [show i = 0 by omega]
  | succ n ih =>
    by_cases e : i = n + 1
    · rw [e]
    · show coS (coF s b here n) b here n = _
      rw [ih (by omega)]
      exact if_neg fun q => q.2.1 h
theorem CI.wyE {a0 F n1 n2 n3 n4 q : Nat} {g : g_H} {s : Sg} (c : CI a0 F g s n1 n2 n3 n4 q) (x y : Int32) : f5_wayBetween g (a0 + 1) x y = some (wy s x y, g) := by
  obtain ⟨⟨⟨w1, w2, -⟩, -⟩, ⟨-, r1, -, -, r4, -⟩, -⟩ := c
  obtain ⟨q1, -, -, -, q5⟩ := r4
  rw [p_way r1 (q1.trans w1) w2]
  unfold wyF wy
  rw [q1]
  by_cases h : inR (s 0 0 1) x ∧ inR (s 0 0 1) y
  · rw [if_pos h, if_pos h]
    obtain ⟨h1, h2⟩ := h
    rw [w1] at h1 h2
    obtain ⟨i, hi, rfl⟩ := inR_nat (by omega) h1
    obtain ⟨j, hj, rfl⟩ := inR_nat (by omega) h2
    have ci : Int32.toNatClampNeg (nI i) = i := cl_nI (by omega)
    have cj : Int32.toNatClampNeg (nI j) = j := cl_nI (by omega)
    show some (gI g (a0 + 29 + Int32.toNatClampNeg (nI i)) (Int32.toNatClampNeg (nI j)), g) = some (s 6 (Int32.toNatClampNeg (nI i)) (Int32.toNatClampNeg (nI j)), g)
    rw [ci, cj, q5 i j (by omega) (by omega)]
  · rw [if_neg h, if_neg h]
end
section
/-! PURE: collecting, the loop; moving on -/
theorem p_coStep {a0 F n1 n2 n3 n4 q b i : Nat} {g : g_H} {s : Sg} (c : CI a0 F g s n1 n2 n3 n4 q) (hb : b < n3) (hi : i < n4) (hc : ¬ (3 : Int32) ≤ car s b) {here : Int32} (hh : here ≠ -1) :
    ∃ g', (∀ K, f1_collect_2b K g F (F + 2 + 5 * b) here (nI i) = K g' F (F + 2 + 5 * b) here (nI i + 1)) ∧ Fr F g g' ∧ CI a0 F g' (coS s b here i) n1 n2 n3 n4 q := by
  obtain ⟨b1, b2, b3, b4, b5, b6, b7, b8, b9, b10, b11, b12, b13, b14, b15, b16, b17, b18, b19, b20⟩ := clB c hb
  obtain ⟨l1, l2, l3⟩ := clL c hi
  have hlt : ¬ nI n4 ≤ nI i := nI_ge hi (by omega)
  have hix : ¬ (nI i < 0 ∨ 20 ≤ Int32.toNatClampNeg (nI i)) := nI_in (by omega) (by omega)
  have ci : Int32.toNatClampNeg (nI i) = i := cl_nI (by omega)
  have e0 : gI g (F + 33 + i) 0 = s 5 i 0 := l3 0 (by omega)
  have e1 : gI g (F + 33 + i) 1 = s 5 i 1 := l3 1 (by omega)
  have hto : inR (nI n1) (s 5 i 0) := (c.1.2.2.2.2.2.2.2.2 i hi).1
  by_cases h : s 5 i 1 = here
  · by_cases h' : wy s here (s 5 i 0) ≤ wy s (tg s b (s 5 i 0)) (s 5 i 0)
    · refine ⟨g, fun K => ?_, Fr.rf, ?_⟩
      · unfold f1_collect_2b f1_collect_85
        rw [if_pos b1, b2, if_neg hlt, if_pos b11, b14, if_neg hc, b7]
        show (if (gS g (F + 32)).fst = 17 then _ else _) = _
        rw [b9, if_pos rfl]
        show (if ¬ (nI i < 0 ∨ 20 ≤ Int32.toNatClampNeg (nI i)) then _ else _) = _
        rw [if_pos hix, ci, l1]
        show (if (gS g (F + 33 + i)).fst = 4 then _ else _) = _
        rw [if_pos l2, e1, if_pos h, b12]
        show (if (gS g (a0 + 46 + 5 * b)).fst = 5 then _ else _) = _
        rw [if_pos b16, e0, clE c hb hto]
        show (if (gS g F).fst = 2 then _ else _) = _
        rw [if_pos b1, b5]
        show (if (gS g (F + 33 + i)).fst = 4 then _ else _) = _
        rw [if_pos l2, if_pos b17, e0, c.wyE]
        show (if (gS g F).fst = 2 then _ else _) = _
        rw [if_pos b1, b5]
        show (if (gS g (F + 33 + i)).fst = 4 then _ else _) = _
        rw [if_pos l2, if_pos b17, e0, c.wyE]
        show (if wy s here (s 5 i 0) ≤ wy s (tg s b (s 5 i 0)) (s 5 i 0) then _ else _) = _
        rw [if_pos h']
      · unfold coS
        rw [if_neg fun q => Int32.not_le.mpr q.2.2 h']
        exact c
    · obtain ⟨h1, x1, x4, x5⟩ := clTake c hb hi (h ▸ hh) hc
      refine ⟨h1, fun K => ?_, x4, ?_⟩
      · unfold f1_collect_2b f1_collect_85
        rw [if_pos b1, b2, if_neg hlt, if_pos b11, b14, if_neg hc, b7]
        show (if (gS g (F + 32)).fst = 17 then _ else _) = _
        rw [b9, if_pos rfl]
        show (if ¬ (nI i < 0 ∨ 20 ≤ Int32.toNatClampNeg (nI i)) then _ else _) = _
        rw [if_pos hix, ci, l1]
        show (if (gS g (F + 33 + i)).fst = 4 then _ else _) = _
        rw [if_pos l2, e1, if_pos h, b12]
        show (if (gS g (a0 + 46 + 5 * b)).fst = 5 then _ else _) = _
        rw [if_pos b16, e0, clE c hb hto]
        show (if (gS g F).fst = 2 then _ else _) = _
        rw [if_pos b1, b5]
        show (if (gS g (F + 33 + i)).fst = 4 then _ else _) = _
        rw [if_pos l2, if_pos b17, e0, c.wyE]
        show (if (gS g F).fst = 2 then _ else _) = _
        rw [if_pos b1, b5]
        show (if (gS g (F + 33 + i)).fst = 4 then _ else _) = _
        rw [if_pos l2, if_pos b17, e0, c.wyE]
        show (if wy s here (s 5 i 0) ≤ wy s (tg s b (s 5 i 0)) (s 5 i 0) then _ else _) = _
        rw [if_neg h', if_pos b11, x1]
        rfl
      · unfold coS
        rw [if_pos ⟨h, hc, Int32.not_le.mp h'⟩]
        exact x5
  · refine ⟨g, fun K => ?_, Fr.rf, ?_⟩
    · unfold f1_collect_2b f1_collect_85
      rw [if_pos b1, b2, if_neg hlt, if_pos b11, b14, if_neg hc, b7]
      show (if (gS g (F + 32)).fst = 17 then _ else _) = _
      rw [b9, if_pos rfl]
      show (if ¬ (nI i < 0 ∨ 20 ≤ Int32.toNatClampNeg (nI i)) then _ else _) = _
      rw [if_pos hix, ci, l1]
      show (if (gS g (F + 33 + i)).fst = 4 then _ else _) = _
      rw [if_pos l2, e1, if_neg h]
    · unfold coS
      rw [if_neg fun q => h q.1]
      exact c
theorem p_coLoop {a0 F n1 n2 n3 n4 q b : Nat} {s0 : Sg} (hb : b < n3) {here : Int32} (hh : here ≠ -1) :
    ∀ m i fuel : Nat, ∀ g : g_H, i + m = n4 → m < fuel → CI a0 F g (coF s0 b here i) n1 n2 n3 n4 q →
    ∃ g', f1_collect_2 fuel g F (F + 2 + 5 * b) here (nI i) = some g' ∧ Fr F g g' ∧ CI a0 F g' (coF s0 b here n4) n1 n2 n3 n4 q := by
  intro m
  induction m with
  | zero =>
    intro i fuel g him hf c
    obtain ⟨fu, rfl⟩ : ∃ fu, fuel = fu + 1 := ⟨fuel - 1, by omega⟩
    obtain ⟨b1, b2, -⟩ := clB c hb
    have : i = n4 := by omega
    subst this
    refine ⟨g, ?_, Fr.rf, c⟩
    show f1_collect_2b _ g F (F + 2 + 5 * b) here (nI i) = _
    unfold f1_collect_2b
    rw [if_pos b1, b2, if_pos (Int32.le_refl _)]
  | succ m ih =>
    intro i fuel g him hf c
    obtain ⟨fu, rfl⟩ : ∃ fu, fuel = fu + 1 := ⟨fuel - 1, by omega⟩
    by_cases hc : (3 : Int32) ≤ car (coF s0 b here i) b
    · obtain ⟨b1, b2, b3, b4, b5, b6, b7, b8, b9, b10, b11, b12, b13, b14, b15, b16, b17, b18, b19, b20⟩ := clB c hb
      refine ⟨g, ?_, Fr.rf, ?_⟩
      · show f1_collect_2b _ g F (F + 2 + 5 * b) here (nI i) = _
        unfold f1_collect_2b
        rw [if_pos b1, b2, if_neg (nI_ge (by omega) (by omega)), if_pos b11, b14, if_pos hc]
      · rw [coF_none hc (by omega)]
        exact c
    · obtain ⟨g1, x1, x2, x3⟩ := p_coStep c hb (show i < n4 by omega) hc hh
      obtain ⟨g2, y1, y2, y3⟩ := ih (i + 1) fu g1 (by omega) (by omega) x3
      refine ⟨g2, ?_, x2.tr y2, y3⟩
      show f1_collect_2b (f1_collect_2 fu) g F (F + 2 + 5 * b) here (nI i) = _
      rw [x1, nI_1]
      exact y1
theorem p_collect {a0 F n1 n2 n3 n4 q b : Nat} {g : g_H} {s : Sg} (c : CI a0 F g s n1 n2 n3 n4 q) (hb : b < n3) {here : Int32} (hh : here ≠ -1) :
    ∃ g', f1_collect g F (F + 2 + 5 * b) here = some g' ∧ Fr F g g' ∧ CI a0 F g' (coF s b here n4) n1 n2 n3 n4 q := by
  obtain ⟨b1, b2, b3, b4, b5, b6, b7, b8, b9, b10, b11, b12, b13, b14, b15, b16, b17, b18, b19, b20⟩ := clB c hb
  exact p_coLoop hb hh n4 0 300 g (by omega) (by omega) c
theorem su_self {s : Sg} {t i k : Nat} : su s t i k (s t i k) = s := by
  funext t' i' k'
  unfold su
  by_cases h : t' = t ∧ i' = i ∧ k' = k
  · rw [if_pos h, h.1, h.2.1, h.2.2]
  · rw [if_neg h]
theorem carF_5 {s t : Sg} {b n : Nat} (h : t 5 = s 5) : carF t b n = carF s b n := carF_keep fun i _ => by rw [h]
theorem car_5 {s t : Sg} {b : Nat} (h : t 5 = s 5) (h0 : t 0 = s 0) : car t b = car s b := by
  unfold car
  rw [h0, carF_5 h]
theorem arr_5 {s t : Sg} (h : t 5 = s 5) (h0 : t 0 = s 0) : arr t = arr s := by
  unfold arr
  rw [h0]
  exact arrF_keep fun i _ => by rw [h]
theorem RD.bee {a0 F n3 n4 b k k' : Nat} {g : g_H} {s : Sg} {v : Int32} (r : RD a0 F g s n3 n4) (hb : b < n3) (h6 : n3 ≤ 6) (h20 : n4 ≤ 20) (h : fld k k') : RD a0 F (gPI g (F + 2 + 5 * b) k v) (su s 3 b k' v) n3 n4 := by
  obtain ⟨d1, d2, d3, d4, d5⟩ := r
  have h5 : (su s 3 b k' v) 5 = s 5 := su_T (by omega)
  have h0 : (su s 3 b k' v) 0 = s 0 := su_T (by omega)
  refine ⟨R2.o d1 (by omega) h0, R3.b d2 h, fun b' hb' => ?_, ?_, R7.o d5 (fun j _ => by omega) h5⟩
  · rw [car_5 h5 h0, gI_PI]
    have k6 : 6 ≠ k := by unfold fld at h; omega
    by_cases e : F + 2 + 5 * b' = F + 2 + 5 * b
    · rw [if_pos e, if_neg k6]; exact d3 b' hb'
    · rw [if_neg e]; exact d3 b' hb'
  · unfold R5
    rw [arr_5 h5 h0, gI_PI, if_neg (by omega)]
    exact d4
/-- a bee alone changed -/
theorem WF.bee {s t : Sg} {n1 n2 n3 n4 q b : Nat} (w : WF s n1 n2 n3 n4 q) (h : Same s t) (h5 : t 5 = s 5) (h0 : t 0 = s 0) (hb : b < n3) (ho : ∀ b', b' ≠ b → t 3 b' = s 3 b') (wb : WB t n1 b) : WF t n1 n2 n3 n4 q := by
  obtain ⟨w1, w2, w3, w4, w5, w6, w7, w8, w9⟩ := w
  refine ⟨w1.same h, by rw [h0]; exact w2, w3, by rw [h0]; exact w4, w5, by rw [h0]; exact w6, w7, fun b' hb' => ?_, fun i hi => ?_⟩
  · obtain ⟨x, y⟩ := w8 b' hb'
    refine ⟨?_, by rw [car_5 h5 h0]; exact y⟩
    by_cases e : b' = b
    · rw [e]; exact wb
    · obtain ⟨z, p, l, st, ho', e1, e2, e3, e4, e5, e6, e7, e8, e9, e10, e11, e12, e13, e14, e15⟩ := x
      refine WB.keep h ⟨z, p, l, st, ho', e1, e2, e3, e4, e5, e6, e7, e8, e9, e10, e11, e12, e13, e14, e15⟩ ?_ ?_ ⟨st, e9, ?_⟩ ⟨ho', e11, ?_⟩ ?_ ?_ <;> rw [ho b' e] <;> assumption
  · unfold WL; rw [h5]; exact w9 i hi
end
section
/-! PURE: moving on -/
theorem gB2_some {α β : Type} {v : α} {g : g_H} {k : α → g_H → Option β} : gB2 (some (v, g)) k = k v g := rfl
theorem ob_some {α β : Type} {v : α} {k : α → Option β} : (some v).bind k = k v := rfl
theorem n10 : ¬ (1 : Int32) = 0 := by decide
theorem slF_comm {s : Sg} {a b : Int32} {k : Nat} : slF s a b k = slF s b a k := by
  induction k with
  | zero => rfl
  | succ k ih =>
    show (if _ then _ else _) = (if _ then _ else _)
    rw [ih]
    by_cases h : ((s 2 k 0 = a ∧ s 2 k 1 = b) ∨ (s 2 k 0 = b ∧ s 2 k 1 = a)) ∧ (slF s b a k = -1 ∨ s 2 k 2 < s 2 (cl (slF s b a k)) 2)
    · rw [if_pos h, if_pos ⟨h.1.symm, h.2⟩]
    · rw [if_neg h, if_neg fun q => h ⟨q.1.symm, q.2⟩]
theorem sl_comm {s : Sg} {a b : Int32} : sl s a b = sl s b a := slF_comm
theorem slF_in {s : Sg} {a b : Int32} {k : Nat} : slF s a b k = -1 ∨ ∃ j, j < k ∧ slF s a b k = nI j := by
  induction k with
  | zero => exact Or.inl rfl
  | succ k ih =>
    unfold slF
    by_cases h : ((s 2 k 0 = a ∧ s 2 k 1 = b) ∨ (s 2 k 0 = b ∧ s 2 k 1 = a)) ∧ (slF s a b k = -1 ∨ s 2 k 2 < s 2 (cl (slF s a b k)) 2)
    · rw [if_pos h]; exact Or.inr ⟨k, by omega, rfl⟩
    · rw [if_neg h]
      rcases ih with q | ⟨j, h1, h2⟩
      · exact Or.inl q
      · exact Or.inr ⟨j, by omega, h2⟩
theorem sl_in {s : Sg} {a b : Int32} {n2 : Nat} (h : s 0 0 2 = nI n2) (h2 : n2 ≤ 24) (hn : sl s a b ≠ -1) : ∃ j, j < n2 ∧ sl s a b = nI j := by
  unfold sl at hn ⊢
  rw [h, show cl (nI n2) = n2 from cl_nI (by omega)] at hn ⊢
  exact (slF_in (s := s) (a := a) (b := b) (k := n2)).resolve_left hn
theorem p_hasHive {a0 F n1 n2 n3 n4 q : Nat} {g : g_H} {s : Sg} (c : CI a0 F g s n1 n2 n3 n4 q) {x : Int32} (hx : inR (nI n1) x) : f5_hasHive g (a0 + 1) x = some (if s 1 (cl x) 0 = 0 then 0 else 1, g) := by
  obtain ⟨⟨⟨w1, w2, -⟩, -⟩, ⟨-, r1, -, -, r4, -⟩, -⟩ := c
  obtain ⟨q1, -, q3, -⟩ := r4
  obtain ⟨t1, t2, t3, t4, t5, -⟩ := r1
  obtain ⟨j, hj, rfl⟩ := inR_nat (by omega) hx
  have cj : Int32.toNatClampNeg (nI j) = j := cl_nI (by omega)
  have hix : ¬ (nI j < 0 ∨ 14 ≤ Int32.toNatClampNeg (nI j)) := nI_in (by omega) (by omega)
  unfold f5_hasHive
  rw [if_pos t1, p_hasHouse t1, q1, w1, if_pos hx]
  rw [gB2_some, if_neg n10, if_pos t1, t2, ob_some, t5, if_pos rfl, if_pos hix, cj, q3 j (by omega)]
  show _ = some (if s 1 (Int32.toNatClampNeg (nI j)) 0 = 0 then 0 else 1, g)
  rw [cj]
  split <;> rfl
theorem hour_nat {q : Nat} (h : q < 2 ^ 26) : nI q - nI q / (24 : Int32) * (24 : Int32) = nI (q % 24) := by
  apply Int32.toInt_inj.mp
  have h1 : (nI q).toInt = q := nI_toInt (by omega)
  have h24 : (24 : Int32).toInt = 24 := rfl
  have hd : (nI q / (24 : Int32)).toInt = (q / 24 : Nat) := by
    rw [Int32.toInt_div, h1, h24]
    rw [show ((q : Int).tdiv 24) = ((q / 24 : Nat) : Int) from rfl]
    exact Int.bmod_eq_of_le (by omega) (by omega)
  have hm : (nI q / (24 : Int32) * (24 : Int32)).toInt = ((q / 24 * 24 : Nat) : Int) := by
    rw [Int32.toInt_mul, hd, h24]
    rw [Int.bmod_eq_of_le (by omega) (by omega)]
    rfl
  rw [Int32.toInt_sub, h1, hm, nI_toInt (by omega)]
  rw [Int.bmod_eq_of_le (by omega) (by omega)]
  omega
theorem p_lane {a0 F n1 n2 n3 n4 q : Nat} {g : g_H} {s : Sg} (c : CI a0 F g s n1 n2 n3 n4 q) {j : Nat} (hj : j < n2) : gR g (a0 + 1) 3 = some (a0 + 3) ∧ gS g (a0 + 3) = (16, 24) ∧ gR g (a0 + 3) j = some (a0 + 4 + j) ∧ (gS g (a0 + 4 + j)).1 = 3 ∧ gI g (a0 + 1) 1 = nI n2 ∧ j < 24 ∧ (gS g (a0 + 1)).1 = 6 ∧ n2 < 2 ^ 31 := by
  obtain ⟨⟨⟨w1, w2, w3, w4, -⟩, -⟩, ⟨-, r1, -, -, r4, -⟩, -⟩ := c
  obtain ⟨q1, q2, q3, -⟩ := r4
  obtain ⟨t1, t2, t3, t4, t5, t6, t7, t8, -⟩ := r1
  exact ⟨t3, t6, (t8 j (by omega)).1, (t8 j (by omega)).2, q2.trans w3, by omega, t1, by omega⟩
theorem p_lengthOf {a0 F n1 n2 n3 n4 q : Nat} {g : g_H} {s : Sg} (c : CI a0 F g s n1 n2 n3 n4 q) {j : Nat} (hj : j < n2) : f5_lengthOf g (a0 + 1) (nI j) = some (s 2 j 2, g) := by
  obtain ⟨e1, e2, e3, e4, e5, e6, e7, e8⟩ := p_lane c hj
  obtain ⟨-, ⟨-, -, -, -, r4, -⟩, -⟩ := c
  have cj : Int32.toNatClampNeg (nI j) = j := cl_nI (by omega)
  have hix : ¬ (nI j < 0 ∨ 24 ≤ Int32.toNatClampNeg (nI j)) := nI_in (by omega) (by omega)
  have h2 : gI g (a0 + 4 + j) 2 = s 2 j 2 := (r4.2.2.2.1 j hj).1 2 (by omega)
  unfold f5_lengthOf
  rw [if_pos e7, p_hasLane e7, e5, if_pos (inR_of e8 hj), gB2_some, if_neg n10, if_pos e7, e1, ob_some, e2, if_pos rfl, if_pos hix, cj, e3, ob_some, if_pos e4, h2]
/-- the gate as the flight sees it -/
theorem p_isOpen {a0 F n1 n2 n3 n4 q : Nat} {g : g_H} {s : Sg} (c : CI a0 F g s n1 n2 n3 n4 q) {j : Nat} (hj : j < n2) :
    (nI j = gI g F 7 → opS s j) ∧ (nI j ≠ gI g F 7 → ∃ v, f5_isOpen g (a0 + 1) (nI j) (s 0 0 0) = some (v, g) ∧ (v = 0 ∨ v = 1) ∧ (v = 1 ↔ opS s j)) := by
  obtain ⟨e1, e2, e3, e4, e5, e6, e7, e8⟩ := p_lane c hj
  obtain ⟨w, ⟨-, -, -, -, r4, -⟩, -⟩ := c
  have cj : Int32.toNatClampNeg (nI j) = j := cl_nI (by omega)
  have hix : ¬ (nI j < 0 ∨ 24 ≤ Int32.toNatClampNeg (nI j)) := nI_in (by omega) (by omega)
  obtain ⟨-, h1, h2⟩ := r4.2.2.2.1 j hj
  constructor
  · intro h
    obtain ⟨x, y⟩ := h1 h
    unfold opS hourS
    rw [x, y, w.2.2.2.2.2.1, hour_nat w.2.2.2.2.2.2.1]
    exact ⟨nI_pos (by omega), nI_ge (b := 24) (by omega) (by omega)⟩
  · intro h
    obtain ⟨x, y⟩ := h2 h
    unfold f5_isOpen
    rw [if_pos e7, p_hasLane e7, e5, if_pos (inR_of e8 hj), gB2_some, if_neg n10, if_pos e7, e1, ob_some, e2, if_pos rfl, if_pos hix, cj, e3, ob_some]
    unfold f2_isOpen
    rw [if_pos e4, if_pos e4, x, y]
    unfold opS hourS
    by_cases c1 : s 0 0 0 - s 0 0 0 / (24 : Int32) * (24 : Int32) < s 2 j 3
    · rw [if_pos c1]
      refine ⟨0, rfl, Or.inl rfl, ?_⟩
      exact ⟨fun q => absurd q (by decide), fun q => absurd c1 q.1⟩
    · rw [if_neg c1]
      by_cases c2 : s 2 j 4 ≤ s 0 0 0 - s 0 0 0 / (24 : Int32) * (24 : Int32)
      · rw [if_pos c2]
        refine ⟨0, rfl, Or.inl rfl, ?_⟩
        exact ⟨fun q => absurd q (by decide), fun q => absurd c2 q.2⟩
      · rw [if_neg c2]
        refine ⟨1, rfl, Or.inr rfl, ?_⟩
        exact ⟨fun _ => ⟨c1, c2⟩, fun _ => rfl⟩
theorem p_length {g : g_H} {r : Nat} (h : (gS g r).1 = 5) : f4_length g r = some (gI g r 0, g) := if_pos h
end
section
/-! PURE: moving on, the whole -/
theorem CI.wb {a0 F n1 n2 n3 n4 q b : Nat} {g : g_H} {s : Sg} (c : CI a0 F g s n1 n2 n3 n4 q) (hb : b < n3) : WB s n1 b := (c.1.2.2.2.2.2.2.2.1 b hb).1
theorem clC {a0 F n1 n2 n3 n4 q b : Nat} {g : g_H} {s : Sg} (c : CI a0 F g s n1 n2 n3 n4 q) (hb : b < n3) : gI g (F + 2 + 5 * b) 2 = s 3 b 0 ∧ gI g (F + 2 + 5 * b) 3 = s 3 b 1 ∧ gI g (F + 2 + 5 * b) 4 = s 3 b 2 ∧ gI g (F + 2 + 5 * b) 5 = s 3 b 3 ∧ gI g (F + 2 + 5 * b) 7 = s 3 b 4 ∧ gI g (F + 2 + 5 * b) 8 = s 3 b 6 ∧ gI g (F + 2 + 5 * b) 9 = s 3 b 7 ∧ gI g (a0 + 46 + 5 * b) 0 = s 3 b 5 :=
  ⟨(c.2.2.2.1 b hb).2.2.1, (c.2.2.2.1 b hb).2.2.2.1, (c.2.2.2.1 b hb).2.2.2.2.1, (c.2.2.2.1 b hb).2.2.2.2.2.1, (c.2.2.2.1 b hb).2.2.2.2.2.2.1, (c.2.2.2.1 b hb).2.2.2.2.2.2.2.1, (c.2.2.2.1 b hb).2.2.2.2.2.2.2.2, (c.2.1.2.2.2.2.2 b hb).1⟩
theorem su3_5 {s : Sg} {b k : Nat} {v : Int32} : (su s 3 b k v) 5 = s 5 := su_T (by omega)
theorem su3_0 {s : Sg} {b k : Nat} {v : Int32} : (su s 3 b k v) 0 = s 0 := su_T (by omega)
theorem su3_o {s : Sg} {b k b' : Nat} {v : Int32} (h : b' ≠ b) : (su s 3 b k v) 3 b' = s 3 b' := funext fun _ => su_i h
theorem chB {F b : Nat} (h : b < 6) : chg F (F + 2 + 5 * b) := Or.inr (Or.inl ⟨b, h, rfl⟩)
theorem putB {F b k : Nat} {g : g_H} {v : Int32} (h : b < 6) (h0 : k ≠ 0 := by omega) : Fr F g (gPI g (F + 2 + 5 * b) k v) := Fr.put (chB h) (Or.inl (by omega)) h0
theorem p_rest1 {a0 F n1 n2 n3 n4 q b : Nat} {g : g_H} {s : Sg} (c : CI a0 F g s n1 n2 n3 n4 q) (hb : b < n3) (h : ¬ s 3 b 4 = 0) (v : Int32) :
    ∃ g', f0_restsNow g (F + 2 + 5 * b) v = some (1, g') ∧ Fr F g g' ∧ CI a0 F g' (su (su s 3 b 2 (strong (s 3 b 2 + 3))) 3 b 4 (if (20 : Int32) ≤ strong (s 3 b 2 + 3) then 0 else 1)) n1 n2 n3 n4 q := by
  obtain ⟨b1, b2, b3, b4, b5, b6, b7, b8, b9, b10, b11, b12, b13, b14, b15, b16, b17, b18, b19, b20⟩ := clB c hb
  obtain ⟨x1, x2, x3, x4, x5, x6, x7, x8⟩ := clC c hb
  have wb := c.wb hb
  have hw : ∀ v4 : Int32, v4 = 0 ∨ v4 = 1 → WF (su (su s 3 b 2 (strong (s 3 b 2 + 3))) 3 b 4 v4) n1 n2 n3 n4 q := by
    intro v4 hv
    have hs : Same s (su (su s 3 b 2 (strong (s 3 b 2 + 3))) 3 b 4 v4) := (Same.b (by omega)).tr (Same.b (by omega))
    refine c.1.bee hs (su3_5.trans su3_5) (su3_0.trans su3_0) hb (fun b' h' => (su3_o h').trans (su3_o h')) ?_
    obtain ⟨z, p, l, st, ho, e1, e2, e3, e4, e5, e6, e7, e8, e9, e10, e11, e12, e13, e14, e15⟩ := wb
    have hst := strong_nI (n := st + 3) (by omega)
    refine WB.keep hs ⟨z, p, l, st, ho, e1, e2, e3, e4, e5, e6, e7, e8, e9, e10, e11, e12, e13, e14, e15⟩ (by simp [su]) (by simp [su]) ⟨_, hst.2, ?_⟩ ⟨ho, e11, by rw [← e10]; simp [su]⟩ (by simpa [su] using hv) (by simpa [su] using e13)
    rw [← hst.1, ← nI_add, ← e8]
    simp [su]
    rfl
  have r1 := RD.bee (v := strong (s 3 b 2 + 3)) c.2.2 hb b18 b19 (show fld 4 2 by unfold fld; omega)
  unfold f0_restsNow
  rw [if_pos b11, x5, if_neg h, p_addStrength b11, x3, ob_some, gS_PI, if_pos b11]
  have e4 : gI (gPI g (F + 2 + 5 * b) 4 (strong (s 3 b 2 + 3))) (F + 2 + 5 * b) 4 = strong (s 3 b 2 + 3) := by simp [gI_PI]
  rw [e4]
  by_cases k : (20 : Int32) ≤ strong (s 3 b 2 + 3)
  · rw [if_pos k, if_pos k]
    exact ⟨_, rfl, (putB (by omega)).tr (putB (by omega)), c.step ((putB (by omega)).tr (putB (by omega))) ((Same.b (by omega)).tr (Same.b (by omega))) (hw 0 (Or.inl rfl)) (RD.bee r1 hb b18 b19 (show fld 7 4 by unfold fld; omega))⟩
  · rw [if_neg k, if_neg k]
    exact ⟨_, rfl, (putB (by omega)).tr (putB (by omega)), c.step ((putB (by omega)).tr (putB (by omega))) ((Same.b (by omega)).tr (Same.b (by omega))) (hw 1 (Or.inr rfl)) (RD.bee r1 hb b18 b19 (show fld 7 4 by unfold fld; omega))⟩
theorem p_rest2 {a0 F n1 n2 n3 n4 q b : Nat} {g : g_H} {s : Sg} (c : CI a0 F g s n1 n2 n3 n4 q) (hb : b < n3) (h : s 3 b 4 = 0) {v : Int32} (hv : ¬ v = 0) (hs : ¬ (10 : Int32) ≤ s 3 b 2) :
    ∃ g', f0_restsNow g (F + 2 + 5 * b) v = some (1, g') ∧ Fr F g g' ∧ CI a0 F g' (su s 3 b 4 1) n1 n2 n3 n4 q := by
  obtain ⟨b1, b2, b3, b4, b5, b6, b7, b8, b9, b10, b11, b12, b13, b14, b15, b16, b17, b18, b19, b20⟩ := clB c hb
  obtain ⟨x1, x2, x3, x4, x5, x6, x7, x8⟩ := clC c hb
  obtain ⟨z, p, l, st, ho, e1, e2, e3, e4, e5, e6, e7, e8, e9, e10, e11, e12, e13, e14, e15⟩ := c.wb hb
  have hS : Same s (su s 3 b 4 1) := Same.b (by omega)
  have e7 : gI (gPI g (F + 2 + 5 * b) 7 1) (F + 2 + 5 * b) 7 = 1 := by simp [gI_PI]
  unfold f0_restsNow
  rw [if_pos b11, x5, if_pos h, if_neg hv, x3, if_neg hs, e7, if_pos (Or.inr rfl)]
  refine ⟨_, rfl, putB (by omega), c.step (putB (by omega)) hS ?_ (RD.bee c.2.2 hb b18 b19 (show fld 7 4 by unfold fld; omega))⟩
  refine c.1.bee hS su3_5 su3_0 hb (fun b' h' => su3_o h') ?_
  exact WB.keep hS (c.wb hb) (by simp [su]) (by simp [su]) ⟨st, e9, by rw [← e8]; simp [su]⟩ ⟨ho, e11, by rw [← e10]; simp [su]⟩ (by simp [su]) (by simpa [su] using e13)
theorem p_rest3 {a0 F n1 n2 n3 n4 q b : Nat} {g : g_H} {s : Sg} (c : CI a0 F g s n1 n2 n3 n4 q) (hb : b < n3) (h : s 3 b 4 = 0) {v : Int32} (hv : v = 0 ∨ (10 : Int32) ≤ s 3 b 2) :
    ∃ g', f0_restsNow g (F + 2 + 5 * b) v = some (0, g') ∧ Fr F g g' ∧ CI a0 F g' s n1 n2 n3 n4 q := by
  obtain ⟨b1, b2, b3, b4, b5, b6, b7, b8, b9, b10, b11, b12, b13, b14, b15, b16, b17, b18, b19, b20⟩ := clB c hb
  obtain ⟨x1, x2, x3, x4, x5, x6, x7, x8⟩ := clC c hb
  have e7 : gI (gPI g (F + 2 + 5 * b) 7 0) (F + 2 + 5 * b) 7 = 0 := by simp [gI_PI]
  have r1 := RD.bee (v := 0) c.2.2 hb b18 b19 (show fld 7 4 by unfold fld; omega)
  rw [← h, su_self, h] at r1
  refine ⟨gPI g (F + 2 + 5 * b) 7 0, ?_, putB (by omega), c.step (putB (by omega)) Same.rf c.1 r1⟩
  unfold f0_restsNow
  rw [if_pos b11, x5, if_pos h, x3, e7, if_pos (Or.inl rfl)]
  rcases hv with hv | hv
  · rw [if_pos hv]
  · rw [if_pos hv]
    split <;> rfl
theorem onS_01 {s : Sg} {b : Nat} (h : s 3 b 7 = 0 ∨ s 3 b 7 = 1) : onS s b = 0 ∨ onS s b = 1 := by
  unfold onS
  rcases h with h | h
  · rw [h]
    by_cases e : s 3 b 0 = (if (0 : Int32) = 0 then 0 else s 3 b 5 - 1)
    · rw [if_pos e]; exact Or.inr (if_pos rfl)
    · rw [if_neg e]; exact Or.inl rfl
  · rw [h]
    by_cases e : s 3 b 0 = (if (1 : Int32) = 0 then 0 else s 3 b 5 - 1)
    · rw [if_pos e]; exact Or.inl (if_neg n10)
    · rw [if_neg e]; exact Or.inr rfl
theorem p_turn {a0 F n1 n2 n3 n4 q b : Nat} {g : g_H} {s : Sg} (c : CI a0 F g s n1 n2 n3 n4 q) (hb : b < n3) :
    ∃ g', f0_turnAtEnd g (F + 2 + 5 * b) = some g' ∧ Fr F g g' ∧ CI a0 F g' (su s 3 b 7 (onS s b)) n1 n2 n3 n4 q := by
  obtain ⟨b1, b2, b3, b4, b5, b6, b7, b8, b9, b10, b11, b12, b13, b14, b15, b16, b17, b18, b19, b20⟩ := clB c hb
  obtain ⟨x1, x2, x3, x4, x5, x6, x7, x8⟩ := clC c hb
  obtain ⟨z, p, l, st, ho, e1, e2, e3, e4, e5, e6, e7, e8, e9, e10, e11, e12, e13, e14, e15⟩ := c.wb hb
  have hS : ∀ v : Int32, Same s (su s 3 b 7 v) := fun v => Same.b (by omega)
  have hw : ∀ v : Int32, v = 0 ∨ v = 1 → CI a0 F (gPI g (F + 2 + 5 * b) 9 v) (su s 3 b 7 v) n1 n2 n3 n4 q := by
    intro v hv
    refine c.step (putB (by omega)) (hS v) ?_ (RD.bee c.2.2 hb b18 b19 (show fld 9 7 by unfold fld; omega))
    refine c.1.bee (hS v) su3_5 su3_0 hb (fun b' h' => su3_o h') ?_
    exact WB.keep (hS v) (c.wb hb) (by simp [su]) (by simp [su]) ⟨st, e9, by rw [← e8]; simp [su]⟩ ⟨ho, e11, by rw [← e10]; simp [su]⟩ (by simpa [su] using e12) (by simpa [su] using hv)
  unfold f0_turnAtEnd onS
  rw [if_pos b11, x7]
  by_cases h : s 3 b 7 = 0
  · rw [if_pos h, if_pos h, if_pos h]
    unfold f0_turnAtEnd_20
    rw [if_pos b11, x1, x7]
    by_cases h' : s 3 b 0 = 0
    · rw [if_pos h', if_pos h', if_pos h]
      exact ⟨_, rfl, putB (by omega), hw 1 (Or.inr rfl)⟩
    · rw [if_neg h', if_neg h', su_self]
      exact ⟨g, rfl, Fr.rf, c⟩
  · rw [if_neg h, if_neg h, if_neg h, b12, ob_some, if_pos b16, p_length b16, gB2_some]
    unfold f0_turnAtEnd_20
    rw [if_pos b11, x1, x7, x8]
    by_cases h' : s 3 b 0 = s 3 b 5 - 1
    · rw [if_pos h', if_pos h', if_neg h]
      exact ⟨_, rfl, putB (by omega), hw 0 (Or.inl rfl)⟩
    · rw [if_neg h', if_neg h', su_self]
      exact ⟨g, rfl, Fr.rf, c⟩
/-- where it flies next -/
theorem onS_next {s : Sg} {b z p : Nat} (h5 : s 3 b 5 = nI z) (hz : 2 ≤ z) (hz7 : z ≤ 7) (h0 : s 3 b 0 = nI p) (hp : p < z) (h7 : s 3 b 7 = 0 ∨ s 3 b 7 = 1) : (onS s b = 0 ∧ 1 ≤ p ∧ nextS s b = nI (p - 1)) ∨ (onS s b = 1 ∧ p + 1 < z ∧ nextS s b = nI (p + 1)) := by
  have ep : ∀ m, m < 2 ^ 31 → (nI p = nI m ↔ p = m) := fun m hm => nI_eq (by omega) hm
  have ez : nI z - 1 = nI (z - 1) := by
    obtain ⟨y, rfl⟩ : ∃ y, z = y + 1 := ⟨z - 1, by omega⟩
    rw [nI_pred]; rfl
  have m1 : 1 ≤ p → nI p + -1 = nI (p - 1) := by
    intro h
    obtain ⟨y, rfl⟩ : ∃ y, p = y + 1 := ⟨p - 1, by omega⟩
    rw [pk_m1]; rfl
  unfold nextS onS
  rw [h5, h0, ez]
  rcases h7 with h | h
  · rw [h]
    simp only [if_true]
    by_cases e : nI p = 0
    · have hp0 : p = 0 := (ep 0 (by omega)).mp (e.trans nI_0.symm)
      rw [if_pos e, if_neg n10]
      exact Or.inr ⟨rfl, by omega, nI_1 p⟩
    · have hp1 : 1 ≤ p := by
        rcases Nat.eq_zero_or_pos p with q | q
        · exact absurd (by rw [q]; exact nI_0) e
        · exact q
      rw [if_neg e, if_pos rfl]
      exact Or.inl ⟨rfl, hp1, m1 hp1⟩
  · rw [h]
    simp only [if_neg n10]
    by_cases e : nI p = nI (z - 1)
    · have hp0 := (ep (z - 1) (by omega)).mp e
      rw [if_pos e, if_pos rfl]
      exact Or.inl ⟨rfl, by omega, m1 (by omega)⟩
    · have : p ≠ z - 1 := fun q => e (by rw [q])
      rw [if_neg e, if_neg n10]
      exact Or.inr ⟨rfl, by omega, nI_1 p⟩
end
section
/-! PURE: moving on, a quarter, quarters -/
theorem on_wy {s : Sg} {b k : Nat} {v : Int32} (hk : k ≠ 5) (x y : Int32) : sl (su s 3 b k v) x y = sl s x y := (Same.b (s := s) (i := b) (v := v) hk).slE x y
theorem p_nextLane {a0 F n1 n2 n3 n4 q b z : Nat} {g : g_H} {s : Sg} (c : CI a0 F g (su s 3 b 7 (onS s b)) n1 n2 n3 n4 q) (hb : b < n3) (wb : WB s n1 b) (h5 : s 3 b 5 = nI z) (hz : 2 ≤ z) (hz7 : z ≤ 7) :
    f0_nextLane g (F + 2 + 5 * b) = some (sl s (s 4 b (cl (s 3 b 0))) (s 4 b (cl (nextS s b))), g) ∧ sl s (s 4 b (cl (s 3 b 0))) (s 4 b (cl (nextS s b))) ≠ -1 := by
  obtain ⟨b1, b2, b3, b4, b5, b6, b7, b8, b9, b10, b11, b12, b13, b14, b15, b16, b17, b18, b19, b20⟩ := clB c hb
  obtain ⟨x1, x2, x3, x4, x5, x6, x7, x8⟩ := clC c hb
  obtain ⟨z', p, l, st, ho, e1, e2, e3, e4, e5, e6, e7, e8, e9, e10, e11, e12, e13, e14, e15⟩ := wb
  have hzz : z' = z := nI_inj (by omega) (by omega) (e1.symm.trans h5)
  subst hzz
  have y1 : (su s 3 b 7 (onS s b)) 3 b 0 = s 3 b 0 := su_k (by omega)
  have y5 : (su s 3 b 7 (onS s b)) 3 b 5 = s 3 b 5 := su_k (by omega)
  have y7 : (su s 3 b 7 (onS s b)) 3 b 7 = onS s b := su_s
  have y4 : (su s 3 b 7 (onS s b)) 4 = s 4 := su_T (by omega)
  rw [y1, e4] at x1
  rw [y5, h5] at x8
  rw [y7] at x7
  have r6 := (c.2.1.2.2.2.2.2 b hb).2.2.1
  rw [y5, h5, show cl (nI z') = z' from cl_nI (by omega), y4] at r6
  have sE : ∀ x y, sl (su s 3 b 7 (onS s b)) x y = sl s x y := on_wy (by omega)
  have cp : cl (nI p) = p := cl_nI (by omega)
  unfold f0_nextLane
  rw [if_pos b11, b12, ob_some, x7, x1]
  rcases onS_next h5 hz hz7 e4 e5 e13 with ⟨o1, o2, o3⟩ | ⟨o1, o2, o3⟩
  · obtain ⟨y, rfl⟩ : ∃ y, p = y + 1 := ⟨p - 1, by omega⟩
    have cy : cl (nI y) = y := cl_nI (by omega)
    rw [o1, if_pos rfl, if_pos b16, nI_pred, p_laneAt b15 x8 hz7, if_pos (inR_of (by omega) (by omega)), gB2_some, o3, e4, cp, show y + 1 - 1 = y from rfl, cy, show a0 + 46 + 5 * b + 2 = a0 + 48 + 5 * b by omega, r6 y (by omega), sE, sl_comm]
    exact ⟨rfl, by rw [sl_comm]; exact e15 y (by omega)⟩
  · have cy : cl (nI (p + 1)) = p + 1 := cl_nI (by omega)
    rw [o1, if_neg n10, if_pos b16, p_laneAt b15 x8 hz7, if_pos (inR_of (by omega) (by omega)), gB2_some, o3, e4, cp, cy, show a0 + 46 + 5 * b + 2 = a0 + 48 + 5 * b by omega, r6 p (by omega), sE]
    exact ⟨rfl, e15 p (by omega)⟩
theorem nI_sub {a b : Nat} (h : b ≤ a) : nI a - nI b = nI (a - b) := by
  obtain ⟨c, rfl⟩ : ∃ c, a = c + b := ⟨a - b, by omega⟩
  rw [← nI_add, Int32.add_sub_cancel, show c + b - b = c by omega]
theorem p_fly {a0 F n1 n2 n3 n4 q b z j : Nat} {g : g_H} {s : Sg} (c : CI a0 F g (su s 3 b 7 (onS s b)) n1 n2 n3 n4 q) (hb : b < n3) (wb : WB s n1 b) (h5 : s 3 b 5 = nI z) (hz : 2 ≤ z) (hz7 : z ≤ 7) (hj : j < n2) (hl : sl s (s 4 b (cl (s 3 b 0))) (s 4 b (cl (nextS s b))) = nI j) {op : Int32} (hop : op = 0 ∨ op = 1) (ho : op = 1 ↔ opS s j) :
    ∃ g', f0_flyOrStay g (F + 2 + 5 * b) op (s 2 j 2) = some g' ∧ Fr F g g' ∧ CI a0 F g' (flyS s b (s 4 b (cl (s 3 b 0)))) n1 n2 n3 n4 q := by
  obtain ⟨b1, b2, b3, b4, b5, b6, b7, b8, b9, b10, b11, b12, b13, b14, b15, b16, b17, b18, b19, b20⟩ := clB c hb
  obtain ⟨x1, x2, x3, x4, x5, x6, x7, x8⟩ := clC c hb
  obtain ⟨z', p, l, st, hon, e1, e2, e3, e4, e5, e6, e7, e8, e9, e10, e11, e12, e13, e14, e15⟩ := wb
  have hzz : z' = z := nI_inj (by omega) (by omega) (e1.symm.trans h5)
  subst hzz
  have wt := c.1.1
  have s2 : (su s 3 b 7 (onS s b)) 2 = s 2 := su_T (by omega)
  obtain ⟨-, -, -, -, wl, -⟩ := wt
  rw [s2] at wl
  obtain ⟨-, -, -, ⟨d, d1, d6, hd⟩, -⟩ := wl j hj
  have cj : cl (nI j) = j := cl_nI (by have := c.1.1.2.2.2.1; omega)
  have y1 : (su s 3 b 7 (onS s b)) 3 b 0 = s 3 b 0 := su_k (by omega)
  have y2 : (su s 3 b 7 (onS s b)) 3 b 2 = s 3 b 2 := su_k (by omega)
  have y7 : (su s 3 b 7 (onS s b)) 3 b 7 = onS s b := su_s
  rw [y1] at x1
  rw [y2] at x3
  rw [y7] at x7
  have h01 := onS_01 e13
  have hflyN : (¬ ((¬ hourS s < s 2 j 3 ∧ ¬ s 2 j 4 ≤ hourS s) ∧ ¬ s 3 b 2 < s 2 j 2)) → flyS s b (s 4 b (cl (s 3 b 0))) = su (su s 3 b 7 (onS s b)) 3 b 2 (strong (s 3 b 2 + 1)) := by
    intro h
    unfold flyS
    simp only [hl, cj]
    rw [if_neg h]
  have hflyP : ((¬ hourS s < s 2 j 3 ∧ ¬ s 2 j 4 ≤ hourS s) ∧ ¬ s 3 b 2 < s 2 j 2) → flyS s b (s 4 b (cl (s 3 b 0))) = su (su (su (su s 3 b 7 (onS s b)) 3 b 2 (s 3 b 2 - s 2 j 2)) 3 b 1 (s 2 j 2)) 3 b 0 (nextS s b) := by
    intro h
    unfold flyS
    simp only [hl, cj]
    rw [if_pos h]
  have hstay : flyS s b (s 4 b (cl (s 3 b 0))) = su (su s 3 b 7 (onS s b)) 3 b 2 (strong (s 3 b 2 + 1)) → ∃ g', f0_flyOrStay_51 g (F + 2 + 5 * b) = some g' ∧ Fr F g g' ∧ CI a0 F g' (flyS s b (s 4 b (cl (s 3 b 0)))) n1 n2 n3 n4 q := by
    intro h
    rw [h]
    unfold f0_flyOrStay_51
    rw [if_pos b11, p_addStrength b11, x3, ob_some]
    have hS : Same (su s 3 b 7 (onS s b)) (su (su s 3 b 7 (onS s b)) 3 b 2 (strong (s 3 b 2 + 1))) := Same.b (by omega)
    refine ⟨_, rfl, putB (by omega), c.step (putB (by omega)) hS ?_ (RD.bee c.2.2 hb b18 b19 (show fld 4 2 by unfold fld; omega))⟩
    refine c.1.bee hS su3_5 su3_0 hb (fun b' h' => su3_o h') ?_
    have hst := strong_nI (n := st + 1) (by omega)
    refine WB.keep hS (c.wb hb) (by simp [su]) (by simp [su]) ⟨_, hst.2, ?_⟩ ⟨hon, e11, by rw [← e10]; simp [su]⟩ (by simpa [su] using e12) (by simpa [su] using h01)
    rw [← hst.1, ← nI_1, ← e8]
    simp [su]
  unfold f0_flyOrStay
  by_cases o0 : op = 0
  · rw [if_pos o0]
    exact hstay (hflyN fun h => by
      have := ho.mpr h.1
      rw [o0] at this
      exact absurd this (by decide))
  · rw [if_neg o0, if_pos b11, x3]
    have o1 : op = 1 := hop.resolve_left o0
    have hopen := ho.mp o1
    by_cases hlt : s 3 b 2 < s 2 j 2
    · rw [if_pos hlt]
      exact hstay (hflyN fun h => h.2 hlt)
    · rw [if_neg hlt, hflyP ⟨hopen, hlt⟩]
      have hds : d ≤ st := by
        rcases Nat.lt_or_ge st d with k | k
        · exfalso; apply hlt; rw [e8, hd]; exact nI_lt k (by omega)
        · exact k
      have z9 : gI (gPI (gPI g (F + 2 + 5 * b) 4 (s 3 b 2 - s 2 j 2)) (F + 2 + 5 * b) 3 (s 2 j 2)) (F + 2 + 5 * b) 9 = onS s b := by rw [← x7]; simp [gI_PI]
      have z2 : gI (gPI (gPI g (F + 2 + 5 * b) 4 (s 3 b 2 - s 2 j 2)) (F + 2 + 5 * b) 3 (s 2 j 2)) (F + 2 + 5 * b) 2 = s 3 b 0 := by rw [← x1]; simp [gI_PI]
      rw [z9, z2]
      have hS : Same (su s 3 b 7 (onS s b)) (su (su (su (su s 3 b 7 (onS s b)) 3 b 2 (s 3 b 2 - s 2 j 2)) 3 b 1 (s 2 j 2)) 3 b 0 (nextS s b)) := ((Same.b (by omega)).tr (Same.b (by omega))).tr (Same.b (by omega))
      have r1 := RD.bee (v := s 3 b 2 - s 2 j 2) c.2.2 hb b18 b19 (show fld 4 2 by unfold fld; omega)
      have r2 := RD.bee (v := s 2 j 2) r1 hb b18 b19 (show fld 3 1 by unfold fld; omega)
      have r3 := RD.bee (v := nextS s b) r2 hb b18 b19 (show fld 2 0 by unfold fld; omega)
      have hfr : Fr F g (gPI (gPI (gPI g (F + 2 + 5 * b) 4 (s 3 b 2 - s 2 j 2)) (F + 2 + 5 * b) 3 (s 2 j 2)) (F + 2 + 5 * b) 2 (nextS s b)) := ((putB (by omega)).tr (putB (by omega))).tr (putB (by omega))
      have hw : WF (su (su (su (su s 3 b 7 (onS s b)) 3 b 2 (s 3 b 2 - s 2 j 2)) 3 b 1 (s 2 j 2)) 3 b 0 (nextS s b)) n1 n2 n3 n4 q := by
        refine c.1.bee hS ((su3_5.trans su3_5).trans su3_5) ((su3_0.trans su3_0).trans su3_0) hb (fun b' h' => ((su3_o h').trans (su3_o h')).trans (su3_o h')) ?_
        have hnx : ∃ p', nextS s b = nI p' ∧ p' < z' := by
          rcases onS_next h5 hz hz7 e4 e5 e13 with ⟨o1, o2, o3⟩ | ⟨o1, o2, o3⟩
          · exact ⟨_, o3, by omega⟩
          · exact ⟨_, o3, o2⟩
        obtain ⟨p', hp1, hp2⟩ := hnx
        have s4 : (su (su (su (su s 3 b 7 (onS s b)) 3 b 2 (s 3 b 2 - s 2 j 2)) 3 b 1 (s 2 j 2)) 3 b 0 (nextS s b)) 4 = s 4 := (((su_T (by omega)).trans (su_T (by omega))).trans (su_T (by omega))).trans (su_T (by omega))
        refine ⟨z', p', d, st - d, hon, ?_, e2, e3, ?_, hp2, ?_, d6, ?_, by omega, ?_, e11, ?_, ?_, ?_, ?_⟩
        · rw [← h5]; simp [su]
        · rw [← hp1]; simp [su]
        · rw [← hd]; simp [su]
        · rw [← nI_sub hds, ← hd, ← e8]; simp [su]
        · rw [← e10]; simp [su]
        · simpa [su] using e12
        · simpa [su] using h01
        · rw [s4]; exact e14
        · intro k hk
          rw [s4, hS.slE, on_wy (by omega)]
          exact e15 k hk
      have hfin := c.step hfr hS hw r3
      by_cases on0 : onS s b = 0
      · rw [if_pos on0]
        have : nextS s b = s 3 b 0 + -1 := if_pos on0
        rw [this] at hfr hfin ⊢
        exact ⟨_, rfl, hfr, hfin⟩
      · rw [if_neg on0]
        have : nextS s b = s 3 b 0 + 1 := if_neg on0
        rw [this] at hfr hfin ⊢
        exact ⟨_, rfl, hfr, hfin⟩
end
section
/-! PURE: a quarter, quarters -/
theorem p_move65 {a0 F n1 n2 n3 n4 q b z j : Nat} {g : g_H} {s : Sg} (c : CI a0 F g (su s 3 b 7 (onS s b)) n1 n2 n3 n4 q) (hb : b < n3) (wb : WB s n1 b) (h5 : s 3 b 5 = nI z) (hz : 2 ≤ z) (hz7 : z ≤ 7) (hj : j < n2) (hl : sl s (s 4 b (cl (s 3 b 0))) (s 4 b (cl (nextS s b))) = nI j) {op : Int32} (hop : op = 0 ∨ op = 1) (ho : op = 1 ↔ opS s j) :
    ∃ g', f1_moveOn_65 g F (nI j) (F + 2 + 5 * b) op = some g' ∧ Fr F g g' ∧ CI a0 F g' (flyS s b (s 4 b (cl (s 3 b 0)))) n1 n2 n3 n4 q := by
  obtain ⟨b1, b2, b3, b4, b5, b6, b7, b8, b9, b10, b11, b12, b13, b14, b15, b16, b17, b18, b19, b20⟩ := clB c hb
  obtain ⟨g', x1, x2, x3⟩ := p_fly c hb wb h5 hz hz7 hj hl hop ho
  refine ⟨g', ?_, x2, x3⟩
  have s2 : (su s 3 b 7 (onS s b)) 2 j 2 = s 2 j 2 := su_t (by omega)
  unfold f1_moveOn_65
  rw [if_pos b1, b5, ob_some, if_pos b17, p_lengthOf c hj, gB2_some, if_pos b11, s2, x1, ob_some]
theorem p_moveOn {a0 F n1 n2 n3 n4 q b : Nat} {g : g_H} {s : Sg} (c : CI a0 F g s n1 n2 n3 n4 q) (hb : b < n3) {here : Int32} (hh : here = s 4 b (cl (s 3 b 0))) :
    ∃ g', f1_moveOn g F (F + 2 + 5 * b) here = some g' ∧ Fr F g g' ∧ CI a0 F g' (mvS s b here) n1 n2 n3 n4 q := by
  obtain ⟨b1, b2, b3, b4, b5, b6, b7, b8, b9, b10, b11, b12, b13, b14, b15, b16, b17, b18, b19, b20⟩ := clB c hb
  obtain ⟨z, p, h1, h2, h3, h4, h5, h6, h7, h8⟩ := c.house hb
  have cp : cl (nI p) = p := cl_nI (by omega)
  have hin : inR (nI n1) here := by rw [hh, h3, cp]; exact h8
  unfold f1_moveOn mvS
  rw [if_pos b1, b5, ob_some, if_pos b17, p_hasHive c hin, gB2_some, if_pos b11]
  by_cases r : s 3 b 4 = 0
  · rw [if_neg (c := ¬ s 3 b 4 = 0) (fun k => k r)]
    by_cases hv : ¬ s 1 (cl here) 0 = 0 ∧ ¬ (10 : Int32) ≤ s 3 b 2
    · rw [if_pos hv, if_neg hv.1]
      obtain ⟨g', x1, x2, x3⟩ := p_rest2 c hb r (v := 1) n10 hv.2
      rw [x1, gB2_some, if_neg n10]
      exact ⟨g', rfl, x2, x3⟩
    · rw [if_neg hv]
      obtain ⟨g1, x1, x2, x3⟩ := p_rest3 c hb r (v := if s 1 (cl here) 0 = 0 then 0 else 1) (by
        by_cases k : s 1 (cl here) 0 = 0
        · exact Or.inl (if_pos k)
        · refine Or.inr ?_
          by_cases k2 : (10 : Int32) ≤ s 3 b 2
          · exact k2
          · exact absurd ⟨k, k2⟩ hv)
      obtain ⟨c1, c2, c3, c4, c5, c6, c7, c8, c9, c10, c11, c12, c13, c14, c15, c16, c17, c18, c19, c20⟩ := clB x3 hb
      obtain ⟨z1, p1, i1, i2, i3, i4, i5, i6, i7, i8⟩ := x3.house hb
      rw [x1, gB2_some, if_pos rfl, if_pos c11, c12, ob_some, if_pos c16, p_length c16, gB2_some, i6]
      have z7 : z1 < 2 ^ 31 := by omega
      by_cases hz : s 3 b 5 = 1
      · rw [if_pos hz]
        have e : z1 = 1 := nI_inj (by omega) (by omega) (i1.symm.trans hz)
        subst e
        rw [if_neg (show ¬ (1 : Int32) < nI 1 by decide)]
        exact ⟨g1, rfl, x2, x3⟩
      · rw [if_neg hz]
        have hz2 : 2 ≤ z1 := by
          rcases Nat.lt_or_ge z1 2 with k | k
          · exfalso
            have : z1 = 1 := by omega
            subst this
            exact hz i1
          · exact k
        have hlt : (1 : Int32) < nI z1 := nI_lt (a := 1) (by omega) (by omega)
        obtain ⟨g2, y1, y2, y3⟩ := p_turn x3 hb
        obtain ⟨d1, d2, d3, d4, d5, d6, d7, d8, d9, d10, d11, d12, d13, d14, d15, d16, d17, d18, d19, d20⟩ := clB y3 hb
        obtain ⟨w1, w2⟩ := p_nextLane y3 hb (x3.wb hb) i1 hz2 i2
        rw [if_pos hlt, if_pos c11, y1, ob_some, if_pos d11, w1, gB2_some, if_pos d1, hh]
        obtain ⟨j, hj, hl⟩ := sl_in (by exact x3.1.1.2.2.1) x3.1.1.2.2.2.1 w2
        rw [hl]
        obtain ⟨v1, v2⟩ := p_isOpen y3 hj
        have e2 : (su s 3 b 7 (onS s b)) 2 = s 2 := su_T (by omega)
        have e0 : (su s 3 b 7 (onS s b)) 0 = s 0 := su_T (by omega)
        have eo : opS (su s 3 b 7 (onS s b)) j ↔ opS s j := by unfold opS hourS; rw [e2, e0]
        by_cases k : nI j = gI g2 F 7
        · rw [if_pos k]
          unfold f1_moveOn_60
          obtain ⟨g3, u1, u2, u3⟩ := p_move65 y3 hb (x3.wb hb) i1 hz2 i2 hj hl (op := 1) (Or.inr rfl) ⟨fun _ => eo.mp (v1 k), fun _ => rfl⟩
          exact ⟨g3, u1, (x2.tr y2).tr u2, u3⟩
        · rw [if_neg k, d5, ob_some, if_pos d17, d3]
          obtain ⟨v, v3, v4, v5⟩ := v2 k
          rw [v3, gB2_some]
          obtain ⟨g3, u1, u2, u3⟩ := p_move65 y3 hb (x3.wb hb) i1 hz2 i2 hj hl v4 (v5.trans eo)
          refine ⟨g3, ?_, (x2.tr y2).tr u2, u3⟩
          rcases v4 with q | q
          · rw [q] at u1 ⊢
            rw [if_pos rfl]; exact u1
          · rw [q] at u1 ⊢
            rw [if_neg n10]; exact u1
  · rw [if_pos r]
    obtain ⟨g', x1, x2, x3⟩ := p_rest1 c hb r (if s 1 (cl here) 0 = 0 then 0 else 1)
    rw [x1, gB2_some, if_neg n10]
    exact ⟨g', rfl, x2, x3⟩
theorem p_beeStep {a0 F n1 n2 n3 n4 q b : Nat} {g : g_H} {s : Sg} (c : CI a0 F g s n1 n2 n3 n4 q) (hb : b < n3) :
    ∃ g', (∀ K, f1_passQuarter_2b K g F (nI b) = K g' F (nI b + 1)) ∧ Fr F g g' ∧ CI a0 F g' (beeS s b) n1 n2 n3 n4 q := by
  obtain ⟨b1, b2, b3, b4, b5, b6, b7, b8, b9, b10, b11, b12, b13, b14, b15, b16, b17, b18, b19, b20⟩ := clB c hb
  obtain ⟨x1, x2, x3, x4, x5, x6, x7, x8⟩ := clC c hb
  have e3 : gI g F 3 = nI n3 := c.2.2.1.1.trans c.1.2.1
  have hix : ¬ (nI b < 0 ∨ 6 ≤ Int32.toNatClampNeg (nI b)) := nI_in (by omega) (by omega)
  have cb : Int32.toNatClampNeg (nI b) = b := cl_nI (by omega)
  -- behind the step on the lane
  have main : ∀ g1 s1, CI a0 F g1 s1 n1 n2 n3 n4 q → ∃ g', (∀ K, f1_passQuarter_34 K g1 F (nI b) (F + 2 + 5 * b) = K g' F (nI b + 1)) ∧ Fr F g1 g' ∧ CI a0 F g' (if s1 3 b 1 = 0 then mvS (coF (hoF s1 b (s1 4 b (cl (s1 3 b 0))) n4) b (s1 4 b (cl (s1 3 b 0))) n4) b (s1 4 b (cl (s1 3 b 0))) else s1) n1 n2 n3 n4 q := by
    intro g1 s1 c1
    obtain ⟨d1, d2, d3, d4, d5, d6, d7, d8, d9, d10, d11, d12, d13, d14, d15, d16, d17, d18, d19, d20⟩ := clB c1 hb
    obtain ⟨y1, y2, y3, y4, y5, y6, y7, y8⟩ := clC c1 hb
    unfold f1_passQuarter_34 f1_passQuarter_64
    by_cases l : s1 3 b 1 = 0
    · rw [if_pos l]
      obtain ⟨z, p, h1, h2, h3, h4, h5, h6, h7, h8⟩ := c1.house hb
      have cp : cl (nI p) = p := cl_nI (by omega)
      have hin : inR (nI n1) (s1 4 b (cl (s1 3 b 0))) := by rw [h3, cp]; exact h8
      have hne : s1 4 b (cl (s1 3 b 0)) ≠ -1 := by
        intro e
        rw [e] at hin
        exact hin.1 (by decide)
      obtain ⟨g2, p1, p2, p3⟩ := p_handOver c1 hb rfl
      obtain ⟨g3, q1, q2, q3⟩ := p_collect p3 hb hne
      have h0 : s1 4 b (cl (s1 3 b 0)) = (coF (hoF s1 b (s1 4 b (cl (s1 3 b 0))) n4) b (s1 4 b (cl (s1 3 b 0))) n4) 4 b (cl ((coF (hoF s1 b (s1 4 b (cl (s1 3 b 0))) n4) b (s1 4 b (cl (s1 3 b 0))) n4) 3 b 0)) := by
        rw [coF_3, hoF_p.1, coF_same.2.2.2.1, hoF_same.2.2.2.1]
      obtain ⟨g4, r1, r2, r3⟩ := p_moveOn q3 hb h0
      refine ⟨g4, fun K => ?_, (p2.tr q2).tr r2, r3⟩
      have f2 : (gS g2 F).1 = 2 := (clB p3 hb).1
      have f3 : (gS g3 F).1 = 2 := (clB q3 hb).1
      rw [if_pos d11, y2, if_pos l, clHouse c1 hb, gB2_some, if_pos d1, p1, ob_some, if_pos f2, q1, ob_some, if_pos f3, r1, ob_some]
    · rw [if_neg l]
      refine ⟨g1, fun K => ?_, Fr.rf, c1⟩
      rw [if_pos d11, y2, if_neg l]
  have hn4 : cl ((if 0 < s 3 b 1 then su s 3 b 1 (s 3 b 1 - 1) else s) 0 0 4) = n4 := by
    have : (if 0 < s 3 b 1 then su s 3 b 1 (s 3 b 1 - 1) else s) 0 0 4 = nI n4 := by
      split
      · rw [su3_0]; exact c.1.2.2.2.1
      · exact c.1.2.2.2.1
    rw [this]
    exact cl_nI (by omega)
  by_cases l : s 3 b 1 ≤ 0
  · obtain ⟨g', m1, m2, m3⟩ := main g s c
    refine ⟨g', fun K => ?_, m2, ?_⟩
    · unfold f1_passQuarter_2b
      rw [if_pos b1, e3, if_neg (nI_ge hb (by omega)), b6, ob_some, b8, if_pos rfl, if_pos hix, cb, b10, ob_some, if_pos b11, x2, if_pos l]
      exact m1 K
    · unfold beeS
      rw [if_neg (Int32.not_lt.mpr l)]
      rw [if_neg (Int32.not_lt.mpr l)] at hn4
      simp only [hn4]
      exact m3
  · have r1 := RD.bee (v := s 3 b 1 - 1) c.2.2 hb b18 b19 (show fld 3 1 by unfold fld; omega)
    have hS : Same s (su s 3 b 1 (s 3 b 1 - 1)) := Same.b (by omega)
    have c1 : CI a0 F (gPI g (F + 2 + 5 * b) 3 (s 3 b 1 - 1)) (su s 3 b 1 (s 3 b 1 - 1)) n1 n2 n3 n4 q := by
      refine c.step (putB (by omega)) hS ?_ r1
      refine c.1.bee hS su3_5 su3_0 hb (fun b' h' => su3_o h') ?_
      obtain ⟨z, p, l', st, ho, e1, e2, e3, e4, e5, e6, e7, e8, e9, e10, e11, e12, e13, e14, e15⟩ := c.wb hb
      have hl0 : 0 < l' := by
        rcases Nat.eq_zero_or_pos l' with k | k
        · exfalso; apply l; rw [e6, k]; decide
        · exact k
      have s4 : (su s 3 b 1 (s 3 b 1 - 1)) 4 = s 4 := su_T (by omega)
      refine ⟨z, p, l' - 1, st, ho, ?_, e2, e3, ?_, e5, ?_, by omega, ?_, e9, ?_, e11, ?_, ?_, ?_, ?_⟩
      · rw [← e1]; simp [su]
      · rw [← e4]; simp [su]
      · rw [su_s, e6, show (1 : Int32) = nI 1 from rfl, nI_sub hl0]
      · rw [← e8]; simp [su]
      · rw [← e10]; simp [su]
      · simpa [su] using e12
      · simpa [su] using e13
      · rw [s4]; exact e14
      · intro k hk
        rw [s4, hS.slE]
        exact e15 k hk
    obtain ⟨g', m1, m2, m3⟩ := main _ _ c1
    refine ⟨g', fun K => ?_, (putB (by omega)).tr m2, ?_⟩
    · unfold f1_passQuarter_2b
      rw [if_pos b1, e3, if_neg (nI_ge hb (by omega)), b6, ob_some, b8, if_pos rfl, if_pos hix, cb, b10, ob_some, if_pos b11, x2, if_neg l]
      exact m1 K
    · unfold beeS
      rw [if_pos (Int32.not_le.mp l)]
      rw [if_pos (Int32.not_le.mp l)] at hn4
      simp only [hn4]
      exact m3
end
section
/-! PURE: quarters, and the copy of the flight -/
theorem p_quLoop {a0 F n1 n2 n3 n4 q : Nat} {s0 : Sg} :
    ∀ m b fuel : Nat, ∀ g : g_H, b + m = n3 → m < fuel → CI a0 F g (beeF s0 b) n1 n2 n3 n4 q → (gS g F).1 = 2 →
    ∃ g', f1_passQuarter_2 fuel g F (nI b) = some g' ∧ Fr F g g' ∧ CI a0 F g' (su (beeF s0 n3) 0 0 0 (beeF s0 n3 0 0 0 + 1)) n1 n2 n3 n4 (q + 1) ∨ q + 1 ≥ 2 ^ 26 := by
  intro m
  induction m with
  | zero =>
    intro b fuel g him hf c hk
    obtain ⟨fu, rfl⟩ : ∃ fu, fuel = fu + 1 := ⟨fuel - 1, by omega⟩
    have : b = n3 := by omega
    subst this
    by_cases hq : q + 1 ≥ 2 ^ 26
    · exact ⟨g, Or.inr hq⟩
    have e3 : gI g F 3 = nI b := c.2.2.1.1.trans c.1.2.1
    have e5 : gI g F 5 = beeF s0 b 0 0 0 := c.2.2.1.2.2
    have hS : Same (beeF s0 b) (su (beeF s0 b) 0 0 0 (beeF s0 b 0 0 0 + 1)) := Same.q
    have hfr : Fr F g (gPI g F 5 (beeF s0 b 0 0 0 + 1)) := Fr.put (Or.inl rfl) (Or.inr (by omega))
    have h5 : (su (beeF s0 b) 0 0 0 (beeF s0 b 0 0 0 + 1)) 5 = beeF s0 b 5 := su_T (by omega)
    have h3 : (su (beeF s0 b) 0 0 0 (beeF s0 b 0 0 0 + 1)) 3 = beeF s0 b 3 := su_T (by omega)
    have h04 : (su (beeF s0 b) 0 0 0 (beeF s0 b 0 0 0 + 1)) 0 0 4 = beeF s0 b 0 0 4 := su_k (by omega)
    have hcar : ∀ b', car (su (beeF s0 b) 0 0 0 (beeF s0 b 0 0 0 + 1)) b' = car (beeF s0 b) b' := fun b' => by
      unfold car
      rw [h04]; exact carF_5 h5
    refine ⟨_, Or.inl ⟨?_, hfr, c.step hfr hS ?_ ?_⟩⟩
    · show f1_passQuarter_2b _ g F (nI b) = _
      unfold f1_passQuarter_2b
      rw [if_pos hk, e3, if_pos (Int32.le_refl _), e5]
    · obtain ⟨w1, w2, w3, w4, w5, w6, w7, w8, w9⟩ := c.1
      refine ⟨w1.same hS, (hS.1 3 (by omega)).trans w2, w3, (hS.1 4 (by omega)).trans w4, w5, ?_, by omega, fun b' hb' => ?_, fun i hi => ?_⟩
      · rw [su_s, w6, nI_1]
      · obtain ⟨x, y⟩ := w8 b' hb'
        refine ⟨?_, by rw [hcar]; exact y⟩
        obtain ⟨z, p, l, st, ho', e1, e2, e3, e4, e5, e6, e7, e8, e9, e10, e11, e12, e13, e14, e15⟩ := x
        refine WB.keep hS ⟨z, p, l, st, ho', e1, e2, e3, e4, e5, e6, e7, e8, e9, e10, e11, e12, e13, e14, e15⟩ ?_ ?_ ⟨st, e9, ?_⟩ ⟨ho', e11, ?_⟩ ?_ ?_ <;> rw [h3] <;> assumption
      · unfold WL; rw [h5]; exact w9 i hi
    · obtain ⟨d1, d2, d3, d4, d5⟩ := c.2.2
      refine ⟨⟨?_, ?_, ?_⟩, R3.o d2 (fun b' _ => by omega) h3, fun b' hb' => ?_, ?_, R7.o d5 (fun j _ => by omega) h5⟩
      · rw [su_k (by omega)]; simpa [gI_PI] using d1.1
      · rw [su_k (by omega)]; simpa [gI_PI] using d1.2.1
      · rw [su_s]; simp [gI_PI]
      · rw [hcar, gI_PI, if_neg (by omega)]; exact d3 b' hb'
      · unfold R5 arr
        rw [h04, gI_PI, if_pos rfl, if_neg (by omega)]
        refine d4.trans ?_
        exact (arrF_keep fun i _ => by rw [h5]).symm
  | succ m ih =>
    intro b fuel g him hf c hk
    obtain ⟨fu, rfl⟩ : ∃ fu, fuel = fu + 1 := ⟨fuel - 1, by omega⟩
    obtain ⟨g1, x1, x2, x3⟩ := p_beeStep c (show b < n3 by omega)
    obtain ⟨g2, y⟩ := ih (b + 1) fu g1 (by omega) (by omega) x3 (by rw [x2.1]; exact hk)
    rcases y with ⟨y1, y2, y3⟩ | y
    · refine ⟨g2, Or.inl ⟨?_, x2.tr y2, y3⟩⟩
      show f1_passQuarter_2b (f1_passQuarter_2 fu) g F (nI b) = _
      rw [x1, nI_1]
      exact y1
    · exact ⟨g2, Or.inr y⟩
theorem CI.kF {a0 F n1 n2 n3 n4 q : Nat} {g : g_H} {s : Sg} (c : CI a0 F g s n1 n2 n3 n4 q) : (gS g F).1 = 2 := c.2.1.2.2.1.1
theorem p_quarter {a0 F n1 n2 n3 n4 q : Nat} {g : g_H} {s : Sg} (c : CI a0 F g s n1 n2 n3 n4 q) (hq : q + 1 < 2 ^ 26) :
    ∃ g', f1_passQuarter g F = some g' ∧ Fr F g g' ∧ CI a0 F g' (quS s) n1 n2 n3 n4 (q + 1) := by
  have h6 : n3 ≤ 6 := c.1.2.2.1
  have e3 : cl (s 0 0 3) = n3 := by rw [c.1.2.1]; exact cl_nI (by omega)
  obtain ⟨g', h⟩ := p_quLoop (s0 := s) n3 0 300 g (by omega) (by omega) c c.kF
  rcases h with ⟨x1, x2, x3⟩ | h
  · refine ⟨g', x1, x2, ?_⟩
    unfold quS
    simp only [e3]
    exact x3
  · omega
theorem p_qusLoop {a0 F n1 n2 n3 n4 q N : Nat} {s0 : Sg} (x2 : Int32) (hq : q + N < 2 ^ 26) :
    ∀ m k fuel : Nat, ∀ g : g_H, k + m = N → m < fuel → CI a0 F g (quF s0 k) n1 n2 n3 n4 (q + k) →
    ∃ g', f1_passQuarters_7 fuel g F (nI N) x2 (nI k) = some (arr (quF s0 N) - x2, g') ∧ Fr F g g' ∧ CI a0 F g' (quF s0 N) n1 n2 n3 n4 (q + N) := by
  intro m
  induction m with
  | zero =>
    intro k fuel g him hf c
    obtain ⟨fu, rfl⟩ : ∃ fu, fuel = fu + 1 := ⟨fuel - 1, by omega⟩
    have : k = N := by omega
    subst this
    refine ⟨g, ?_, Fr.rf, c⟩
    show f1_passQuarters_7b _ g F (nI k) x2 (nI k) = _
    unfold f1_passQuarters_7b
    have e6 : gI g F 6 = arr (quF s0 k) := c.2.2.2.2.2.1
    rw [if_pos (Int32.le_refl _), if_pos c.kF, e6]
  | succ m ih =>
    intro k fuel g him hf c
    obtain ⟨fu, rfl⟩ : ∃ fu, fuel = fu + 1 := ⟨fuel - 1, by omega⟩
    obtain ⟨g1, y1, y2, y3⟩ := p_quarter c (by omega)
    obtain ⟨g2, z1, z2, z3⟩ := ih (k + 1) fu g1 (by omega) (by omega) y3
    refine ⟨g2, ?_, y2.tr z2, z3⟩
    show f1_passQuarters_7b (f1_passQuarters_7 fu) g F (nI N) x2 (nI k) = _
    unfold f1_passQuarters_7b
    rw [if_neg (nI_ge (by omega) (by omega)), if_pos c.kF, y1, ob_some, nI_1]
    exact z1
theorem p_quarters {a0 F n1 n2 n3 n4 q N : Nat} {g : g_H} {s : Sg} (c : CI a0 F g s n1 n2 n3 n4 q) (hN : N < 300) (hq : q + N < 2 ^ 26) :
    ∃ g', f1_passQuarters g F (nI N) = some (arr (quF s N) - arr s, g') ∧ Fr F g g' ∧ CI a0 F g' (quF s N) n1 n2 n3 n4 (q + N) := by
  unfold f1_passQuarters
  have e6 : gI g F 6 = arr s := c.2.2.2.2.2.1
  rw [if_pos c.kF, e6]
  exact p_qusLoop (arr s) hq N 0 300 g (by omega) (by omega) c
end
section
/-! PURE: the step on a lane -/
theorem c_laneP {a0 F n1 n2 n3 n4 q b : Nat} {g : g_H} {s : Sg} (c : CI a0 F g s n1 n2 n3 n4 q) (hb : b < n3) (l : ¬ s 3 b 1 ≤ 0) : CI a0 F (gPI g (F + 2 + 5 * b) 3 (s 3 b 1 - 1)) (su s 3 b 1 (s 3 b 1 - 1)) n1 n2 n3 n4 q := by
  obtain ⟨b1, b2, b3, b4, b5, b6, b7, b8, b9, b10, b11, b12, b13, b14, b15, b16, b17, b18, b19, b20⟩ := clB c hb
  have r1 := RD.bee (v := s 3 b 1 - 1) c.2.2 hb b18 b19 (show fld 3 1 by unfold fld; omega)
  have hS : Same s (su s 3 b 1 (s 3 b 1 - 1)) := Same.b (by omega)
  refine c.step (putB (by omega)) hS ?_ r1
  refine c.1.bee hS su3_5 su3_0 hb (fun b' h' => su3_o h') ?_
  obtain ⟨z, p, l', st, ho, e1, e2, e3, e4, e5, e6, e7, e8, e9, e10, e11, e12, e13, e14, e15⟩ := c.wb hb
  have hl0 : 0 < l' := by
    rcases Nat.eq_zero_or_pos l' with k | k
    · exfalso; apply l; rw [e6, k]; decide
    · exact k
  have s4 : (su s 3 b 1 (s 3 b 1 - 1)) 4 = s 4 := su_T (by omega)
  refine ⟨z, p, l' - 1, st, ho, ?_, e2, e3, ?_, e5, ?_, by omega, ?_, e9, ?_, e11, ?_, ?_, ?_, ?_⟩
  · rw [← e1]; simp [su]
  · rw [← e4]; simp [su]
  · rw [su_s, e6, show (1 : Int32) = nI 1 from rfl, nI_sub hl0]
  · rw [← e8]; simp [su]
  · rw [← e10]; simp [su]
  · simpa [su] using e12
  · simpa [su] using e13
  · rw [s4]; exact e14
  · intro k hk
    rw [s4, hS.slE]
    exact e15 k hk
theorem c_lane {a0 F n1 n2 n3 n4 q b : Nat} {g : g_H} {s : Sg} (c : CI a0 F g s n1 n2 n3 n4 q) (hb : b < n3) (l : ¬ s 3 b 1 ≤ 0) : ∃ g', CI a0 F g' (su s 3 b 1 (s 3 b 1 - 1)) n1 n2 n3 n4 q := ⟨_, c_laneP c hb l⟩
end
