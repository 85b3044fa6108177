/-! PURE: what is well formed, and how the class's cells hold the table -/
def Same (s t : Sg) : Prop := (∀ k, k ≠ 0 → t 0 0 k = s 0 0 k) ∧ t 1 = s 1 ∧ t 2 = s 2 ∧ t 4 = s 4 ∧ t 6 = s 6 ∧ ∀ b, t 3 b 5 = s 3 b 5
theorem Same.rf {s : Sg} : Same s s := ⟨fun _ _ => rfl, rfl, rfl, rfl, rfl, fun _ => rfl⟩
theorem Same.tr {s t u : Sg} (h : Same s t) (h' : Same t u) : Same s u := ⟨fun k hk => (h'.1 k hk).trans (h.1 k hk), h'.2.1.trans h.2.1, h'.2.2.1.trans h.2.2.1, h'.2.2.2.1.trans h.2.2.2.1, h'.2.2.2.2.1.trans h.2.2.2.2.1, fun b => (h'.2.2.2.2.2 b).trans (h.2.2.2.2.2 b)⟩
theorem Same.l {s : Sg} {i k : Nat} {v : Int32} : Same s (su s 5 i k v) :=
  ⟨fun _ _ => su_t (by omega), funext fun _ => funext fun _ => su_t (by omega), funext fun _ => funext fun _ => su_t (by omega), funext fun _ => funext fun _ => su_t (by omega), funext fun _ => funext fun _ => su_t (by omega), fun _ => su_t (by omega)⟩
theorem Same.b {s : Sg} {i k : Nat} {v : Int32} (hk : k ≠ 5) : Same s (su s 3 i k v) :=
  ⟨fun _ _ => su_t (by omega), funext fun _ => funext fun _ => su_t (by omega), funext fun _ => funext fun _ => su_t (by omega), funext fun _ => funext fun _ => su_t (by omega), funext fun _ => funext fun _ => su_t (by omega), fun _ => su_k (Ne.symm hk)⟩
theorem Same.q {s : Sg} {v : Int32} : Same s (su s 0 0 0 v) :=
  ⟨fun _ hk => su_k hk, funext fun _ => funext fun _ => su_t (by omega), funext fun _ => funext fun _ => su_t (by omega), funext fun _ => funext fun _ => su_t (by omega), funext fun _ => funext fun _ => su_t (by omega), fun _ => su_t (by omega)⟩
theorem Same.wyE {s t : Sg} (h : Same s t) (x y : Int32) : wy t x y = wy s x y := by
  unfold wy
  rw [h.1 1 (by omega), h.2.2.2.2.1]
theorem Same.tgFE {s t : Sg} (h : Same s t) (b : Nat) (to : Int32) (k : Nat) : tgF t b to k = tgF s b to k := by
  induction k with
  | zero => rfl
  | succ k ih =>
    show (if _ then _ else _) = (if _ then _ else _)
    rw [ih, h.wyE, h.2.2.2.1]
theorem Same.tgE {s t : Sg} (h : Same s t) (b : Nat) (to : Int32) : tg t b to = tg s b to := by
  show (tgF t b to _).1 = (tgF s b to _).1
  rw [h.tgFE, h.2.2.2.2.2]
theorem Same.slFE {s t : Sg} (h : Same s t) (a b : Int32) (k : Nat) : slF t a b k = slF s a b k := by
  induction k with
  | zero => rfl
  | succ k ih =>
    show (if _ then _ else _) = (if _ then _ else _)
    rw [ih, h.2.2.1]
theorem Same.slE {s t : Sg} (h : Same s t) (a b : Int32) : sl t a b = sl s a b := by
  show slF t a b _ = slF s a b _
  rw [h.slFE, h.1 2 (by omega)]
def WT (s : Sg) (n1 n2 : Nat) : Prop := s 0 0 1 = nI n1 ∧ n1 ≤ 14 ∧ s 0 0 2 = nI n2 ∧ n2 ≤ 24 ∧
  (∀ i, i < n2 → inR (nI n1) (s 2 i 0) ∧ inR (nI n1) (s 2 i 1) ∧ s 2 i 0 ≠ s 2 i 1 ∧ (∃ d, 1 ≤ d ∧ d ≤ 6 ∧ s 2 i 2 = nI d) ∧ ∃ f t, f ≤ 23 ∧ f ≤ t ∧ t ≤ 24 ∧ s 2 i 3 = nI f ∧ s 2 i 4 = nI t) ∧
  (∀ h, h < 14 → s 1 h 0 = 0 ∨ s 1 h 0 = 1) ∧ (∀ x y, x < n1 → y < n1 → ∃ d, d ≤ 1000 ∧ s 6 x y = nI d)
def WB (s : Sg) (n1 b : Nat) : Prop := ∃ z p l st ho : Nat, s 3 b 5 = nI z ∧ 1 ≤ z ∧ z ≤ 7 ∧ s 3 b 0 = nI p ∧ p < z ∧ s 3 b 1 = nI l ∧ l ≤ 6 ∧ s 3 b 2 = nI st ∧ st ≤ 30 ∧ s 3 b 3 = nI ho ∧ ho ≤ 20 ∧ (s 3 b 4 = 0 ∨ s 3 b 4 = 1) ∧ (s 3 b 7 = 0 ∨ s 3 b 7 = 1) ∧
  (∀ k, k < z → inR (nI n1) (s 4 b k)) ∧ (∀ k, k + 1 < z → sl s (s 4 b k) (s 4 b (k + 1)) ≠ -1)
def WL (s : Sg) (n1 n3 i : Nat) : Prop := inR (nI n1) (s 5 i 0) ∧ (s 5 i 1 = -1 ∨ inR (nI n1) (s 5 i 1)) ∧ (s 5 i 2 = -1 ∨ ∃ b, b < n3 ∧ s 5 i 2 = nI b) ∧ (s 5 i 2 ≠ -1 → s 5 i 1 = -1 ∧ s 5 i 3 = -1) ∧ (s 5 i 3 ≠ -1 → s 5 i 1 = -1 ∧ s 5 i 2 = -1) ∧ (s 5 i 3 = -1 ∨ ∃ t, t < 2 ^ 26 ∧ s 5 i 3 = nI t)
def WF (s : Sg) (n1 n2 n3 n4 q : Nat) : Prop := WT s n1 n2 ∧ s 0 0 3 = nI n3 ∧ n3 ≤ 6 ∧ s 0 0 4 = nI n4 ∧ n4 ≤ 20 ∧ s 0 0 0 = nI q ∧ q < 2 ^ 26 ∧ (∀ b, b < n3 → WB s n1 b ∧ ∃ c, c ≤ 3 ∧ car s b = nI c) ∧ ∀ i, i < n4 → WL s n1 n3 i
theorem WT.same {s t : Sg} {n1 n2 : Nat} (h : Same s t) (w : WT s n1 n2) : WT t n1 n2 := by
  obtain ⟨w1, w2, w3, w4, w5, w6, w7⟩ := w
  refine ⟨(h.1 1 (by omega)).trans w1, w2, (h.1 2 (by omega)).trans w3, w4, fun i hi => ?_, fun x hx => ?_, fun x y hx hy => ?_⟩
  · rw [h.2.2.1]; exact w5 i hi
  · rw [h.2.1]; exact w6 x hx
  · rw [h.2.2.2.2.1]; exact w7 x y hx hy
/-- which cells a flight's quarters change -/
def chg (F a : Nat) : Prop := a = F ∨ (∃ b, b < 6 ∧ a = F + 2 + 5 * b) ∨ ∃ i, i < 20 ∧ a = F + 33 + i
def Fr (F : Nat) (g h : g_H) : Prop := gS h = gS g ∧ gR h = gR g ∧ gJ h = gJ g ∧ gZ h = gZ g ∧ (gI h F 7 = gI g F 7 ∧ ∀ a, gI h a 0 = gI g a 0) ∧ ∀ a, ¬ chg F a → gI h a = gI g a
theorem Fr.rf {F : Nat} {g : g_H} : Fr F g g := ⟨rfl, rfl, rfl, rfl, ⟨rfl, fun _ => rfl⟩, fun _ _ => rfl⟩
theorem Fr.tr {F : Nat} {g h k : g_H} (x : Fr F g h) (y : Fr F h k) : Fr F g k := ⟨y.1.trans x.1, y.2.1.trans x.2.1, y.2.2.1.trans x.2.2.1, y.2.2.2.1.trans x.2.2.2.1, ⟨y.2.2.2.2.1.1.trans x.2.2.2.2.1.1, fun a => (y.2.2.2.2.1.2 a).trans (x.2.2.2.2.1.2 a)⟩, fun a ha => (y.2.2.2.2.2 a ha).trans (x.2.2.2.2.2 a ha)⟩
theorem Fr.put {F a k : Nat} {g : g_H} {v : Int32} (h : chg F a) (h7 : a ≠ F ∨ k ≠ 7) (h0 : k ≠ 0 := by omega) : Fr F g (gPI g a k v) := by
  refine ⟨rfl, rfl, rfl, rfl, ⟨?_, fun b => ?_⟩, fun b hb => ?_⟩
  · rw [gI_PI]
    by_cases e : F = a
    · rw [if_pos e, if_neg (by rcases h7 with h7 | h7 <;> omega)]
    · rw [if_neg e]
  · rw [gI_PI, if_neg h0.symm]
    split <;> rfl
  · have e : b ≠ a := fun q => hb (q ▸ h)
    exact gU_o e
def R1 (a0 F : Nat) (g : g_H) (s : Sg) (n2 : Nat) : Prop := gI g (a0 + 1) 0 = s 0 0 1 ∧ gI g (a0 + 1) 1 = s 0 0 2 ∧ (∀ h, h < 14 → gI g (a0 + 2) h = s 1 h 0) ∧
  (∀ i, i < n2 → (∀ k, k < 3 → gI g (a0 + 4 + i) k = s 2 i k) ∧ (nI i = gI g F 7 → s 2 i 3 = 0 ∧ s 2 i 4 = 24) ∧ (nI i ≠ gI g F 7 → gI g (a0 + 4 + i) 3 = s 2 i 3 ∧ gI g (a0 + 4 + i) 4 = s 2 i 4)) ∧ ∀ x y, x < 14 → y < 14 → gI g (a0 + 29 + x) y = s 6 x y
def R2 (F : Nat) (g : g_H) (s : Sg) : Prop := gI g F 3 = s 0 0 3 ∧ gI g F 4 = s 0 0 4 ∧ gI g F 5 = s 0 0 0
def R3 (a0 F : Nat) (g : g_H) (s : Sg) (n3 : Nat) : Prop := ∀ b, b < n3 → gR g (F + 2 + 5 * b) 1 = some (a0 + 46 + 5 * b) ∧ gI g (F + 2 + 5 * b) 0 = nI b ∧ gI g (F + 2 + 5 * b) 2 = s 3 b 0 ∧ gI g (F + 2 + 5 * b) 3 = s 3 b 1 ∧ gI g (F + 2 + 5 * b) 4 = s 3 b 2 ∧ gI g (F + 2 + 5 * b) 5 = s 3 b 3 ∧ gI g (F + 2 + 5 * b) 7 = s 3 b 4 ∧ gI g (F + 2 + 5 * b) 8 = s 3 b 6 ∧ gI g (F + 2 + 5 * b) 9 = s 3 b 7
def R4 (F : Nat) (g : g_H) (s : Sg) (n3 : Nat) : Prop := ∀ b, b < n3 → gI g (F + 2 + 5 * b) 6 = car s b
def R5 (F : Nat) (g : g_H) (s : Sg) : Prop := gI g F 6 = arr s
def R6 (a0 : Nat) (g : g_H) (s : Sg) (n3 : Nat) : Prop := ∀ b, b < n3 → gI g (a0 + 46 + 5 * b) 0 = s 3 b 5 ∧ (∀ k, k < cl (s 3 b 5) → gI g (a0 + 47 + 5 * b) k = s 4 b k) ∧ (∀ k, k + 1 < cl (s 3 b 5) → gI g (a0 + 48 + 5 * b) k = sl s (s 4 b k) (s 4 b (k + 1))) ∧ ∀ h, h < 14 → gI g (a0 + 49 + 5 * b) h = tg s b (nI h)
def R7 (F : Nat) (g : g_H) (s : Sg) (n4 : Nat) : Prop := ∀ i, i < n4 → ∀ k, k < 5 → gI g (F + 33 + i) k = s 5 i k
def RS (a0 F : Nat) (g : g_H) (s : Sg) (n2 n3 : Nat) : Prop := (F = a0 + 43 ∨ F = a0 + 96) ∧ TL a0 g ∧ FL a0 F g ∧ (∀ b, b < 6 → RtL (a0 + 46 + 5 * b) g) ∧ R1 a0 F g s n2 ∧ R6 a0 g s n3
def RD (a0 F : Nat) (g : g_H) (s : Sg) (n3 n4 : Nat) : Prop := R2 F g s ∧ R3 a0 F g s n3 ∧ R4 F g s n3 ∧ R5 F g s ∧ R7 F g s n4
theorem RS.fr {a0 F n2 n3 : Nat} {g h : g_H} {s t : Sg} (r : RS a0 F g s n2 n3) (f : Fr F g h) (hs : Same s t) (hn3 : n3 ≤ 6) (hn2 : n2 ≤ 24) : RS a0 F h t n2 n3 := by
  obtain ⟨hF, r1, r2, r3, r4, r5⟩ := r
  obtain ⟨f1, f2, f3, f4, f5, f6⟩ := f
  have nc : ∀ a, (a < F ∨ (F < a ∧ a < F + 32 ∧ (a - F) % 5 ≠ 2)) → ¬ chg F a := by
    intro a ha hc
    rcases hc with h | ⟨b, hb, h⟩ | ⟨i, hi, h⟩ <;> omega
  refine ⟨hF, ?_, ?_, ?_, ?_, ?_⟩
  · unfold TL; rw [f1, f2]; exact r1
  · unfold FL; rw [f1, f2]; exact r2
  · intro b hb; unfold RtL; rw [f1, f2]; exact r3 b hb
  · obtain ⟨q1, q2, q3, q4, q5⟩ := r4
    refine ⟨?_, ?_, fun x hx => ?_, fun i hi => ?_, fun x y hx hy => ?_⟩
    · rw [f6 _ (nc _ (by omega)), hs.1 1 (by omega)]; exact q1
    · rw [f6 _ (nc _ (by omega)), hs.1 2 (by omega)]; exact q2
    · rw [f6 _ (nc _ (by omega)), hs.2.1]; exact q3 x hx
    · rw [f6 _ (nc _ (by omega)), hs.2.2.1, f5.1]; exact q4 i hi
    · rw [f6 _ (nc _ (by omega)), hs.2.2.2.2.1]; exact q5 x y hx hy
  · intro b hb
    obtain ⟨q1, q2, q3, q4⟩ := r5 b hb
    have n1 : ∀ j, j < 4 → ¬ chg F (a0 + 46 + j + 5 * b) := by
      intro j hj hc
      rcases hc with h | ⟨b', hb', h⟩ | ⟨i, hi, h⟩ <;> omega
    refine ⟨?_, fun k hk => ?_, fun k hk => ?_, fun x hx => ?_⟩
    · rw [f6 _ (n1 0 (by omega)), hs.2.2.2.2.2]; exact q1
    · rw [hs.2.2.2.2.2] at hk
      rw [f6 _ (n1 1 (by omega)), hs.2.2.2.1]; exact q2 k hk
    · rw [hs.2.2.2.2.2] at hk
      rw [f6 _ (n1 2 (by omega)), hs.2.2.2.1, hs.slE]; exact q3 k hk
    · rw [f6 _ (n1 3 (by omega)), hs.tgE]; exact q4 x hx
