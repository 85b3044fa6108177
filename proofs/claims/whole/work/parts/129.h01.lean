/-! PURE: how a route is read -/
theorem shr28 {X p : Nat} (hX : X < 2 ^ 28) (hp : p ≤ 6) : nI X >>> (nI (4 * p) &&& 31) = nI (X / 2 ^ (4 * p)) := by
  show Int32.ofNat X >>> (Int32.ofNat (4 * p) &&& 31) = Int32.ofNat (X / 2 ^ (4 * p))
  have h31 : Int32.ofNat (4 * p) &&& 31 = Int32.ofNat (4 * p) := by
    match p, hp with
    | 0, _ => decide
    | 1, _ => decide
    | 2, _ => decide
    | 3, _ => decide
    | 4, _ => decide
    | 5, _ => decide
    | 6, _ => decide
  rw [h31]
  apply Int32.toBitVec_inj.mp
  rw [Int32.toBitVec_shiftRight]
  have hs : ((Int32.ofNat (4 * p)).toBitVec.smod 32) = BitVec.ofNat 32 (4 * p) := by
    match p, hp with
    | 0, _ => decide
    | 1, _ => decide
    | 2, _ => decide
    | 3, _ => decide
    | 4, _ => decide
    | 5, _ => decide
    | 6, _ => decide
  rw [hs]
  have ht : (Int32.ofNat X).toBitVec = BitVec.ofNat 32 X := rfl
  have hu : (Int32.ofNat (X / 2 ^ (4 * p))).toBitVec = BitVec.ofNat 32 (X / 2 ^ (4 * p)) := rfl
  rw [ht, hu]
  show BitVec.sshiftRight (BitVec.ofNat 32 X) (BitVec.ofNat 32 (4 * p)).toNat = _
  have hm : (BitVec.ofNat 32 X).msb = false := by
    rw [BitVec.msb_eq_decide]
    simp
    omega
  rw [BitVec.sshiftRight_eq_of_msb_false hm]
  apply BitVec.eq_of_toNat_eq
  have h1 : X / 2 ^ (4 * p) ≤ X := Nat.div_le_self _ _
  rw [BitVec.toNat_ushiftRight, BitVec.toNat_ofNat, BitVec.toNat_ofNat, BitVec.toNat_ofNat, Nat.shiftRight_eq_div_pow, Nat.mod_eq_of_lt (a := X) (by omega), Nat.mod_eq_of_lt (a := 4 * p) (by omega), Nat.mod_eq_of_lt (by omega)]
/-- what is left of the digits at place p, and the house there -/
def rs (x : Int32) (p : Nat) : Int32 := x >>> (nI (4 * p) &&& 31)
def dg (x : Int32) (p : Nat) : Int32 := (rs x p &&& 15) - 1
def upw (w : Nat → Int32) (n : Nat) (v : Int32) : Nat → Int32 := fun i => if i = n then v else w i
abbrev okR (s : Sg) (n1 n : Nat) (w : Nat → Int32) (v : Int32) : Prop := inR (nI n1) v ∧ (∀ i, i < n → w i ≠ v) ∧ (n = 0 ∨ sl s (w (n - 1)) v ≠ -1)
def rdS (s : Sg) (n1 : Nat) (x : Int32) : Nat → Nat → (Nat → Int32) → Option (Nat × (Nat → Int32))
  | 0, n, w => some (n, w)
  | p + 1, n, w => if rs x p = 0 then rdS s n1 x p n w else if okR s n1 n w (dg x p) then rdS s n1 x p (n + 1) (upw w n (dg x p)) else none
/-- a row that is a route -/
def GW (s : Sg) (n1 n : Nat) (w : Nat → Int32) : Prop := (∀ i, i < n → inR (nI n1) (w i)) ∧ (∀ i, i + 1 < n → sl s (w i) (w (i + 1)) ≠ -1) ∧ ∀ i j, i < j → j < n → w i ≠ w j
theorem GW.up {s : Sg} {n1 n : Nat} {w : Nat → Int32} {v : Int32} (h : GW s n1 n w) (k : okR s n1 n w v) : GW s n1 (n + 1) (upw w n v) := by
  obtain ⟨h1, h2, h3⟩ := h
  obtain ⟨k1, k2, k3⟩ := k
  refine ⟨fun i hi => ?_, fun i hi => ?_, fun i j hij hj => ?_⟩
  · unfold upw
    by_cases e : i = n
    · rw [if_pos e]; exact k1
    · rw [if_neg e]; exact h1 i (by omega)
  · unfold upw
    rw [if_neg (show ¬ i = n by omega)]
    by_cases e : i + 1 = n
    · rw [if_pos e]
      have := k3.resolve_left (by omega)
      rw [show n - 1 = i by omega] at this
      exact this
    · rw [if_neg e]; exact h2 i (by omega)
  · unfold upw
    rw [if_neg (show ¬ i = n by omega)]
    by_cases e : j = n
    · rw [if_pos e]; exact k2 i (by omega)
    · rw [if_neg e]; exact h3 i j hij (by omega)
theorem rdS_ok {s : Sg} {n1 : Nat} {x : Int32} : ∀ k n w n' w', GW s n1 n w → rdS s n1 x k n w = some (n', w') → GW s n1 n' w' ∧ n ≤ n' ∧ n' ≤ n + k ∧ (0 < k → rs x 0 ≠ 0 → 1 ≤ n') := by
  intro k
  induction k with
  | zero =>
    intro n w n' w' h e
    have e' : (n, w) = (n', w') := Option.some.inj e
    obtain ⟨rfl, rfl⟩ := Prod.mk.inj e'
    exact ⟨h, Nat.le_refl _, by omega, fun q => absurd q (by omega)⟩
  | succ k ih =>
    intro n w n' w' h e
    unfold rdS at e
    by_cases c : rs x k = 0
    · rw [if_pos c] at e
      obtain ⟨x1, x2, x3, x4⟩ := ih n w n' w' h e
      refine ⟨x1, x2, by omega, fun _ h0 => ?_⟩
      by_cases k0 : k = 0
      · subst k0; exact absurd c h0
      · exact x4 (by omega) h0
    · rw [if_neg c] at e
      by_cases o : okR s n1 n w (dg x k)
      · rw [if_pos o] at e
        obtain ⟨x1, x2, x3, x4⟩ := ih _ _ n' w' (h.up o) e
        exact ⟨x1, by omega, by omega, fun _ _ => by omega⟩
      · rw [if_neg o] at e
        exact absurd e (by simp)
/-- changes of the draft -/
def Fdd (a0 : Nat) (g h : g_H) : Prop := gS h = gS g ∧ gR h = gR g ∧ gJ h = gJ g ∧ gZ h = gZ g ∧ ∀ a, ¬ (a0 + 149 ≤ a ∧ a ≤ a0 + 152) → gI h a = gI g a
theorem Fdd.rf {a0 : Nat} {g : g_H} : Fdd a0 g g := ⟨rfl, rfl, rfl, rfl, fun _ _ => rfl⟩
theorem Fdd.tr {a0 : Nat} {g h k : g_H} (x : Fdd a0 g h) (y : Fdd a0 h k) : Fdd a0 g k := ⟨y.1.trans x.1, y.2.1.trans x.2.1, y.2.2.1.trans x.2.2.1, y.2.2.2.1.trans x.2.2.2.1, fun a ha => (y.2.2.2.2 a ha).trans (x.2.2.2.2 a ha)⟩
theorem Fdd.put {a0 a k : Nat} {g : g_H} {v : Int32} (h : a0 + 149 ≤ a ∧ a ≤ a0 + 152) : Fdd a0 g (gPI g a k v) := ⟨rfl, rfl, rfl, rfl, fun b hb => gU_o fun q => hb (q ▸ h)⟩
theorem Fdd.fc {a0 : Nat} {g h : g_H} (f : Fdd a0 g h) : Fc a0 g h := ⟨f.2.2.2.1, f.1, f.2.2.1, fun a ha => ⟨f.2.2.2.2 a (by omega), by rw [f.2.1]⟩⟩
theorem ClI.dr {a0 n1 n2 n3 n4 q : Nat} {g h : g_H} {s : Sg} (I : ClI a0 g s n1 n2 n3 n4 q) (f : Fdd a0 g h) : ClI a0 h s n1 n2 n3 n4 q := by
  obtain ⟨hS, hR, hJ, hZ, hI⟩ := f
  have ag : Ag a0 (a0 + 95) g h := fun a h1 h2 => ⟨by rw [hS], by rw [hR], hI a (by omega)⟩
  obtain ⟨w1, w2, w3, w4⟩ := I
  refine ⟨w1.ag ag (by omega) (by omega), ?_, by rw [(ag (a0 + 43) (by omega) (by omega)).2.2]; exact w3, w4⟩
  obtain ⟨t1, t2, t3, t4, t5, t6, t7, t8⟩ := w2
  refine ⟨by rw [hS]; exact t1, by rw [hR]; exact t2, by rw [hR]; exact t3, by rw [hR]; exact t4, by rw [hR]; exact t5, ?_, ?_, fun b hb => ?_⟩
  · unfold FL; rw [hS, hR]; exact t6
  · unfold RtL; rw [hS, hR]; exact t7
  · rw [hR, hI _ (by omega), hI _ (by omega)]; exact t8 b hb
/-- what the draft holds -/
def Dq (a0 : Nat) (g : g_H) (s : Sg) (n : Nat) (w : Nat → Int32) : Prop := gI g (a0 + 149) 0 = nI n ∧ (∀ i, i < n → gI g (a0 + 150) i = w i) ∧ ∀ i, i + 1 < n → gI g (a0 + 151) i = sl s (w i) (w (i + 1))
theorem p_joins {g : g_H} {L : Nat} (h : (gS g L).1 = 3) (x y : Int32) : f2_joins g L x y = some (if (gI g L 0 = x ∧ gI g L 1 = y) ∨ (gI g L 0 = y ∧ gI g L 1 = x) then 1 else 0, g) := by
  have h16 : ¬ (gI g L 0 = x ∧ gI g L 1 = y) → f2_joins_16 g L x y = some (if (gI g L 0 = x ∧ gI g L 1 = y) ∨ (gI g L 0 = y ∧ gI g L 1 = x) then 1 else 0, g) := by
    intro no
    unfold f2_joins_16
    rw [if_pos h]
    by_cases a : gI g L 0 = y
    · rw [if_pos a]
      by_cases b : gI g L 1 = x
      · rw [if_pos b, if_pos (Or.inr ⟨a, b⟩)]
      · rw [if_neg b, if_neg fun k => k.elim no fun k => b k.2]
    · rw [if_neg a, if_neg fun k => k.elim no fun k => a k.1]
  unfold f2_joins
  rw [if_pos h]
  by_cases a : gI g L 0 = x
  · by_cases b : gI g L 1 = y
    · rw [if_pos (show (gI g L 0 = x ∧ gI g L 1 = y) ∨ (gI g L 0 = y ∧ gI g L 1 = x) from Or.inl ⟨a, b⟩), if_pos a, if_pos b]
    · rw [h16 fun k => b k.2]
      rw [if_pos a, if_neg b]
  · rw [h16 fun k => a k.1]
    rw [if_neg a]
theorem p_slLoop {a0 F n1 n2 n3 n4 q : Nat} {g : g_H} {s : Sg} {a b : Int32} (c : CI a0 F g s n1 n2 n3 n4 q) (h7 : (gS g (a0 + 1)).1 = 6) (hn : gI g (a0 + 1) 1 = nI n2) (h24 : n2 ≤ 24) :
    ∀ k i fuel : Nat, i + k = n2 → k < fuel → f5_shortestLane_5 fuel g (a0 + 1) a b (slF s a b i) (nI i) = some (slF s a b n2, g) := by
  intro k
  induction k with
  | zero =>
    intro i fuel h hf
    obtain ⟨fu, rfl⟩ : ∃ fu, fuel = fu + 1 := ⟨fuel - 1, by omega⟩
    have : i = n2 := by omega
    subst this
    show f5_shortestLane_5b (f5_shortestLane_5 fu) g _ a b _ (nI i) = _
    unfold f5_shortestLane_5b
    rw [if_pos h7, hn, if_pos (Int32.le_refl _)]
  | succ k ih =>
    intro i fuel h hf
    obtain ⟨fu, rfl⟩ : ∃ fu, fuel = fu + 1 := ⟨fuel - 1, by omega⟩
    have hrec := ih (i + 1) fu (by omega) (by omega)
    obtain ⟨e1, e2, e3, e4, e5, e6, e7, e8⟩ := p_lane c (show i < n2 by omega)
    have ci : Int32.toNatClampNeg (nI i) = i := cl_nI (by omega)
    have r := (c.2.1.2.2.2.2.1.2.2.2.1 i (by omega)).1
    have j0 := r 0 (by omega)
    have j1 := r 1 (by omega)
    have j2 := r 2 (by omega)
    show f5_shortestLane_5b (f5_shortestLane_5 fu) g _ a b _ (nI i) = _
    unfold f5_shortestLane_5b f5_shortestLane_52 f5_shortestLane_55
    rw [if_pos h7, hn, if_neg (nI_ge (by omega) (by omega)), e1, ob_some, e2, if_pos rfl, if_pos (ixOk (by omega) (by omega)), ci, e3, ob_some, if_pos e4, p_joins e4, gB2_some, j0, j1, nI_1]
    by_cases hj : (s 2 i 0 = a ∧ s 2 i 1 = b) ∨ (s 2 i 0 = b ∧ s 2 i 1 = a)
    · rw [if_pos hj, if_neg n10]
      rcases slF_in (s := s) (a := a) (b := b) (k := i) with z | ⟨j, hj2, z⟩
      · have e : slF s a b (i + 1) = nI i := if_pos ⟨hj, Or.inl z⟩
        rw [if_pos z, ← e]
        exact hrec
      · have zn : slF s a b i ≠ -1 := by rw [z]; exact nI_m1 (by omega)
        have lo : f5_lengthOf g (a0 + 1) (slF s a b i) = some (s 2 j 2, g) := by rw [z]; exact p_lengthOf c (by omega)
        rw [if_neg zn, if_pos h7, e1, ob_some, e2, if_pos rfl, if_pos (ixOj (by omega) (by omega)), e3, ob_some, if_pos e4, lo, gB2_some, j2]
        have cj : cl (slF s a b i) = j := by rw [z]; exact cl_nI (by omega)
        by_cases c' : s 2 j 2 ≤ s 2 i 2
        · have e : slF s a b (i + 1) = slF s a b i := if_neg fun k => by
            rcases k.2 with k2 | k2
            · exact zn k2
            · rw [cj] at k2; exact Int32.not_lt.mpr c' k2
          rw [if_pos c', ← e]
          exact hrec
        · have e : slF s a b (i + 1) = nI i := if_pos ⟨hj, Or.inr (by rw [cj]; exact Int32.not_le.mp c')⟩
          rw [if_neg c', ← e]
          exact hrec
    · have e : slF s a b (i + 1) = slF s a b i := if_neg fun k => hj k.1
      rw [if_neg hj, if_pos rfl, ← e]
      exact hrec
theorem p_sl {a0 n1 n2 n3 n4 q : Nat} {g : g_H} {s : Sg} (I : ClI a0 g s n1 n2 n3 n4 q) (a b : Int32) : f5_shortestLane g (a0 + 1) a b = some (sl s a b, g) := by
  obtain ⟨s1, s2, s3, s4, s5, s6, s7, s8, s9, s10, s11, s12, s13, s14, s15⟩ := I.sh
  have := p_slLoop (a := a) (b := b) I.1 s6 s9 s13 n2 0 300 (by omega) (by omega)
  unfold sl
  rw [I.1.1.1.2.2.1, show cl (nI n2) = n2 from cl_nI (by omega)]
  exact this
theorem p_placeOf {g : g_H} {r n : Nat} {w : Nat → Int32} (h : RtL r g) (hn : gI g r 0 = nI n) (h7 : n ≤ 7) (hw : ∀ i, i < n → gI g (r + 1) i = w i) (v : Int32) :
    ∃ p, f4_placeOf g r v = some (p, g) ∧ ((p = -1 ∧ ∀ i, i < n → w i ≠ v) ∨ ∃ j, j < n ∧ p = nI j ∧ w j = v) := by
  obtain ⟨h1, h2, h3, h4, h5, h6, h8⟩ := h
  have lp : ∀ k i fuel : Nat, i + k = n → k < fuel → (∀ j, j < i → w j ≠ v) → ∃ p, f4_placeOf_2 fuel g r v (nI i) = some (p, g) ∧ ((p = -1 ∧ ∀ i, i < n → w i ≠ v) ∨ ∃ j, j < n ∧ p = nI j ∧ w j = v) := by
    intro k
    induction k with
    | zero =>
      intro i fuel hi hf hb
      obtain ⟨fu, rfl⟩ : ∃ fu, fuel = fu + 1 := ⟨fuel - 1, by omega⟩
      have : i = n := by omega
      subst this
      refine ⟨-1, ?_, Or.inl ⟨rfl, hb⟩⟩
      show f4_placeOf_2b (f4_placeOf_2 fu) g r v (nI i) = _
      unfold f4_placeOf_2b
      rw [if_pos h1, hn, if_pos (Int32.le_refl _)]
    | succ k ih =>
      intro i fuel hi hf hb
      obtain ⟨fu, rfl⟩ : ∃ fu, fuel = fu + 1 := ⟨fuel - 1, by omega⟩
      have ci : Int32.toNatClampNeg (nI i) = i := cl_nI (by omega)
      have st : f4_placeOf_2 (fu + 1) g r v (nI i) = if w i = v then some (nI i, g) else f4_placeOf_2 fu g r v (nI (i + 1)) := by
        show f4_placeOf_2b (f4_placeOf_2 fu) g r v (nI i) = _
        unfold f4_placeOf_2b
        rw [if_pos h1, hn, if_neg (nI_ge (by omega) (by omega)), h2, ob_some, h5, if_pos rfl, if_pos (ixOk (by omega) (by omega)), ci, hw i (by omega), nI_1]
      by_cases e : w i = v
      · exact ⟨nI i, by rw [st, if_pos e], Or.inr ⟨i, by omega, rfl, e⟩⟩
      · obtain ⟨p, y1, y2⟩ := ih (i + 1) fu (by omega) (by omega) fun j hj => by
          by_cases e2 : j = i
          · rw [e2]; exact e
          · exact hb j (by omega)
        exact ⟨p, by rw [st, if_neg e]; exact y1, y2⟩
  exact lp n 0 300 (by omega) (by omega) fun j hj => absurd hj (by omega)
