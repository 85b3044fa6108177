section
/-! PURE: how a route is read -/
theorem shr28 {X p : Nat} (hX : X < 2 ^ 28) (hp : p ≤ 6) : nI X >>> (nI (4 * p) &&& 31) = nI (X / 2 ^ (4 * p)) := by
  show Int32.ofNat X >>> (Int32.ofNat (4 * p) &&& 31) = Int32.ofNat (X / 2 ^ (4 * p))
  have h31 : Int32.ofNat (4 * p) &&& 31 = Int32.ofNat (4 * p) := by
    match p, hp with
    | 0, _ => decide
    | 1, _ => decide
    | 2, _ => decide
    | 3, _ => decide
    | 4, _ => decide
    | 5, _ => decide
    | 6, _ => decide
  rw [h31]
  apply Int32.toBitVec_inj.mp
  rw [Int32.toBitVec_shiftRight]
  have hs : ((Int32.ofNat (4 * p)).toBitVec.smod 32) = BitVec.ofNat 32 (4 * p) := by
    match p, hp with
    | 0, _ => decide
    | 1, _ => decide
    | 2, _ => decide
    | 3, _ => decide
    | 4, _ => decide
    | 5, _ => decide
    | 6, _ => decide
  rw [hs]
  have ht : (Int32.ofNat X).toBitVec = BitVec.ofNat 32 X := rfl
  have hu : (Int32.ofNat (X / 2 ^ (4 * p))).toBitVec = BitVec.ofNat 32 (X / 2 ^ (4 * p)) := rfl
  rw [ht, hu]
  show BitVec.sshiftRight (BitVec.ofNat 32 X) (BitVec.ofNat 32 (4 * p)).toNat = _
  have hm : (BitVec.ofNat 32 X).msb = false := by
    rw [BitVec.msb_eq_decide]
    simp
    omega
  rw [BitVec.sshiftRight_eq_of_msb_false hm]
  apply BitVec.eq_of_toNat_eq
  have h1 : X / 2 ^ (4 * p) ≤ X := Nat.div_le_self _ _
  rw [BitVec.toNat_ushiftRight, BitVec.toNat_ofNat, BitVec.toNat_ofNat, BitVec.toNat_ofNat, Nat.shiftRight_eq_div_pow, Nat.mod_eq_of_lt (a := X) (by omega), Nat.mod_eq_of_lt (a := 4 * p) (by omega), Nat.mod_eq_of_lt (by omega)]
/-- what is left of the digits at place p, and the house there -/
def rs (x : Int32) (p : Nat) : Int32 := x >>> (nI (4 * p) &&& 31)
def dg (x : Int32) (p : Nat) : Int32 := (rs x p &&& 15) - 1
def upw (w : Nat → Int32) (n : Nat) (v : Int32) : Nat → Int32 := fun i => if i = n then v else w i
abbrev okR (s : Sg) (n1 n : Nat) (w : Nat → Int32) (v : Int32) : Prop := inR (nI n1) v ∧ (∀ i, i < n → w i ≠ v) ∧ (n = 0 ∨ sl s (w (n - 1)) v ≠ -1)
def rdS (s : Sg) (n1 : Nat) (x : Int32) : Nat → Nat → (Nat → Int32) → Option (Nat × (Nat → Int32))
  | 0, n, w => some (n, w)
  | p + 1, n, w => if rs x p = 0 then rdS s n1 x p n w else if okR s n1 n w (dg x p) then rdS s n1 x p (n + 1) (upw w n (dg x p)) else none
/-- a row that is a route -/
def GW (s : Sg) (n1 n : Nat) (w : Nat → Int32) : Prop := (∀ i, i < n → inR (nI n1) (w i)) ∧ (∀ i, i + 1 < n → sl s (w i) (w (i + 1)) ≠ -1) ∧ ∀ i j, i < j → j < n → w i ≠ w j
theorem GW.up {s : Sg} {n1 n : Nat} {w : Nat → Int32} {v : Int32} (h : GW s n1 n w) (k : okR s n1 n w v) : GW s n1 (n + 1) (upw w n v) := by
  obtain ⟨h1, h2, h3⟩ := h
  obtain ⟨k1, k2, k3⟩ := k
  refine ⟨fun i hi => ?_, fun i hi => ?_, fun i j hij hj => ?_⟩
  · unfold upw
    by_cases e : i = n
    · rw [if_pos e]; exact k1
    · rw [if_neg e]; exact h1 i (by omega)
  · unfold upw
    rw [if_neg (show ¬ i = n by omega)]
    by_cases e : i + 1 = n
    · rw [if_pos e]
      have := k3.resolve_left (by omega)
      rw [show n - 1 = i by omega] at this
      exact this
    · rw [if_neg e]; exact h2 i (by omega)
  · unfold upw
    rw [if_neg (show ¬ i = n by omega)]
    by_cases e : j = n
    · rw [if_pos e]; exact k2 i (by omega)
    · rw [if_neg e]; exact h3 i j hij (by omega)
theorem rdS_ok {s : Sg} {n1 : Nat} {x : Int32} : ∀ k n w n' w', GW s n1 n w → rdS s n1 x k n w = some (n', w') → GW s n1 n' w' ∧ n ≤ n' ∧ n' ≤ n + k ∧ (0 < k → rs x 0 ≠ 0 → 1 ≤ n') := by
  intro k
  induction k with
  | zero =>
    intro n w n' w' h e
    have e' : (n, w) = (n', w') := Option.some.inj e
    obtain ⟨rfl, rfl⟩ := Prod.mk.inj e'
    exact ⟨h, Nat.le_refl _, by omega, fun q => absurd q (by omega)⟩
  | succ k ih =>
    intro n w n' w' h e
    unfold rdS at e
    by_cases c : rs x k = 0
    · rw [if_pos c] at e
      obtain ⟨x1, x2, x3, x4⟩ := ih n w n' w' h e
      refine ⟨x1, x2, by omega, fun _ h0 => ?_⟩
      by_cases k0 : k = 0
      · subst k0; exact absurd c h0
      · exact x4 (by omega) h0
    · rw [if_neg c] at e
      by_cases o : okR s n1 n w (dg x k)
      · rw [if_pos o] at e
        obtain ⟨x1, x2, x3, x4⟩ := ih _ _ n' w' (h.up o) e
        exact ⟨x1, by omega, by omega, fun _ _ => by omega⟩
      · rw [if_neg o] at e
        exact absurd e (by simp)
/-- changes of the draft -/
def Fdd (a0 : Nat) (g h : g_H) : Prop := gS h = gS g ∧ gR h = gR g ∧ gJ h = gJ g ∧ gZ h = gZ g ∧ ∀ a, ¬ (a0 + 149 ≤ a ∧ a ≤ a0 + 152) → gI h a = gI g a
theorem Fdd.rf {a0 : Nat} {g : g_H} : Fdd a0 g g := ⟨rfl, rfl, rfl, rfl, fun _ _ => rfl⟩
theorem Fdd.tr {a0 : Nat} {g h k : g_H} (x : Fdd a0 g h) (y : Fdd a0 h k) : Fdd a0 g k := ⟨y.1.trans x.1, y.2.1.trans x.2.1, y.2.2.1.trans x.2.2.1, y.2.2.2.1.trans x.2.2.2.1, fun a ha => (y.2.2.2.2 a ha).trans (x.2.2.2.2 a ha)⟩
theorem Fdd.put {a0 a k : Nat} {g : g_H} {v : Int32} (h : a0 + 149 ≤ a ∧ a ≤ a0 + 152) : Fdd a0 g (gPI g a k v) := ⟨rfl, rfl, rfl, rfl, fun b hb => gU_o fun q => hb (q ▸ h)⟩
theorem Fdd.fc {a0 : Nat} {g h : g_H} (f : Fdd a0 g h) : Fc a0 g h := ⟨f.2.2.2.1, f.1, f.2.2.1, fun a ha => ⟨f.2.2.2.2 a (by omega), by rw [f.2.1]⟩⟩
theorem ClI.dr {a0 n1 n2 n3 n4 q : Nat} {g h : g_H} {s : Sg} (I : ClI a0 g s n1 n2 n3 n4 q) (f : Fdd a0 g h) : ClI a0 h s n1 n2 n3 n4 q := by
  obtain ⟨hS, hR, hJ, hZ, hI⟩ := f
  have ag : Ag a0 (a0 + 95) g h := fun a h1 h2 => ⟨by rw [hS], by rw [hR], hI a (by omega)⟩
  obtain ⟨w1, w2, w3, w4⟩ := I
  refine ⟨w1.ag ag (by omega) (by omega), ?_, by rw [(ag (a0 + 43) (by omega) (by omega)).2.2]; exact w3, w4⟩
  obtain ⟨t1, t2, t3, t4, t5, t6, t7, t8⟩ := w2
  refine ⟨by rw [hS]; exact t1, by rw [hR]; exact t2, by rw [hR]; exact t3, by rw [hR]; exact t4, by rw [hR]; exact t5, ?_, ?_, fun b hb => ?_⟩
  · unfold FL; rw [hS, hR]; exact t6
  · unfold RtL; rw [hS, hR]; exact t7
  · rw [hR, hI _ (by omega), hI _ (by omega)]; exact t8 b hb
/-- what the draft holds -/
def Dq (a0 : Nat) (g : g_H) (s : Sg) (n : Nat) (w : Nat → Int32) : Prop := gI g (a0 + 149) 0 = nI n ∧ (∀ i, i < n → gI g (a0 + 150) i = w i) ∧ ∀ i, i + 1 < n → gI g (a0 + 151) i = sl s (w i) (w (i + 1))
theorem p_joins {g : g_H} {L : Nat} (h : (gS g L).1 = 3) (x y : Int32) : f2_joins g L x y = some (if (gI g L 0 = x ∧ gI g L 1 = y) ∨ (gI g L 0 = y ∧ gI g L 1 = x) then 1 else 0, g) := by
  have h16 : ¬ (gI g L 0 = x ∧ gI g L 1 = y) → f2_joins_16 g L x y = some (if (gI g L 0 = x ∧ gI g L 1 = y) ∨ (gI g L 0 = y ∧ gI g L 1 = x) then 1 else 0, g) := by
    intro no
    unfold f2_joins_16
    rw [if_pos h]
    by_cases a : gI g L 0 = y
    · rw [if_pos a]
      by_cases b : gI g L 1 = x
      · rw [if_pos b, if_pos (Or.inr ⟨a, b⟩)]
      · rw [if_neg b, if_neg fun k => k.elim no fun k => b k.2]
    · rw [if_neg a, if_neg fun k => k.elim no fun k => a k.1]
  unfold f2_joins
  rw [if_pos h]
  by_cases a : gI g L 0 = x
  · by_cases b : gI g L 1 = y
    · rw [if_pos (show (gI g L 0 = x ∧ gI g L 1 = y) ∨ (gI g L 0 = y ∧ gI g L 1 = x) from Or.inl ⟨a, b⟩), if_pos a, if_pos b]
    · rw [h16 fun k => b k.2]
      rw [if_pos a, if_neg b]
  · rw [h16 fun k => a k.1]
    rw [if_neg a]
theorem p_slLoop {a0 F n1 n2 n3 n4 q : Nat} {g : g_H} {s : Sg} {a b : Int32} (c : CI a0 F g s n1 n2 n3 n4 q) (h7 : (gS g (a0 + 1)).1 = 6) (hn : gI g (a0 + 1) 1 = nI n2) (h24 : n2 ≤ 24) :
    ∀ k i fuel : Nat, i + k = n2 → k < fuel → f5_shortestLane_5 fuel g (a0 + 1) a b (slF s a b i) (nI i) = some (slF s a b n2, g) := by
  intro k
  induction k with
  | zero =>
    intro i fuel h hf
    obtain ⟨fu, rfl⟩ : ∃ fu, fuel = fu + 1 := ⟨fuel - 1, by omega⟩
    have : i = n2 := by omega
    subst this
    show f5_shortestLane_5b (f5_shortestLane_5 fu) g _ a b _ (nI i) = _
    unfold f5_shortestLane_5b
    rw [if_pos h7, hn, if_pos (Int32.le_refl _)]
  | succ k ih =>
    intro i fuel h hf
    obtain ⟨fu, rfl⟩ : ∃ fu, fuel = fu + 1 := ⟨fuel - 1, by omega⟩
    have hrec := ih (i + 1) fu (by omega) (by omega)
    obtain ⟨e1, e2, e3, e4, e5, e6, e7, e8⟩ := p_lane c (show i < n2 by omega)
    have ci : Int32.toNatClampNeg (nI i) = i := cl_nI (by omega)
    have r := (c.2.1.2.2.2.2.1.2.2.2.1 i (by omega)).1
    have j0 := r 0 (by omega)
    have j1 := r 1 (by omega)
    have j2 := r 2 (by omega)
    show f5_shortestLane_5b (f5_shortestLane_5 fu) g _ a b _ (nI i) = _
    unfold f5_shortestLane_5b f5_shortestLane_52 f5_shortestLane_55
    rw [if_pos h7, hn, if_neg (nI_ge (by omega) (by omega)), e1, ob_some, e2, if_pos rfl, if_pos (ixOk (by omega) (by omega)), ci, e3, ob_some, if_pos e4, p_joins e4, gB2_some, j0, j1, nI_1]
    by_cases hj : (s 2 i 0 = a ∧ s 2 i 1 = b) ∨ (s 2 i 0 = b ∧ s 2 i 1 = a)
    · rw [if_pos hj, if_neg n10]
      rcases slF_in (s := s) (a := a) (b := b) (k := i) with z | ⟨j, hj2, z⟩
      · have e : slF s a b (i + 1) = nI i := if_pos ⟨hj, Or.inl z⟩
        rw [if_pos z, ← e]
        exact hrec
      · have zn : slF s a b i ≠ -1 := by rw [z]; exact nI_m1 (by omega)
        have lo : f5_lengthOf g (a0 + 1) (slF s a b i) = some (s 2 j 2, g) := by rw [z]; exact p_lengthOf c (by omega)
        rw [if_neg zn, if_pos h7, e1, ob_some, e2, if_pos rfl, if_pos (ixOj (by omega) (by omega)), e3, ob_some, if_pos e4, lo, gB2_some, j2]
        have cj : cl (slF s a b i) = j := by rw [z]; exact cl_nI (by omega)
        by_cases c' : s 2 j 2 ≤ s 2 i 2
        · have e : slF s a b (i + 1) = slF s a b i := if_neg fun k => by
            rcases k.2 with k2 | k2
            · exact zn k2
            · rw [cj] at k2; exact Int32.not_lt.mpr c' k2
          rw [if_pos c', ← e]
          exact hrec
        · have e : slF s a b (i + 1) = nI i := if_pos ⟨hj, Or.inr (by rw [cj]; exact Int32.not_le.mp c')⟩
          rw [if_neg c', ← e]
          exact hrec
    · have e : slF s a b (i + 1) = slF s a b i := if_neg fun k => hj k.1
      rw [if_neg hj, if_pos rfl, ← e]
      exact hrec
theorem p_sl {a0 n1 n2 n3 n4 q : Nat} {g : g_H} {s : Sg} (I : ClI a0 g s n1 n2 n3 n4 q) (a b : Int32) : f5_shortestLane g (a0 + 1) a b = some (sl s a b, g) := by
  obtain ⟨s1, s2, s3, s4, s5, s6, s7, s8, s9, s10, s11, s12, s13, s14, s15⟩ := I.sh
  have := p_slLoop (a := a) (b := b) I.1 s6 s9 s13 n2 0 300 (by omega) (by omega)
  unfold sl
  rw [I.1.1.1.2.2.1, show cl (nI n2) = n2 from cl_nI (by omega)]
  exact this
theorem p_placeOf {g : g_H} {r n : Nat} {w : Nat → Int32} (h : RtL r g) (hn : gI g r 0 = nI n) (h7 : n ≤ 7) (hw : ∀ i, i < n → gI g (r + 1) i = w i) (v : Int32) :
    ∃ p, f4_placeOf g r v = some (p, g) ∧ ((p = -1 ∧ ∀ i, i < n → w i ≠ v) ∨ ∃ j, j < n ∧ p = nI j ∧ w j = v) := by
  obtain ⟨h1, h2, h3, h4, h5, h6, h8⟩ := h
  have lp : ∀ k i fuel : Nat, i + k = n → k < fuel → (∀ j, j < i → w j ≠ v) → ∃ p, f4_placeOf_2 fuel g r v (nI i) = some (p, g) ∧ ((p = -1 ∧ ∀ i, i < n → w i ≠ v) ∨ ∃ j, j < n ∧ p = nI j ∧ w j = v) := by
    intro k
    induction k with
    | zero =>
      intro i fuel hi hf hb
      obtain ⟨fu, rfl⟩ : ∃ fu, fuel = fu + 1 := ⟨fuel - 1, by omega⟩
      have : i = n := by omega
      subst this
      refine ⟨-1, ?_, Or.inl ⟨rfl, hb⟩⟩
      show f4_placeOf_2b (f4_placeOf_2 fu) g r v (nI i) = _
      unfold f4_placeOf_2b
      rw [if_pos h1, hn, if_pos (Int32.le_refl _)]
    | succ k ih =>
      intro i fuel hi hf hb
      obtain ⟨fu, rfl⟩ : ∃ fu, fuel = fu + 1 := ⟨fuel - 1, by omega⟩
      have ci : Int32.toNatClampNeg (nI i) = i := cl_nI (by omega)
      have st : f4_placeOf_2 (fu + 1) g r v (nI i) = if w i = v then some (nI i, g) else f4_placeOf_2 fu g r v (nI (i + 1)) := by
        show f4_placeOf_2b (f4_placeOf_2 fu) g r v (nI i) = _
        unfold f4_placeOf_2b
        rw [if_pos h1, hn, if_neg (nI_ge (by omega) (by omega)), h2, ob_some, h5, if_pos rfl, if_pos (ixOk (by omega) (by omega)), ci, hw i (by omega), nI_1]
      by_cases e : w i = v
      · exact ⟨nI i, by rw [st, if_pos e], Or.inr ⟨i, by omega, rfl, e⟩⟩
      · obtain ⟨p, y1, y2⟩ := ih (i + 1) fu (by omega) (by omega) fun j hj => by
          by_cases e2 : j = i
          · rw [e2]; exact e
          · exact hb j (by omega)
        exact ⟨p, by rw [st, if_neg e]; exact y1, y2⟩
  exact lp n 0 300 (by omega) (by omega) fun j hj => absurd hj (by omega)
end
section
/-! PURE: the class reads a route into its draft -/
theorem nI_nle0 {n : Nat} (h0 : 0 < n) (h : n < 2 ^ 31) : ¬ nI n ≤ 0 := fun k => by
  have := (nI_leI (a := n) (b := 0) h (by omega)).mp k
  omega
theorem p_app71 {a0 n : Nat} {g : g_H} {v : Int32} (h : RtL (a0 + 149) g) (hn : gI g (a0 + 149) 0 = nI n) (h7 : n < 7) :
    f4_append_71 g (a0 + 149) v = some (1, gPI (gPI (gPI g (a0 + 151) n (-1)) (a0 + 150) n v) (a0 + 149) 0 (nI (n + 1))) := by
  obtain ⟨h1, h2, h3, h4, h5, h6, h8⟩ := h
  have cn : Int32.toNatClampNeg (nI n) = n := cl_nI (by omega)
  have e1 : gI (gPI g (a0 + 151) n (-1)) (a0 + 149) 0 = nI n := by rw [gI_PI, if_neg (by omega)]; exact hn
  have e2 : gI (gPI (gPI g (a0 + 151) n (-1)) (a0 + 150) n v) (a0 + 149) 0 = nI n := by rw [gI_PI, if_neg (by omega)]; exact e1
  have k2 : gR g (a0 + 149) 2 = some (a0 + 151) := h3
  have k1 : gR g (a0 + 149) 1 = some (a0 + 150) := h2
  have z1 : gS g (a0 + 150) = (11, 7) := h5
  have z2 : gS g (a0 + 151) = (11, 7) := h6
  unfold f4_append_71 gLt
  rw [if_pos h1, k2, ob_some, z2, if_pos rfl, hn, if_pos (ixOk (by omega) (by omega)), cn, gR_PI, k1, ob_some, z1, if_pos rfl, e1, if_pos (ixOk (by omega) (by omega)), cn]
  dsimp only
  rw [e2, nI_1]
theorem Dq.up {a0 n : Nat} {g : g_H} {s : Sg} {w : Nat → Int32} {v : Int32} (d : Dq a0 g s n w) (hl : n = 0 ∨ gI g (a0 + 151) (n - 1) = sl s (w (n - 1)) v) : Dq a0 (gPI (gPI (gPI g (a0 + 151) n (-1)) (a0 + 150) n v) (a0 + 149) 0 (nI (n + 1))) s (n + 1) (upw w n v) := by
  obtain ⟨d1, d2, d3⟩ := d
  refine ⟨?_, fun i hi => ?_, fun i hi => ?_⟩
  · rw [gI_PI, if_pos rfl, if_pos rfl]
  · unfold upw
    rw [gI_PI, if_neg (by omega), gI_PI, if_pos rfl]
    by_cases e : i = n
    · rw [if_pos e, if_pos e]
    · rw [if_neg e, if_neg e, gI_PI, if_neg (by omega)]; exact d2 i (by omega)
  · unfold upw
    rw [gI_PI, if_neg (by omega), gI_PI, if_neg (by omega), gI_PI, if_pos rfl, if_neg (show ¬ i = n by omega), if_neg (show ¬ i = n by omega)]
    by_cases e : i + 1 = n
    · rw [if_pos e]
      have := hl.resolve_left (by omega)
      rw [show n - 1 = i by omega] at this
      exact this
    · rw [if_neg e]; exact d3 i (by omega)
theorem Fdd.up {a0 n : Nat} {g : g_H} {v l : Int32} : Fdd a0 g (gPI (gPI (gPI g (a0 + 151) n l) (a0 + 150) n v) (a0 + 149) 0 (nI (n + 1))) :=
  ((Fdd.put ⟨by omega, by omega⟩).tr (Fdd.put ⟨by omega, by omega⟩)).tr (Fdd.put ⟨by omega, by omega⟩)
theorem p_append {a0 n1 n2 n3 n4 q n : Nat} {g : g_H} {s : Sg} {w : Nat → Int32} (I : ClI a0 g s n1 n2 n3 n4 q) (d : Dq a0 g s n w) (h7 : n < 7) (v : Int32) :
    (¬ okR s n1 n w v → f4_append g (a0 + 149) v (a0 + 1) = some (0, g)) ∧ (okR s n1 n w v → ∃ g', f4_append g (a0 + 149) v (a0 + 1) = some (1, g') ∧ Fdd a0 g g' ∧ Dq a0 g' s (n + 1) (upw w n v)) := by
  obtain ⟨s1, s2, s3, s4, s5, s6, s7, s8, s9, s10, s11, s12, s13, s14, s15⟩ := I.sh
  have rt : RtL (a0 + 149) g := I.2.1.2.2.2.2.2.2.1
  obtain ⟨d1, d2, d3⟩ := d
  obtain ⟨pl, p1, p2⟩ := p_placeOf rt d1 (by omega) d2 v
  obtain ⟨h1, h2, h3, h4, h5, h6, h8⟩ := rt
  have k2 : gR g (a0 + 149) 2 = some (a0 + 151) := h3
  have k1 : gR g (a0 + 149) 1 = some (a0 + 150) := h2
  have z1 : gS g (a0 + 150) = (11, 7) := h5
  have z2 : gS g (a0 + 151) = (11, 7) := h6
  by_cases c1 : inR (nI n1) v
  · rcases p2 with ⟨p2, p3⟩ | ⟨j, j1, j2, j3⟩
    · have l7 : nI n < (7 : Int32) := nI_lt (b := 7) h7 (by omega)
      by_cases c0 : n = 0
      · refine ⟨fun no => absurd ⟨c1, p3, Or.inl c0⟩ no, fun _ => ⟨_, ?_, Fdd.up (l := -1), Dq.up ⟨d1, d2, d3⟩ (Or.inl c0)⟩⟩
        unfold f4_append
        rw [if_pos s6, p_hasHouse s6, s8, if_pos c1, gB2_some, if_neg n10, if_pos h1, p1, gB2_some, if_pos p2, if_pos h1, d1, if_pos l7, if_pos (show nI n ≤ 0 from nI_le (b := 0) (by omega) (by omega)), p_app71 ⟨h1, h2, h3, h4, h5, h6, h8⟩ d1 h7]
      · have cn : Int32.toNatClampNeg (nI (n - 1)) = n - 1 := cl_nI (by omega)
        have en : nI n - 1 = nI (n - 1) := by rw [show n = n - 1 + 1 by omega, nI_pred]; congr 1
        have pre : f4_append g (a0 + 149) v (a0 + 1) = if sl s (w (n - 1)) v = -1 then some (0, g) else f4_append_71 (gPI g (a0 + 151) (n - 1) (sl s (w (n - 1)) v)) (a0 + 149) v := by
          unfold f4_append
          rw [if_pos s6, p_hasHouse s6, s8, if_pos c1, gB2_some, if_neg n10, if_pos h1, p1, gB2_some, if_pos p2, if_pos h1, d1, if_pos l7, if_neg (show ¬ nI n ≤ 0 from nI_nle0 (by omega) (by omega)), k1, ob_some, z1, if_pos rfl, en, if_pos (ixOk (by omega) (by omega)), if_pos s6, cn, d2 (n - 1) (by omega), p_sl I, gB2_some, if_pos h1, k2, ob_some, z2, if_pos rfl, d1, en, if_pos (ixOk (by omega) (by omega)), cn]
        by_cases c2 : sl s (w (n - 1)) v = -1
        · refine ⟨fun _ => by rw [pre, if_pos c2], fun o => ?_⟩
          exact absurd c2 (o.2.2.resolve_left c0)
        · refine ⟨fun no => absurd ⟨c1, p3, Or.inr c2⟩ no, fun _ => ?_⟩
          obtain ⟨G, hG⟩ : ∃ G, G = gPI g (a0 + 151) (n - 1) (sl s (w (n - 1)) v) := ⟨_, rfl⟩
          have fG : Fdd a0 g G := by rw [hG]; exact Fdd.put ⟨by omega, by omega⟩
          have dG : Dq a0 G s n w := by
            rw [hG]
            refine ⟨?_, fun i hi => ?_, fun i hi => ?_⟩
            · rw [gI_PI, if_neg (by omega)]; exact d1
            · rw [gI_PI, if_neg (by omega)]; exact d2 i hi
            · rw [gI_PI, if_pos rfl, if_neg (by omega)]; exact d3 i hi
          have hl : gI G (a0 + 151) (n - 1) = sl s (w (n - 1)) v := by rw [hG, gI_PI, if_pos rfl, if_pos rfl]
          refine ⟨_, ?_, fG.tr (Fdd.up (l := -1)), dG.up (Or.inr hl)⟩
          rw [pre, if_neg c2, ← hG]
          exact p_app71 (I.dr fG).2.1.2.2.2.2.2.2.1 dG.1 h7
    · refine ⟨fun _ => ?_, fun o => absurd j3 (o.2.1 j j1)⟩
      unfold f4_append
      rw [if_pos s6, p_hasHouse s6, s8, if_pos c1, gB2_some, if_neg n10, if_pos h1, p1, gB2_some, if_neg (by rw [j2]; exact nI_m1 (by omega))]
  · refine ⟨fun _ => ?_, fun o => absurd o.1 c1⟩
    unfold f4_append
    rw [if_pos s6, p_hasHouse s6, s8, if_neg c1, gB2_some, if_pos rfl]
/-- the target of a row of houses -/
def tgR (s : Sg) (w : Nat → Int32) (to : Int32) : Nat → Int32 × Int32
  | 0 => (-1, 1000)
  | k + 1 => if wy s (w k) to < (tgR s w to k).2 then (w k, wy s (w k) to) else tgR s w to k
theorem tgR_4 {s : Sg} {b : Nat} {to : Int32} {k : Nat} : tgF s b to k = tgR s (s 4 b) to k := by
  induction k with
  | zero => rfl
  | succ k ih =>
    show (if _ then _ else _) = (if _ then _ else _)
    rw [ih]
theorem tgR_ext {s : Sg} {v w : Nat → Int32} {to : Int32} {k : Nat} (h : ∀ i, i < k → v i = w i) : tgR s v to k = tgR s w to k := by
  induction k with
  | zero => rfl
  | succ k ih =>
    show (if _ then _ else _) = (if _ then _ else _)
    rw [ih fun i hi => h i (by omega), h k (by omega)]
/-- changes of the draft's targets -/
def Fft (a0 : Nat) (g h : g_H) : Prop := gS h = gS g ∧ gR h = gR g ∧ gJ h = gJ g ∧ gZ h = gZ g ∧ ∀ a, a ≠ a0 + 152 → gI h a = gI g a
theorem Fft.fd {a0 : Nat} {g h : g_H} (f : Fft a0 g h) : Fdd a0 g h := ⟨f.1, f.2.1, f.2.2.1, f.2.2.2.1, fun a ha => f.2.2.2.2 a (by omega)⟩
theorem Fft.tr {a0 : Nat} {g h k : g_H} (x : Fft a0 g h) (y : Fft a0 h k) : Fft a0 g k := ⟨y.1.trans x.1, y.2.1.trans x.2.1, y.2.2.1.trans x.2.2.1, y.2.2.2.1.trans x.2.2.2.1, fun a ha => (y.2.2.2.2 a ha).trans (x.2.2.2.2 a ha)⟩
theorem Fft.put {a0 k : Nat} {g : g_H} {v : Int32} : Fft a0 g (gPI g (a0 + 152) k v) := ⟨rfl, rfl, rfl, rfl, fun b hb => gU_o hb⟩
theorem Dq.ff {a0 n : Nat} {g h : g_H} {s : Sg} {w : Nat → Int32} (d : Dq a0 g s n w) (f : Fft a0 g h) : Dq a0 h s n w := by
  obtain ⟨d1, d2, d3⟩ := d
  have i := f.2.2.2.2
  exact ⟨by rw [i _ (by omega)]; exact d1, by rw [i _ (by omega)]; exact d2, by rw [i _ (by omega)]; exact d3⟩
theorem p_ftIn {a0 n1 n2 n3 n4 q n to : Nat} {s : Sg} {w : Nat → Int32} {K2 : g_H → Nat → Nat → Int32 → Option g_H} (h7 : n ≤ 7) (ht : to < 14) :
    ∀ k i fuel : Nat, ∀ g : g_H, ClI a0 g s n1 n2 n3 n4 q → Dq a0 g s n w → gI g (a0 + 152) to = (tgR s w (nI to) i).1 → i + k = n → k < fuel →
    ∃ g', f4_findTargets_22 K2 fuel g (a0 + 149) (a0 + 1) (nI to) (tgR s w (nI to) i).2 (nI i) = K2 g' (a0 + 149) (a0 + 1) (nI (to + 1)) ∧ Fft a0 g g' ∧ gI g' (a0 + 152) to = (tgR s w (nI to) n).1 ∧ ∀ j, j ≠ to → gI g' (a0 + 152) j = gI g (a0 + 152) j := by
  intro k
  induction k with
  | zero =>
    intro i fuel g I d ht2 h hf
    obtain ⟨fu, rfl⟩ : ∃ fu, fuel = fu + 1 := ⟨fuel - 1, by omega⟩
    have : i = n := by omega
    subst this
    refine ⟨g, ?_, ⟨rfl, rfl, rfl, rfl, fun _ _ => rfl⟩, ht2, fun _ _ => rfl⟩
    show f4_findTargets_22b K2 (f4_findTargets_22 K2 fu) g _ _ _ _ (nI i) = _
    unfold f4_findTargets_22b
    rw [if_pos I.2.1.2.2.2.2.2.2.1.1, d.1, if_pos (Int32.le_refl _), nI_1]
  | succ k ih =>
    intro i fuel g I d ht2 h hf
    obtain ⟨fu, rfl⟩ : ∃ fu, fuel = fu + 1 := ⟨fuel - 1, by omega⟩
    obtain ⟨h1, h2, h3, h4, h5, h6, h8⟩ := I.2.1.2.2.2.2.2.2.1
    have k3 : gR g (a0 + 149) 3 = some (a0 + 152) := h4
    have k1 : gR g (a0 + 149) 1 = some (a0 + 150) := h2
    have z1 : gS g (a0 + 150) = (11, 7) := h5
    have z2 : gS g (a0 + 152) = (11, 14) := h8
    have s6 : (gS g (a0 + 1)).1 = 6 := I.1.2.1.2.1.1
    have ci : Int32.toNatClampNeg (nI i) = i := cl_nI (by omega)
    have ct : Int32.toNatClampNeg (nI to) = to := cl_nI (by omega)
    have st : f4_findTargets_22 K2 (fu + 1) g (a0 + 149) (a0 + 1) (nI to) (tgR s w (nI to) i).2 (nI i) = if (tgR s w (nI to) i).2 ≤ wy s (w i) (nI to) then f4_findTargets_22 K2 fu g (a0 + 149) (a0 + 1) (nI to) (tgR s w (nI to) i).2 (nI (i + 1)) else f4_findTargets_22 K2 fu (gPI g (a0 + 152) to (w i)) (a0 + 149) (a0 + 1) (nI to) (wy s (w i) (nI to)) (nI (i + 1)) := by
      show f4_findTargets_22b K2 (f4_findTargets_22 K2 fu) g _ _ _ _ (nI i) = _
      unfold f4_findTargets_22b f4_findTargets_67 gLt
      rw [if_pos h1, d.1, if_neg (nI_ge (by omega) (by omega)), k1, ob_some, z1, if_pos rfl, if_pos (ixOk (by omega) (by omega)), if_pos s6, ci, d.2.1 i (by omega), I.1.wyE, gB2_some, if_pos h1, k3, ob_some, k1, ob_some, z1, if_pos rfl, if_pos (ixOj (by omega) (by omega)), d.2.1 i (by omega)]
      dsimp only
      rw [z2, if_pos rfl, if_pos (ixOk (by omega) (by omega)), ct, nI_1]
    by_cases c : wy s (w i) (nI to) < (tgR s w (nI to) i).2
    · have e : tgR s w (nI to) (i + 1) = (w i, wy s (w i) (nI to)) := if_pos c
      have f1 : Fft a0 g (gPI g (a0 + 152) to (w i)) := Fft.put
      obtain ⟨g', x1, x2, x3, x4⟩ := ih (i + 1) fu (gPI g (a0 + 152) to (w i)) (I.dr f1.fd) (d.ff f1) (by rw [e, gI_PI, if_pos rfl, if_pos rfl]) (by omega) (by omega)
      refine ⟨g', ?_, f1.tr x2, x3, fun j hj => (x4 j hj).trans (by rw [gI_PI, if_pos rfl, if_neg hj])⟩
      rw [e] at x1
      rw [st, if_neg (Int32.not_le.mpr c)]
      exact x1
    · have e : tgR s w (nI to) (i + 1) = tgR s w (nI to) i := if_neg c
      obtain ⟨g', x1, x2, x3, x4⟩ := ih (i + 1) fu g I d (by rw [e]; exact ht2) (by omega) (by omega)
      refine ⟨g', ?_, x2, x3, x4⟩
      rw [e] at x1
      rw [st, if_pos (Int32.not_lt.mp c)]
      exact x1
theorem p_ft {a0 n1 n2 n3 n4 q n : Nat} {s : Sg} {w : Nat → Int32} (h7 : n ≤ 7) :
    ∀ k to fuel : Nat, ∀ g : g_H, ClI a0 g s n1 n2 n3 n4 q → Dq a0 g s n w → (∀ j, j < to → gI g (a0 + 152) j = (tgR s w (nI j) n).1) → to + k = 14 → k < fuel →
    ∃ g', f4_findTargets_2 fuel g (a0 + 149) (a0 + 1) (nI to) = some g' ∧ Fft a0 g g' ∧ ∀ j, j < 14 → gI g' (a0 + 152) j = (tgR s w (nI j) n).1 := by
  intro k
  induction k with
  | zero =>
    intro to fuel g I d hd h hf
    obtain ⟨fu, rfl⟩ : ∃ fu, fuel = fu + 1 := ⟨fuel - 1, by omega⟩
    have : to = 14 := by omega
    subst this
    refine ⟨g, ?_, ⟨rfl, rfl, rfl, rfl, fun _ _ => rfl⟩, hd⟩
    show f4_findTargets_2b (f4_findTargets_2 fu) g (a0 + 149) (a0 + 1) (nI 14) = _
    unfold f4_findTargets_2b
    rw [if_pos (by decide)]
  | succ k ih =>
    intro to fuel g I d hd h hf
    obtain ⟨fu, rfl⟩ : ∃ fu, fuel = fu + 1 := ⟨fuel - 1, by omega⟩
    obtain ⟨h1, h2, h3, h4, h5, h6, h8⟩ := I.2.1.2.2.2.2.2.2.1
    have k3 : gR g (a0 + 149) 3 = some (a0 + 152) := h4
    have z2 : gS g (a0 + 152) = (11, 14) := h8
    have ct : Int32.toNatClampNeg (nI to) = to := cl_nI (by omega)
    have f1 : Fft a0 g (gPI g (a0 + 152) to (-1)) := Fft.put
    obtain ⟨g1, x1, x2, x3, x4⟩ := p_ftIn (K2 := f4_findTargets_2 fu) h7 (show to < 14 by omega) n 0 300 (gPI g (a0 + 152) to (-1)) (I.dr f1.fd) (d.ff f1) (by rw [gI_PI, if_pos rfl, if_pos rfl]; rfl) (by omega) (by omega)
    have f2 := f1.tr x2
    obtain ⟨g2, y1, y2, y3⟩ := ih (to + 1) fu g1 (I.dr f2.fd) (d.ff f2) (fun j hj => by
      by_cases e : j = to
      · rw [e]; exact x3
      · rw [x4 j e, gI_PI, if_pos rfl, if_neg e]; exact hd j (by omega)) (by omega) (by omega)
    refine ⟨g2, ?_, f2.tr y2, y3⟩
    show f4_findTargets_2b (f4_findTargets_2 fu) g _ _ (nI to) = _
    unfold f4_findTargets_2b
    rw [if_neg (show ¬ (14 : Int32) ≤ nI to from nI_ge (b := 14) (by omega) (by omega)), if_pos h1, k3, ob_some, z2, if_pos rfl, if_pos (ixOk (by omega) (by omega)), ct]
    exact x1.trans y1
/-- what the draft holds when a route has been read -/
def Dt (a0 : Nat) (g : g_H) (s : Sg) (n : Nat) (w : Nat → Int32) : Prop := Dq a0 g s n w ∧ ∀ j, j < 14 → gI g (a0 + 152) j = (tgR s w (nI j) n).1
theorem p_readLoop {a0 n1 n2 n3 n4 q X : Nat} {s : Sg} (hX : X < 2 ^ 28) :
    ∀ k n fuel : Nat, ∀ (w : Nat → Int32) (g : g_H), n + k ≤ 7 → k < fuel → ClI a0 g s n1 n2 n3 n4 q → Dq a0 g s n w →
    (rdS s n1 (nI X) k n w = none → ∃ g', f4_read_21 fuel g (a0 + 149) (nI X) (a0 + 1) (nI k - 1) = some (0, g') ∧ Fdd a0 g g') ∧
    ∀ n' w', rdS s n1 (nI X) k n w = some (n', w') → ∃ g', f4_read_21 fuel g (a0 + 149) (nI X) (a0 + 1) (nI k - 1) = some (1, g') ∧ Fdd a0 g g' ∧ Dt a0 g' s n' w' := by
  intro k
  induction k with
  | zero =>
    intro n fuel w g hn hf I d
    obtain ⟨fu, rfl⟩ : ∃ fu, fuel = fu + 1 := ⟨fuel - 1, by omega⟩
    refine ⟨fun e => absurd e (by simp [rdS]), fun n' w' e => ?_⟩
    have e' : (n, w) = (n', w') := Option.some.inj e
    obtain ⟨rfl, rfl⟩ := Prod.mk.inj e'
    obtain ⟨g', x1, x2, x3⟩ := p_ft (by omega) 14 0 300 g I d (fun j hj => absurd hj (by omega)) (by omega) (by omega)
    refine ⟨g', ?_, x2.fd, d.ff x2, x3⟩
    show f4_read_21b (f4_read_21 fu) g (a0 + 149) (nI X) (a0 + 1) (nI 0 - 1) = some (1, g')
    unfold f4_read_21b f4_findTargets
    rw [if_pos (by decide), if_pos I.2.1.2.2.2.2.2.2.1.1]
    show (f4_findTargets_2 300 g (a0 + 149) (a0 + 1) (nI 0)).bind _ = _
    rw [x1, ob_some]
  | succ k ih =>
    intro n fuel w g hn hf I d
    obtain ⟨fu, rfl⟩ : ∃ fu, fuel = fu + 1 := ⟨fuel - 1, by omega⟩
    have hr : rs (nI X) k = nI (X / 2 ^ (4 * k)) := shr28 hX (by omega)
    have hlt : X / 2 ^ (4 * k) < 2 ^ 28 := Nat.lt_of_le_of_lt (Nat.div_le_self _ _) hX
    have h4 : (4 : Int32) * nI k = nI (4 * k) := by rw [show (4 : Int32) = nI 4 from rfl, pk_mul]
    have c0 : (rs (nI X) k ≤ 0) ↔ rs (nI X) k = 0 := by
      rw [hr]
      constructor
      · intro h
        by_cases z : X / 2 ^ (4 * k) = 0
        · rw [z]; rfl
        · exact absurd h (nI_nle0 (Nat.pos_of_ne_zero z) (Nat.lt_trans hlt (by decide)))
      · intro h; rw [h]; exact Int32.le_refl _
    have hm : nI k + -1 = nI k - 1 := by
      rw [show (-1 : Int32) = -(1 : Int32) from rfl, ← Int32.sub_eq_add_neg]
    have st : f4_read_21 (fu + 1) g (a0 + 149) (nI X) (a0 + 1) (nI (k + 1) - 1) = if rs (nI X) k = 0 then f4_read_21 fu g (a0 + 149) (nI X) (a0 + 1) (nI k - 1) else gB2 (f4_append g (a0 + 149) (dg (nI X) k) (a0 + 1)) fun v13 g12 => if v13 = 0 then (some ((0 : Int32), g12)) else f4_read_21 fu g12 (a0 + 149) (nI X) (a0 + 1) (nI k - 1) := by
      show f4_read_21b (f4_read_21 fu) g _ _ _ _ = _
      unfold f4_read_21b f4_read_54
      rw [nI_pred, if_neg (nI_pos (by omega)), h4, hm, if_pos I.2.1.2.2.2.2.2.2.1.1]
      show (if rs (nI X) k ≤ 0 then _ else gB2 (f4_append g (a0 + 149) (dg (nI X) k) (a0 + 1)) _) = _
      by_cases c : rs (nI X) k = 0
      · rw [if_pos (c0.mpr c), if_pos c]
      · rw [if_neg fun q => c (c0.mp q), if_neg c]
    by_cases c : rs (nI X) k = 0
    · obtain ⟨y1, y2⟩ := ih n fu w g (by omega) (by omega) I d
      have er : rdS s n1 (nI X) (k + 1) n w = rdS s n1 (nI X) k n w := if_pos c
      rw [er, st, if_pos c]
      exact ⟨y1, y2⟩
    · obtain ⟨a1, a2⟩ := p_append I d (by omega) (dg (nI X) k)
      rw [st, if_neg c]
      by_cases o : okR s n1 n w (dg (nI X) k)
      · have er : rdS s n1 (nI X) (k + 1) n w = rdS s n1 (nI X) k (n + 1) (upw w n (dg (nI X) k)) := (if_neg c).trans (if_pos o)
        obtain ⟨g1, b1, b2, b3⟩ := a2 o
        obtain ⟨y1, y2⟩ := ih (n + 1) fu _ g1 (by omega) (by omega) (I.dr b2) b3
        rw [er, b1, gB2_some, if_neg n10]
        refine ⟨fun e => ?_, fun n' w' e => ?_⟩
        · obtain ⟨g', x1, x2⟩ := y1 e
          exact ⟨g', x1, b2.tr x2⟩
        · obtain ⟨g', x1, x2, x3⟩ := y2 n' w' e
          exact ⟨g', x1, b2.tr x2, x3⟩
      · have er : rdS s n1 (nI X) (k + 1) n w = none := (if_neg c).trans (if_neg o)
        rw [er, a1 o, gB2_some, if_pos rfl]
        exact ⟨fun _ => ⟨g, rfl, Fdd.rf⟩, fun n' w' e => absurd e (by simp)⟩
/-- a route as both read it -/
def rdX (s : Sg) (n1 : Nat) (x : Int32) : Option (Nat × (Nat → Int32)) := if x < 1 then none else if x < 268435456 then rdS s n1 x 7 0 (fun _ => 0) else none
theorem rdX_in {x : Int32} (h1 : ¬ x < 1) (h2 : x < 268435456) : ∃ X, x = nI X ∧ 1 ≤ X ∧ X < 2 ^ 28 := by
  have p : ¬ x < 0 := fun k => h1 (by
    rw [Int32.lt_iff_toInt_lt] at k ⊢
    have e0 : (0 : Int32).toInt = 0 := rfl
    have e1 : (1 : Int32).toInt = 1 := rfl
    omega)
  obtain ⟨X, hX, rfl⟩ := nI_of p
  refine ⟨X, rfl, ?_, ?_⟩
  · rcases Nat.eq_zero_or_pos X with z | z
    · subst z; exact absurd (by decide) h1
    · exact z
  · exact (nI_ltI (b := 268435456) hX (by omega)).mp h2
theorem rdX_ok {s : Sg} {n1 n : Nat} {x : Int32} {w : Nat → Int32} (h : rdX s n1 x = some (n, w)) : GW s n1 n w ∧ 1 ≤ n ∧ n ≤ 7 := by
  unfold rdX at h
  by_cases h1 : x < 1
  · rw [if_pos h1] at h; exact absurd h (by simp)
  · rw [if_neg h1] at h
    by_cases h2 : x < 268435456
    · rw [if_pos h2] at h
      obtain ⟨X, rfl, X1, X2⟩ := rdX_in h1 h2
      obtain ⟨y1, y2, y3, y4⟩ := rdS_ok 7 0 _ n w ⟨fun i hi => absurd hi (by omega), fun i hi => absurd hi (by omega), fun i j _ hj => absurd hj (by omega)⟩ h
      refine ⟨y1, y4 (by omega) ?_, by omega⟩
      rw [show rs (nI X) 0 = nI (X / 2 ^ (4 * 0)) from shr28 X2 (by omega), show X / 2 ^ (4 * 0) = X by simp]
      intro z
      have := (nI_eq (b := 0) (show X < 2 ^ 31 by omega) (by omega)).mp z
      omega
    · rw [if_neg h2] at h; exact absurd h (by simp)
theorem p_checkRoute {a0 n1 n2 n3 n4 q : Nat} {g : g_H} {s : Sg} (I : ClI a0 g s n1 n2 n3 n4 q) (x : Int32) :
    (rdX s n1 x = none → ∃ g', f6_checkRoute g a0 x = some ((2, 0), g') ∧ Fdd a0 g g') ∧ ∀ n w, rdX s n1 x = some (n, w) → ∃ g', f6_checkRoute g a0 x = some ((0, 0), g') ∧ Fdd a0 g g' ∧ Dt a0 g' s n w := by
  obtain ⟨s1, s2, s3, s4, s5, s6, s7, s8, s9, s10, s11, s12, s13, s14, s15⟩ := I.sh
  have h1 : (gS g (a0 + 149)).1 = 5 := I.2.1.2.2.2.2.2.2.1.1
  obtain ⟨G, hG⟩ : ∃ G, G = gPI g (a0 + 149) 0 0 := ⟨_, rfl⟩
  have fG : Fdd a0 g G := by rw [hG]; exact Fdd.put ⟨by omega, by omega⟩
  have dG : Dq a0 G s 0 (fun _ => 0) := ⟨by rw [hG, gI_PI, if_pos rfl, if_pos rfl]; rfl, fun i hi => absurd hi (by omega), fun i hi => absurd hi (by omega)⟩
  by_cases c1 : x < 1
  · refine ⟨fun _ => ⟨G, ?_, fG⟩, fun n w e => ?_⟩
    · unfold f6_checkRoute f4_read
      rw [if_pos s1, s5, ob_some, s2, ob_some, if_pos h1, if_pos h1, if_pos c1, gB2_some, if_pos rfl, hG]
    · unfold rdX at e
      rw [if_pos c1] at e; exact absurd e (by simp)
  · by_cases c2 : x < 268435456
    · have er : rdX s n1 x = rdS s n1 x 7 0 (fun _ => 0) := (if_neg c1).trans (if_pos c2)
      obtain ⟨X, rfl, X1, X2⟩ := rdX_in c1 c2
      obtain ⟨y1, y2⟩ := p_readLoop X2 7 0 300 (fun _ => 0) G (by omega) (by omega) (I.dr fG) dG
      have pre : f6_checkRoute g a0 (nI X) = gB2 (f4_read_21 300 G (a0 + 149) (nI X) (a0 + 1) (nI 7 - 1)) fun v9 g8 => if v9 = 0 then (some ((2, 0), g8)) else (some ((0, 0), g8)) := by
        unfold f6_checkRoute f4_read
        rw [if_pos s1, s5, ob_some, s2, ob_some, if_pos h1, if_pos h1, if_neg c1, if_pos c2, ← hG]
        rfl
      rw [er, pre]
      refine ⟨fun e => ?_, fun n w e => ?_⟩
      · obtain ⟨g', x1, x2⟩ := y1 e
        exact ⟨g', by rw [x1, gB2_some, if_pos rfl], fG.tr x2⟩
      · obtain ⟨g', x1, x2, x3⟩ := y2 n w e
        exact ⟨g', by rw [x1, gB2_some, if_neg n10], fG.tr x2, x3⟩
    · refine ⟨fun _ => ⟨G, ?_, fG⟩, fun n w e => ?_⟩
      · unfold f6_checkRoute f4_read
        rw [if_pos s1, s5, ob_some, s2, ob_some, if_pos h1, if_pos h1, if_neg c1, if_neg c2, gB2_some, if_pos rfl, hG]
      · unfold rdX at e
        rw [if_neg c1, if_neg c2] at e; exact absurd e (by simp)
end
section
/-! PURE: the model reads a route into its row -/
def Fgg (M : Nat) (g h : g_H) : Prop := gS h = gS g ∧ gR h = gR g ∧ gJ h = gJ g ∧ gZ h = gZ g ∧ ∀ a, a ≠ M + 8 → gI h a = gI g a
theorem Fgg.rf {M : Nat} {g : g_H} : Fgg M g g := ⟨rfl, rfl, rfl, rfl, fun _ _ => rfl⟩
theorem Fgg.tr {M : Nat} {g h k : g_H} (x : Fgg M g h) (y : Fgg M h k) : Fgg M g k := ⟨y.1.trans x.1, y.2.1.trans x.2.1, y.2.2.1.trans x.2.2.1, y.2.2.2.1.trans x.2.2.2.1, fun a ha => (y.2.2.2.2 a ha).trans (x.2.2.2.2 a ha)⟩
theorem Fgg.put {M k : Nat} {g : g_H} {v : Int32} : Fgg M g (gPI g (M + 8) k v) := ⟨rfl, rfl, rfl, rfl, fun b hb => gU_o hb⟩
theorem Fgg.mm {M : Nat} {g h : g_H} (f : Fgg M g h) : Fmm M g h := ⟨Nat.le_of_eq f.2.2.2.1.symm, fun a _ => ⟨by rw [f.1], by rw [f.2.2.1], by rw [f.2.1], fun ha => f.2.2.2.2 a (by omega)⟩⟩
theorem MX.fg {M n1 n2 n3 n4 : Nat} {g h : g_H} {s : Sg} (m : MX M g s n1 n2 n3 n4) (f : Fgg M g h) : MX M h s n1 n2 n3 n4 := by
  obtain ⟨l, m2, m3, m4⟩ := m
  obtain ⟨f1, f2, f3, f4, f5⟩ := f
  refine ⟨by unfold ML; rw [f1, f2]; exact l, ?_, ?_, ?_⟩
  · unfold M0; rw [f5 M (by omega)]; exact m2
  · unfold M1; rw [f5 (M + 1) (by omega), f5 (M + 2) (by omega), f5 (M + 3) (by omega), f5 (M + 5) (by omega)]; exact m3
  · unfold M2; rw [f5 (M + 4) (by omega), f5 (M + 6) (by omega), f5 (M + 7) (by omega)]; exact m4
theorem m_dup {M n1 n2 n3 n4 n : Nat} {h : g_H} {s : Sg} {w : Nat → Int32} {x x3 v : Int32} {K : g_H → Nat → Int32 → Int32 → Int32 → Option (Int32 × g_H)} (m : MX M h s n1 n2 n3 n4) (h7 : n < 7) (hw : ∀ i, i < n → gI h (M + 8) i = w i) :
    ∀ k i fuel : Nat, i + k = n → k < fuel → (∀ j, j < i → w j ≠ v) → f7_read_80 K fuel h M x (nI n) x3 v (nI i) = if (∀ j, j < n → w j ≠ v) then f7_read_117 K (gPI h (M + 8) n v) M x (nI (n + 1)) x3 else some (0, h) := by
  have k8 : gR h M 12 = some (M + 8) := m.1.2.1.2.2.2.2.2.2.2
  have z8 : gS h (M + 8) = (11, 7) := m.1.2.2.2.2.2.2.2.2.2
  intro k
  induction k with
  | zero =>
    intro i fuel hi hf hb
    obtain ⟨fu, rfl⟩ : ∃ fu, fuel = fu + 1 := ⟨fuel - 1, by omega⟩
    have : i = n := by omega
    subst this
    have ci : Int32.toNatClampNeg (nI i) = i := cl_nI (by omega)
    show f7_read_80b K _ h M x (nI i) x3 v (nI i) = _
    unfold f7_read_80b
    rw [if_pos (Int32.le_refl _), if_pos m.1.1, k8, ob_some, z8, if_pos rfl, if_pos (ixOk (by omega) (by omega)), ci, nI_1, if_pos hb]
  | succ k ih =>
    intro i fuel hi hf hb
    obtain ⟨fu, rfl⟩ : ∃ fu, fuel = fu + 1 := ⟨fuel - 1, by omega⟩
    have ci : Int32.toNatClampNeg (nI i) = i := cl_nI (by omega)
    show f7_read_80b K (f7_read_80 K fu) h M x (nI n) x3 v (nI i) = _
    unfold f7_read_80b
    rw [if_neg (nI_ge (by omega) (by omega)), if_pos m.1.1, k8, ob_some, z8, if_pos rfl, if_pos (ixOk (by omega) (by omega)), ci, hw i (by omega), nI_1]
    by_cases e : w i = v
    · rw [if_pos e, if_neg (fun q => q i (by omega) e)]
    · rw [if_neg e]
      exact ih (i + 1) fu (by omega) (by omega) fun j hj => by
        by_cases e2 : j = i
        · rw [e2]; exact e
        · exact hb j (by omega)
theorem m_app {M n1 n2 n3 n4 n : Nat} {h : g_H} {s : Sg} {w : Nat → Int32} {x x3 v : Int32} {K : g_H → Nat → Int32 → Int32 → Int32 → Option (Int32 × g_H)} (m : MX M h s n1 n2 n3 n4) (wt : WT s n1 n2) (h7 : n < 7) (hw : ∀ i, i < n → gI h (M + 8) i = w i) :
    f7_read_44 K h M x (nI n) x3 v = if okR s n1 n w v then f7_read_117 K (gPI h (M + 8) n v) M x (nI (n + 1)) x3 else some (0, h) := by
  have k8 : gR h M 12 = some (M + 8) := m.1.2.1.2.2.2.2.2.2.2
  have z8 : gS h (M + 8) = (11, 7) := m.1.2.2.2.2.2.2.2.2.2
  have dup := m_dup (x := x) (x3 := x3) (v := v) (K := K) m h7 hw n 0 300 (by omega) (by omega) (fun j hj => absurd hj (by omega))
  have e77 : f7_read_77 K h M x (nI n) x3 v = if (∀ j, j < n → w j ≠ v) then f7_read_117 K (gPI h (M + 8) n v) M x (nI (n + 1)) x3 else some (0, h) := dup
  unfold f7_read_44
  rw [if_pos m.1.1, m_isHouse m wt.1 wt.2.1, gB2_some]
  by_cases c1 : inR (nI n1) v
  · rw [if_pos c1, if_neg n10]
    by_cases c0 : n = 0
    · rw [if_pos (show nI n ≤ 0 from nI_le (b := 0) (by omega) (by omega)), e77]
      by_cases c : ∀ j, j < n → w j ≠ v
      · rw [if_pos c, if_pos ⟨c1, c, Or.inl c0⟩]
      · rw [if_neg c, if_neg fun q => c q.2.1]
    · have cn : Int32.toNatClampNeg (nI (n - 1)) = n - 1 := cl_nI (by omega)
      have en : nI n - 1 = nI (n - 1) := nI_sub (b := 1) (by omega)
      rw [if_neg (nI_nle0 (by omega) (by omega)), if_pos m.1.1, k8, ob_some, z8, if_pos rfl, en, if_pos (ixOk (by omega) (by omega)), cn, hw (n - 1) (by omega), m_lane m wt, gB2_some]
      by_cases c2 : sl s (w (n - 1)) v = -1
      · rw [if_pos c2, if_neg fun q => (q.2.2.resolve_left c0) c2]
      · rw [if_neg c2, e77]
        by_cases c : ∀ j, j < n → w j ≠ v
        · rw [if_pos c, if_pos ⟨c1, c, Or.inr c2⟩]
        · rw [if_neg c, if_neg fun q => c q.2.1]
  · rw [if_neg c1, if_pos rfl, if_neg fun q => c1 q.1]
theorem m_readLoop {M n1 n2 n3 n4 X : Nat} {s : Sg} (wt : WT s n1 n2) (hX : X < 2 ^ 28) :
    ∀ k n fuel : Nat, ∀ (w : Nat → Int32) (h : g_H), n + k ≤ 7 → k < fuel → MX M h s n1 n2 n3 n4 → (∀ i, i < n → gI h (M + 8) i = w i) → (0 < n → 0 < X / 2 ^ (4 * k)) →
    (rdS s n1 (nI X) k n w = none → ∃ h', f7_read_17 fuel h M (nI X) (nI n) (nI (4 * k) - 4) = some (0, h') ∧ Fgg M h h') ∧
    ∀ n' w', rdS s n1 (nI X) k n w = some (n', w') → ∃ h', f7_read_17 fuel h M (nI X) (nI n) (nI (4 * k) - 4) = some (nI n', h') ∧ Fgg M h h' ∧ ∀ i, i < n' → gI h' (M + 8) i = w' i := by
  intro k
  induction k with
  | zero =>
    intro n fuel w h hn hf m hw hd
    obtain ⟨fu, rfl⟩ : ∃ fu, fuel = fu + 1 := ⟨fuel - 1, by omega⟩
    refine ⟨fun e => absurd e (by simp [rdS]), fun n' w' e => ?_⟩
    have e' : (n, w) = (n', w') := Option.some.inj e
    obtain ⟨rfl, rfl⟩ := Prod.mk.inj e'
    refine ⟨h, ?_, Fgg.rf, hw⟩
    show f7_read_17b (f7_read_17 fu) h M (nI X) (nI n) (nI (4 * 0) - 4) = some (nI n, h)
    unfold f7_read_17b
    rw [if_pos (by decide)]
  | succ k ih =>
    intro n fuel w h hn hf m hw hd
    obtain ⟨fu, rfl⟩ : ∃ fu, fuel = fu + 1 := ⟨fuel - 1, by omega⟩
    have hr : rs (nI X) k = nI (X / 2 ^ (4 * k)) := shr28 hX (by omega)
    have hlt : X / 2 ^ (4 * k) < 2 ^ 28 := Nat.lt_of_le_of_lt (Nat.div_le_self _ _) hX
    have hdv : X / 2 ^ (4 * (k + 1)) ≤ X / 2 ^ (4 * k) := Nat.div_le_div_left (Nat.pow_le_pow_right (by omega) (by omega)) (Nat.pos_of_ne_zero (by simp))
    have z0 : rs (nI X) k = 0 ↔ X / 2 ^ (4 * k) = 0 := by rw [hr]; exact nI_eq (b := 0) (Nat.lt_trans hlt (by decide)) (by omega)
    have h4 : nI (4 * (k + 1)) - 4 = nI (4 * k) := (nI_sub (b := 4) (by omega)).trans (by rw [show 4 * (k + 1) - 4 = 4 * k by omega])
    have hm : nI (4 * k) + -4 = nI (4 * k) - 4 := by rw [show (-4 : Int32) = -(4 : Int32) from rfl, ← Int32.sub_eq_add_neg]
    have st : f7_read_17 (fu + 1) h M (nI X) (nI n) (nI (4 * (k + 1)) - 4) = if rs (nI X) k = 0 then f7_read_17 fu h M (nI X) (nI n) (nI (4 * k) - 4) else if okR s n1 n w (dg (nI X) k) then f7_read_17 fu (gPI h (M + 8) n (dg (nI X) k)) M (nI X) (nI (n + 1)) (nI (4 * k) - 4) else some (0, h) := by
      have ap := m_app (x := nI X) (x3 := nI (4 * k)) (v := dg (nI X) k) (K := f7_read_17 fu) m wt (show n < 7 by omega) hw
      unfold f7_read_117 at ap
      rw [hm] at ap
      show f7_read_17b (f7_read_17 fu) h M (nI X) (nI n) (nI (4 * (k + 1)) - 4) = _
      unfold f7_read_17b f7_read_117
      rw [h4, if_neg (nI_pos (by omega)), hm]
      show (if nI n = 0 then if rs (nI X) k = 0 then _ else f7_read_44 _ h M (nI X) (nI n) (nI (4 * k)) (dg (nI X) k) else f7_read_44 _ h M (nI X) (nI n) (nI (4 * k)) (dg (nI X) k)) = _
      rw [ap]
      by_cases n0 : n = 0
      · rw [if_pos (show nI n = 0 by rw [n0]; rfl)]
      · rw [if_neg (show ¬ nI n = 0 from fun q => n0 ((nI_eq (b := 0) (show n < 2 ^ 31 by omega) (by omega)).mp q)), if_neg (show ¬ rs (nI X) k = 0 from fun q => by
          have := hd (by omega)
          have := z0.mp q
          omega)]
    rw [st]
    by_cases c : rs (nI X) k = 0
    · have n0 : n = 0 := by
        rcases Nat.eq_zero_or_pos n with z | z
        · exact z
        · have := hd z
          have := z0.mp c
          omega
      have er : rdS s n1 (nI X) (k + 1) n w = rdS s n1 (nI X) k n w := if_pos c
      rw [er, if_pos c]
      exact ih n fu w h (by omega) (by omega) m hw (fun q => absurd q (by omega))
    · rw [if_neg c]
      by_cases o : okR s n1 n w (dg (nI X) k)
      · have er : rdS s n1 (nI X) (k + 1) n w = rdS s n1 (nI X) k (n + 1) (upw w n (dg (nI X) k)) := (if_neg c).trans (if_pos o)
        have f1 : Fgg M h (gPI h (M + 8) n (dg (nI X) k)) := Fgg.put
        obtain ⟨y1, y2⟩ := ih (n + 1) fu (upw w n (dg (nI X) k)) (gPI h (M + 8) n (dg (nI X) k)) (by omega) (by omega) (m.fg f1) (fun i hi => by
          unfold upw
          rw [gI_PI, if_pos rfl]
          by_cases e : i = n
          · rw [if_pos e, if_pos e]
          · rw [if_neg e, if_neg e]; exact hw i (by omega)) (fun _ => Nat.pos_of_ne_zero fun q => c (z0.mpr q))
        rw [er, if_pos o]
        refine ⟨fun e => ?_, fun n' w' e => ?_⟩
        · obtain ⟨h', x1, x2⟩ := y1 e
          exact ⟨h', x1, f1.tr x2⟩
        · obtain ⟨h', x1, x2, x3⟩ := y2 n' w' e
          exact ⟨h', x1, f1.tr x2, x3⟩
      · have er : rdS s n1 (nI X) (k + 1) n w = none := (if_neg c).trans (if_neg o)
        rw [er, if_neg o]
        exact ⟨fun _ => ⟨h, rfl, Fgg.rf⟩, fun n' w' e => absurd e (by simp)⟩
theorem m_read {M n1 n2 n3 n4 : Nat} {h : g_H} {s : Sg} (m : MX M h s n1 n2 n3 n4) (wt : WT s n1 n2) (x : Int32) :
    (rdX s n1 x = none → ∃ h', f7_read h M x = some (0, h') ∧ Fgg M h h') ∧ ∀ n w, rdX s n1 x = some (n, w) → ∃ h', f7_read h M x = some (nI n, h') ∧ Fgg M h h' ∧ ∀ i, i < n → gI h' (M + 8) i = w i := by
  have c0 : x ≤ 0 ↔ x < 1 := by
    rw [Int32.le_iff_toInt_le, Int32.lt_iff_toInt_lt]
    have e0 : (0 : Int32).toInt = 0 := rfl
    have e1 : (1 : Int32).toInt = 1 := rfl
    omega
  by_cases c1 : x < 1
  · refine ⟨fun _ => ⟨h, ?_, Fgg.rf⟩, fun n w e => ?_⟩
    · unfold f7_read
      rw [if_pos (c0.mpr c1)]
    · unfold rdX at e
      rw [if_pos c1] at e; exact absurd e (by simp)
  · by_cases c2 : x < 268435456
    · have er : rdX s n1 x = rdS s n1 x 7 0 (fun _ => 0) := (if_neg c1).trans (if_pos c2)
      obtain ⟨X, rfl, X1, X2⟩ := rdX_in c1 c2
      obtain ⟨y1, y2⟩ := m_readLoop (M := M) (n3 := n3) (n4 := n4) wt X2 7 0 300 (fun _ => 0) h (by omega) (by omega) m (fun i hi => absurd hi (by omega)) (fun q => absurd q (by omega))
      have pre : f7_read h M (nI X) = f7_read_17 300 h M (nI X) (nI 0) (nI (4 * 7) - 4) := by
        unfold f7_read
        rw [if_neg fun q => c1 (c0.mp q), if_pos c2]
        rfl
      rw [er, pre]
      exact ⟨y1, y2⟩
    · refine ⟨fun _ => ⟨h, ?_, Fgg.rf⟩, fun n w e => ?_⟩
      · unfold f7_read
        rw [if_neg fun q => c1 (c0.mp q), if_neg c2]
      · unfold rdX at e
        rw [if_neg c1, if_neg c2] at e; exact absurd e (by simp)
end
section
/-! PURE: a bee with a new route: the table, the class and the model -/
def nbS (s : Sg) (b : Nat) (w v : Nat → Int32) : Sg := fun t i k => if t = 4 ∧ i = b then w k else if t = 3 ∧ i = b then v k else s t i k
def tb (s : Sg) (b n3 : Nat) (w v : Nat → Int32) : Sg := su (nbS s b w v) 0 0 3 (nI n3)
theorem tb_T {s : Sg} {b n3 t : Nat} {w v : Nat → Int32} (h0 : t ≠ 0) (h3 : t ≠ 3) (h4 : t ≠ 4) : tb s b n3 w v t = s t := by
  funext i k
  simp [tb, su, nbS, h0, h3, h4]
theorem tb_03 {s : Sg} {b n3 : Nat} {w v : Nat → Int32} : tb s b n3 w v 0 0 3 = nI n3 := su_s
theorem tb_0 {s : Sg} {b n3 k : Nat} {w v : Nat → Int32} (h : k ≠ 3) : tb s b n3 w v 0 0 k = s 0 0 k := by
  simp [tb, su, nbS, h]
theorem tb_3 {s : Sg} {b n3 i : Nat} {w v : Nat → Int32} (h : i ≠ b) : tb s b n3 w v 3 i = s 3 i := by
  funext k
  simp [tb, su, nbS, h]
theorem tb_3b {s : Sg} {b n3 : Nat} {w v : Nat → Int32} : tb s b n3 w v 3 b = v := by
  funext k
  simp [tb, su, nbS]
theorem tb_4 {s : Sg} {b n3 i : Nat} {w v : Nat → Int32} (h : i ≠ b) : tb s b n3 w v 4 i = s 4 i := by
  funext k
  simp [tb, su, nbS, h]
theorem tb_4b {s : Sg} {b n3 : Nat} {w v : Nat → Int32} : tb s b n3 w v 4 b = w := by
  funext k
  simp [tb, su, nbS]
theorem tb_wy {s : Sg} {b n3 : Nat} {w v : Nat → Int32} (x y : Int32) : wy (tb s b n3 w v) x y = wy s x y := by
  unfold wy
  rw [tb_0 (by omega), tb_T (by omega) (by omega) (by omega)]
theorem tb_sl {s : Sg} {b n3 : Nat} {w v : Nat → Int32} (x y : Int32) : sl (tb s b n3 w v) x y = sl s x y := by
  have h : ∀ k, slF (tb s b n3 w v) x y k = slF s x y k := fun k => by
    induction k with
    | zero => rfl
    | succ k ih =>
      show (if _ then _ else _) = (if _ then _ else _)
      rw [ih, tb_T (by omega) (by omega) (by omega)]
  unfold sl
  rw [h, tb_0 (by omega)]
theorem tb_tgR {s : Sg} {b n3 : Nat} {w v u : Nat → Int32} {to : Int32} {k : Nat} : tgR (tb s b n3 w v) u to k = tgR s u to k := by
  induction k with
  | zero => rfl
  | succ k ih =>
    show (if _ then _ else _) = (if _ then _ else _)
    rw [ih, tb_wy]
theorem tb_tg {s : Sg} {b n3 i : Nat} {w v : Nat → Int32} {to : Int32} (h : i ≠ b) : tg (tb s b n3 w v) i to = tg s i to := by
  unfold tg
  rw [tgR_4, tgR_4, tb_tgR, tb_4 h, tb_3 h]
theorem tb_tgb {s : Sg} {b n3 n : Nat} {w v : Nat → Int32} {to : Int32} (h : v 5 = nI n) (h7 : n ≤ 7) : tg (tb s b n3 w v) b to = (tgR s w to n).1 := by
  unfold tg
  rw [tgR_4, tb_tgR, tb_4b, tb_3b, h, show cl (nI n) = n from cl_nI (by omega)]
/-- the new bee's numbers -/
def VB (n : Nat) (v : Nat → Int32) : Prop := v 5 = nI n ∧ ∃ p l st ho : Nat, v 0 = nI p ∧ p < n ∧ v 1 = nI l ∧ l ≤ 6 ∧ v 2 = nI st ∧ st ≤ 30 ∧ v 3 = nI ho ∧ ho ≤ 20 ∧ (v 4 = 0 ∨ v 4 = 1) ∧ (v 7 = 0 ∨ v 7 = 1)
theorem WF.tbl {s : Sg} {n1 n2 n3 n4 q b n m3 : Nat} {w v : Nat → Int32} (wf : WF s n1 n2 n3 n4 q) (hv : VB n v) (gw : GW s n1 n w) (hn : 1 ≤ n ∧ n ≤ 7) (h6 : m3 ≤ 6) (hle : n3 ≤ m3) (hb : ∀ b', b' < m3 → b' = b ∨ b' < n3) (hc : ∃ c, c ≤ 3 ∧ car s b = nI c) : WF (tb s b m3 w v) n1 n2 m3 n4 q := by
  obtain ⟨⟨e1, e2, e3, e4, e5, e6, e7⟩, w2, w3, w4, w5, w6, w7, w8, w9⟩ := wf
  obtain ⟨v5, p, l, st, ho, v0, v0', v1, v1', v2, v2', v3, v3', v4, v7⟩ := hv
  have t4 : tb s b m3 w v 0 0 4 = nI n4 := (tb_0 (by omega)).trans w4
  have hcar : ∀ x, car (tb s b m3 w v) x = car s x := fun x => by
    rw [car_def t4 w5, car_def w4 w5]
    exact carF_keep fun i hi => by rw [tb_T (by omega) (by omega) (by omega)]
  refine ⟨⟨(tb_0 (by omega)).trans e1, e2, (tb_0 (by omega)).trans e3, e4, ?_, ?_, ?_⟩, tb_03, h6, t4, w5, (tb_0 (by omega)).trans w6, w7, fun b' hb' => ⟨?_, ?_⟩, fun i hi => ?_⟩
  · rw [tb_T (by omega) (by omega) (by omega)]; exact e5
  · rw [tb_T (by omega) (by omega) (by omega)]; exact e6
  · rw [tb_T (by omega) (by omega) (by omega)]; exact e7
  · by_cases e : b' = b
    · subst e
      refine ⟨n, p, l, st, ho, ?_⟩
      rw [tb_3b, tb_4b]
      refine ⟨v5, hn.1, hn.2, v0, v0', v1, v1', v2, v2', v3, v3', v4, v7, gw.1, fun k hk => ?_⟩
      rw [tb_sl]
      exact gw.2.1 k hk
    · obtain ⟨z, p, l, st, ho, x⟩ := (w8 b' ((hb b' hb').resolve_left e)).1
      refine ⟨z, p, l, st, ho, ?_⟩
      rw [tb_3 e, tb_4 e]
      obtain ⟨x1, x2, x3, x4, x5, x6, x7, x8, x9, x10, x11, x12, x13, x14, x15⟩ := x
      exact ⟨x1, x2, x3, x4, x5, x6, x7, x8, x9, x10, x11, x12, x13, x14, fun k hk => by rw [tb_sl]; exact x15 k hk⟩
  · rw [hcar]
    by_cases e : b' = b
    · rw [e]; exact hc
    · exact (w8 b' ((hb b' hb').resolve_left e)).2
  · have x := w9 i hi
    unfold WL at x ⊢
    rw [tb_T (by omega) (by omega) (by omega)]
    obtain ⟨x1, x2, x3, x4, x5, x6⟩ := x
    refine ⟨x1, x2, ?_, x4, x5, x6⟩
    rcases x3 with x3 | ⟨j, j1, j2⟩
    · exact Or.inl x3
    · exact Or.inr ⟨j, by omega, j2⟩
/-- the class's cells of bee b and of its route -/
def BC (a0 b n : Nat) (h : g_H) (s : Sg) (w v : Nat → Int32) : Prop := gI h (a0 + 43 + 2 + 5 * b) 0 = nI b ∧ gI h (a0 + 43 + 2 + 5 * b) 2 = v 0 ∧ gI h (a0 + 43 + 2 + 5 * b) 3 = v 1 ∧ gI h (a0 + 43 + 2 + 5 * b) 4 = v 2 ∧ gI h (a0 + 43 + 2 + 5 * b) 5 = v 3 ∧ gI h (a0 + 43 + 2 + 5 * b) 6 = car s b ∧ gI h (a0 + 43 + 2 + 5 * b) 7 = v 4 ∧ gI h (a0 + 43 + 2 + 5 * b) 8 = v 6 ∧ gI h (a0 + 43 + 2 + 5 * b) 9 = v 7 ∧
  gI h (a0 + 46 + 5 * b) 0 = nI n ∧ (∀ i, i < n → gI h (a0 + 47 + 5 * b) i = w i) ∧ (∀ i, i + 1 < n → gI h (a0 + 48 + 5 * b) i = sl s (w i) (w (i + 1))) ∧ ∀ j, j < 14 → gI h (a0 + 49 + 5 * b) j = (tgR s w (nI j) n).1
def bx (a0 b a : Nat) : Prop := a = a0 + 43 + 2 + 5 * b ∨ a = a0 + 46 + 5 * b ∨ a = a0 + 47 + 5 * b ∨ a = a0 + 48 + 5 * b ∨ a = a0 + 49 + 5 * b
theorem ClI.tbl {a0 n1 n2 n3 n4 q b n m3 : Nat} {g h : g_H} {s : Sg} {w v : Nat → Int32} (I : ClI a0 g s n1 n2 n3 n4 q) (hv : VB n v) (gw : GW s n1 n w) (hn : 1 ≤ n ∧ n ≤ 7) (h6 : m3 ≤ 6) (hle : n3 ≤ m3) (hb : ∀ b', b' < m3 → b' = b ∨ b' < n3) (hb6 : b < 6) (hc : ∃ c, c ≤ 3 ∧ car s b = nI c)
    (hS : gS h = gS g) (hR : gR h = gR g) (hI : ∀ a, ¬ bx a0 b a → a ≠ a0 + 43 → gI h a = gI g a) (h3 : gI h (a0 + 43) 3 = nI m3) (hk : ∀ k, k ≠ 3 → gI h (a0 + 43) k = gI g (a0 + 43) k) (bc : BC a0 b n h s w v) : ClI a0 h (tb s b m3 w v) n1 n2 m3 n4 q := by
  obtain ⟨c1, c2, c3, c4, c5, c6, c7, c8, c9, c10, c11, c12, c13⟩ := bc
  have w3 := I.1.1.2.2.1
  have w4 := I.1.1.2.2.2.1
  have w5 := I.1.1.2.2.2.2.1
  have hw13 := I.1.1.1.2.1
  have hn2 := I.1.1.1.2.2.2.1
  have v5 := hv.1
  have hT : ∀ t, t ≠ 0 → t ≠ 3 → t ≠ 4 → tb s b m3 w v t = s t := fun t a1 a2 a3 => tb_T a1 a2 a3
  have t4 : tb s b m3 w v 0 0 4 = nI n4 := (tb_0 (by omega)).trans w4
  have hcar : ∀ x, car (tb s b m3 w v) x = car s x := fun x => by
    rw [car_def t4 w5, car_def w4 w5]
    exact carF_keep fun i hi => by rw [hT 5 (by omega) (by omega) (by omega)]
  have harr : arr (tb s b m3 w v) = arr s := by
    rw [arr_def t4 w5, arr_def w4 w5]
    exact arrF_keep fun i hi => by rw [hT 5 (by omega) (by omega) (by omega)]
  refine ⟨⟨I.1.1.tbl hv gw hn h6 hle hb hc, ?_, ?_⟩, ?_, (hk 7 (by omega)).trans I.2.2.1, ?_⟩
  · obtain ⟨r0, r1, r2, r3, ⟨q1, q2, q3, q4, q5⟩, r5⟩ := I.1.2.1
    refine ⟨r0, by unfold TL; rw [hS, hR]; exact r1, by unfold FL; rw [hS, hR]; exact r2, fun x hx => by unfold RtL; rw [hS, hR]; exact r3 x hx, ⟨?_, ?_, fun x hx => ?_, fun i hi => ?_, fun x y hx hy => ?_⟩, fun b' hb' => ?_⟩
    · rw [hI _ (fun k => by unfold bx at k; omega) (by omega), tb_0 (by omega)]; exact q1
    · rw [hI _ (fun k => by unfold bx at k; omega) (by omega), tb_0 (by omega)]; exact q2
    · rw [hI _ (fun k => by unfold bx at k; omega) (by omega), hT 1 (by omega) (by omega) (by omega)]; exact q3 x hx
    · rw [hI (a0 + 4 + i) (fun k => by unfold bx at k; omega) (by omega), hk 7 (by omega), hT 2 (by omega) (by omega) (by omega)]; exact q4 i hi
    · rw [hI _ (fun k => by unfold bx at k; omega) (by omega), hT 6 (by omega) (by omega) (by omega)]; exact q5 x y hx hy
    · by_cases e : b' = b
      · subst e
        rw [tb_3b, tb_4b, v5, show cl (nI n) = n from cl_nI (by omega)]
        refine ⟨c10, c11, fun k hk' => ?_, fun x hx => ?_⟩
        · rw [tb_sl]; exact c12 k hk'
        · rw [tb_tgb v5 hn.2]; exact c13 x hx
      · have lt := (hb b' hb').resolve_left e
        obtain ⟨x1, x2, x3, x4⟩ := r5 b' lt
        rw [tb_3 e, tb_4 e, hI (a0 + 46 + 5 * b') (fun k => by unfold bx at k; omega) (by omega), hI (a0 + 47 + 5 * b') (fun k => by unfold bx at k; omega) (by omega), hI (a0 + 48 + 5 * b') (fun k => by unfold bx at k; omega) (by omega), hI (a0 + 49 + 5 * b') (fun k => by unfold bx at k; omega) (by omega)]
        exact ⟨x1, x2, fun k hk' => by rw [tb_sl]; exact x3 k hk', fun x hx => by rw [tb_tg e]; exact x4 x hx⟩
  · obtain ⟨d1, d2, d3, d4, d5⟩ := I.1.2.2
    refine ⟨⟨h3.trans tb_03.symm, ?_, ?_⟩, fun b' hb' => ?_, fun b' hb' => ?_, ?_, fun i hi k hk' => ?_⟩
    · rw [hk 4 (by omega), tb_0 (by omega)]; exact d1.2.1
    · rw [hk 5 (by omega), tb_0 (by omega)]; exact d1.2.2
    · by_cases e : b' = b
      · subst e
        rw [tb_3b, hR]
        exact ⟨(I.2.1.2.2.2.2.2.2.2 b' hb6).1, c1, c2, c3, c4, c5, c7, c8, c9⟩
      · have lt := (hb b' hb').resolve_left e
        rw [tb_3 e, hR, hI (a0 + 43 + 2 + 5 * b') (fun k => by unfold bx at k; omega) (by omega)]
        exact d2 b' lt
    · rw [hcar]
      by_cases e : b' = b
      · subst e; exact c6
      · have lt := (hb b' hb').resolve_left e
        rw [hI (a0 + 43 + 2 + 5 * b') (fun k => by unfold bx at k; omega) (by omega)]
        exact d3 b' lt
    · unfold R5; rw [harr, hk 6 (by omega)]; exact d4
    · rw [hI (a0 + 43 + 33 + i) (fun k => by unfold bx at k; omega) (by omega), hT 5 (by omega) (by omega) (by omega)]; exact d5 i hi k hk'
  · obtain ⟨t1, t2, t3, t4, t5, t6, t7, t8⟩ := I.2.1
    refine ⟨by rw [hS]; exact t1, by rw [hR]; exact t2, by rw [hR]; exact t3, by rw [hR]; exact t4, by rw [hR]; exact t5, ?_, ?_, fun b' hb' => ?_⟩
    · unfold FL; rw [hS, hR]; exact t6
    · unfold RtL; rw [hS, hR]; exact t7
    · rw [hR, hI (a0 + 96 + 2 + 5 * b') (fun k => by unfold bx at k; omega) (by omega)]
      by_cases e : b' = b
      · subst e
        exact ⟨(t8 b' hb').1, c1, (t8 b' hb').2.2⟩
      · rw [hI (a0 + 43 + 2 + 5 * b') (fun k => by unfold bx at k; omega) (by omega)]; exact t8 b' hb'
  · obtain ⟨C, la, u1, u2, u3⟩ := I.2.2.2
    exact ⟨C, la, by rw [hT 6 (by omega) (by omega) (by omega)]; exact u1, by rw [hT 2 (by omega) (by omega) (by omega)]; exact u2, u3⟩
theorem MX.tbl {M n1 n2 n3 n4 b n m3 : Nat} {g h : g_H} {s : Sg} {w v : Nat → Int32} (m : MX M g s n1 n2 n3 n4) (v5 : v 5 = nI n) (h7 : n ≤ 7) (hb : ∀ b', b' < m3 → b' = b ∨ b' < n3) (hz : ∀ b', b' < n3 → ∃ z, s 3 b' 5 = nI z ∧ z ≤ 7)
    (hS : gS h = gS g) (hR : gR h = gR g) (hI : ∀ a, a ≠ M → a ≠ M + 4 → a ≠ M + 5 → gI h a = gI g a) (h6 : gI h M 6 = nI m3) (hk : ∀ k, k ≠ 6 → gI h M k = gI g M k)
    (h4 : ∀ k, k < 8 → gI h (M + 4) (8 * b + k) = v k) (h4' : ∀ b' k, b' ≠ b → k < 8 → gI h (M + 4) (8 * b' + k) = gI g (M + 4) (8 * b' + k)) (h5 : ∀ k, k < n → gI h (M + 5) (7 * b + k) = w k) (h5' : ∀ b' k, b' ≠ b → k < 7 → gI h (M + 5) (7 * b' + k) = gI g (M + 5) (7 * b' + k)) : MX M h (tb s b m3 w v) n1 n2 m3 n4 := by
  obtain ⟨l, ⟨a1, a2, a3, a4⟩, ⟨m1, m2, m3', m4⟩, ⟨p1, p2, p3⟩⟩ := m
  have hT : ∀ t, t ≠ 0 → t ≠ 3 → t ≠ 4 → tb s b m3 w v t = s t := fun t a1 a2 a3 => tb_T a1 a2 a3
  refine ⟨by unfold ML; rw [hS, hR]; exact l, ⟨?_, ?_, ?_, ?_⟩, ⟨?_, ?_, ?_, fun b' hb' k hk' => ?_⟩, ⟨fun b' hb' k hk' => ?_, ?_, ?_⟩⟩
  · rw [hk 1 (by omega), tb_0 (by omega)]; exact a1
  · rw [hk 3 (by omega), tb_0 (by omega)]; exact a2
  · rw [h6, tb_03]
  · rw [hk 9 (by omega), tb_0 (by omega)]; exact a4
  · rw [hI _ (by omega) (by omega) (by omega), hT 1 (by omega) (by omega) (by omega)]; exact m1
  · rw [hI _ (by omega) (by omega) (by omega), hT 2 (by omega) (by omega) (by omega)]; exact m2
  · rw [hI _ (by omega) (by omega) (by omega), hT 6 (by omega) (by omega) (by omega)]; exact m3'
  · by_cases e : b' = b
    · subst e
      rw [tb_3b, v5, show cl (nI n) = n from cl_nI (by omega)] at hk'
      rw [tb_4b]
      exact h5 k hk'
    · have lt := (hb b' hb').resolve_left e
      obtain ⟨z, z1, z2⟩ := hz b' lt
      rw [tb_3 e] at hk'
      rw [tb_4 e, h5' b' k e (by rw [z1, show cl (nI z) = z from cl_nI (by omega)] at hk'; omega)]
      exact m4 b' lt k hk'
  · by_cases e : b' = b
    · subst e
      rw [tb_3b]
      exact h4 k hk'
    · have lt := (hb b' hb').resolve_left e
      rw [tb_3 e, h4' b' k e hk']
      exact p1 b' lt k hk'
  · rw [hI _ (by omega) (by omega) (by omega), hT 5 (by omega) (by omega) (by omega)]; exact p2
  · rw [hI _ (by omega) (by omega) (by omega), tb_0 (by omega)]; exact p3
end
section
/-! PURE: the class gives a bee a new route -/
theorem p_copyR {g : g_H} {r D : Nat} (hr : RtL r g) (hD : RtL D g) (lt : r + 3 < D) : ∃ g', f4_copyFrom g r D = some g' ∧ gS g' = gS g ∧ gR g' = gR g ∧ gJ g' = gJ g ∧ gZ g' = gZ g ∧ (∀ a, ¬ (r ≤ a ∧ a ≤ r + 3) → gI g' a = gI g a) ∧ gI g' r 0 = gI g D 0 ∧ (∀ i, i < 7 → gI g' (r + 1) i = gI g (D + 1) i) ∧ (∀ i, i < 7 → gI g' (r + 2) i = gI g (D + 2) i) ∧ ∀ i, i < 14 → gI g' (r + 3) i = gI g (D + 3) i := by
  obtain ⟨r1, r2, r3, r4, r5, r6, r7⟩ := hr
  obtain ⟨d1, d2, d3, d4, d5, d6, d7⟩ := hD
  obtain ⟨A, hA⟩ : ∃ A, A = gPI g r 0 (gI g D 0) := ⟨_, rfl⟩
  obtain ⟨B, hB⟩ : ∃ B, B = gPW A (r + 1) (va_cpy (gI A (D + 1)) (gI A (r + 1)) 0 0 7) := ⟨_, rfl⟩
  obtain ⟨C, hC⟩ : ∃ C, C = gPW B (r + 2) (va_cpy (gI B (D + 2)) (gI B (r + 2)) 0 0 7) := ⟨_, rfl⟩
  obtain ⟨E, hE⟩ : ∃ E, E = gPW C (r + 3) (va_cpy (gI C (D + 3)) (gI C (r + 3)) 0 0 14) := ⟨_, rfl⟩
  have RA : gR A = gR g := by rw [hA]; rfl
  have RB : gR B = gR g := by rw [hB]; exact RA
  have RC : gR C = gR g := by rw [hC]; exact RB
  have SC : gS C = gS g := by rw [hC, hB, hA]; rfl
  have IA : ∀ a, a ≠ r → gI A a = gI g a := fun a ha => by rw [hA]; exact gU_o ha
  have IB : ∀ a, a ≠ r + 1 → gI B a = gI A a := fun a ha => by rw [hB]; exact gW_o ha
  have IC : ∀ a, a ≠ r + 2 → gI C a = gI B a := fun a ha => by rw [hC]; exact gW_o ha
  have IE : ∀ a, a ≠ r + 3 → gI E a = gI C a := fun a ha => by rw [hE]; exact gW_o ha
  have b7 : ¬ (0 : Int32) < 0 ∧ ¬ (0 : Int32) < 0 ∧ ¬ (7 : Int32) < 0 ∧ 0 + 7 ≤ (11, 7).2 ∧ 0 + 7 ≤ (11, 7).2 := by decide
  have b14 : ¬ (0 : Int32) < 0 ∧ ¬ (0 : Int32) < 0 ∧ ¬ (14 : Int32) < 0 ∧ 0 + 14 ≤ (11, 14).2 ∧ 0 + 14 ≤ (11, 14).2 := by decide
  refine ⟨E, ?_, ?_, ?_, ?_, ?_, fun a ha => ?_, ?_, fun i hi => ?_, fun i hi => ?_, fun i hi => ?_⟩
  · unfold f4_copyFrom gLt
    rw [show Int32.toNatClampNeg (0 : Int32) = 0 from rfl, show Int32.toNatClampNeg (7 : Int32) = 7 from rfl, show Int32.toNatClampNeg (14 : Int32) = 14 from rfl, if_pos d1, if_pos r1, ← hA, RA, d2, ob_some, r2, ob_some, d5, if_pos rfl, r5, if_pos rfl, if_pos b7, ← hB, RB, d3, ob_some, r3, ob_some, d6, if_pos rfl, r6, if_pos rfl, if_pos b7, ← hC]
    dsimp only
    rw [RC, d4, ob_some, r4, ob_some, SC, d7, if_pos rfl, r7, if_pos rfl, if_pos b14, ← hE]
  · rw [hE]; exact SC
  · rw [hE]; exact RC
  · rw [hE, hC, hB, hA]; rfl
  · rw [hE, hC, hB, hA]; rfl
  · rw [IE a (by omega), IC a (by omega), IB a (by omega), IA a (by omega)]
  · rw [IE r (by omega), IC r (by omega), IB r (by omega), hA, gI_PI, if_pos rfl, if_pos rfl]
  · rw [IE _ (by omega), IC _ (by omega), hB, gI_PW, if_pos rfl, cpy_in hi, IA _ (by omega)]
  · rw [IE _ (by omega), hC, gI_PW, if_pos rfl, cpy_in hi, IB _ (by omega), IA _ (by omega)]
  · rw [hE, gI_PW, if_pos rfl, cpy_in hi, IC _ (by omega), IB _ (by omega), IA _ (by omega)]
theorem p_follow {g : g_H} {r D B : Nat} {x : Int32} (hr : RtL r g) (hD : RtL D g) (lt : r + 3 < D) (hB : (gS g B).1 = 1) (hBr : gR g B 1 = some r) : ∃ g', f0_follow g B D x = some (gPI (gPI g' B 2 x) B 9 1) ∧ gS g' = gS g ∧ gR g' = gR g ∧ gJ g' = gJ g ∧ gZ g' = gZ g ∧ (∀ a, ¬ (r ≤ a ∧ a ≤ r + 3) → gI g' a = gI g a) ∧ gI g' r 0 = gI g D 0 ∧ (∀ i, i < 7 → gI g' (r + 1) i = gI g (D + 1) i) ∧ (∀ i, i < 7 → gI g' (r + 2) i = gI g (D + 2) i) ∧ ∀ i, i < 14 → gI g' (r + 3) i = gI g (D + 3) i := by
  obtain ⟨g', h1, h2, h3⟩ := p_copyR hr hD lt
  refine ⟨g', ?_, h2, h3⟩
  unfold f0_follow
  rw [if_pos hB, hBr, ob_some, if_pos hr.1, h1, ob_some, if_pos (by rw [h2]; exact hB)]
/-- a bee that has just come out -/
def vN (n : Nat) : Nat → Int32 := fun k => if k = 2 then 30 else if k = 3 then 10 else if k = 5 then nI n else if k = 7 then 1 else 0
theorem vN_VB {n : Nat} (h : 1 ≤ n) : VB n (vN n) := ⟨rfl, 0, 0, 30, 10, rfl, h, rfl, by omega, rfl, by omega, rfl, by omega, Or.inl rfl, Or.inr rfl⟩
theorem car_new {s : Sg} {n1 n2 n3 n4 q : Nat} (w : WF s n1 n2 n3 n4 q) : car s n3 = 0 := by
  rw [car_def w.2.2.2.1 w.2.2.2.2.1]
  refine carF_off fun i hi => ?_
  have h6 := w.2.2.1
  rcases (w.2.2.2.2.2.2.2.2 i hi).2.2.1 with e | ⟨b, hb, e⟩
  · rw [e]; exact fun q => nI_m1 (by omega) q.symm
  · rw [e]; exact fun q => absurd (nI_inj (by omega) (by omega) q) (by omega)
theorem p_addBee {a0 n1 n2 n3 n4 q n : Nat} {g : g_H} {s : Sg} {x : Int32} {w : Nat → Int32} (I : ClI a0 g s n1 n2 n3 n4 q) (e : rdX s n1 x = some (n, w)) (h6 : n3 < 6) : ∃ g1, f6_addBee g a0 x = some ((0, nI n3), g1) ∧ Fc a0 g g1 ∧ ClI a0 g1 (tb s n3 (n3 + 1) w (vN n)) n1 n2 (n3 + 1) n4 q := by
  obtain ⟨g3, x1, x2, ⟨dq1, dq2, dq3⟩, dt⟩ := (p_checkRoute I x).2 n w e
  obtain ⟨gw, hn1, hn7⟩ := rdX_ok e
  have J := I.dr x2
  obtain ⟨s1, s2, s3, s4, s5, s6, s7, s8, s9, s10, s11, s12, s13, s14, s15⟩ := J.sh
  have b6 : gR g3 (a0 + 43) 1 = some (a0 + 43 + 1) := J.1.2.1.2.2.1.2.2.1
  have b8 : gS g3 (a0 + 43 + 1) = (15, 6) := J.1.2.1.2.2.1.2.2.2.2.1
  obtain ⟨b10, b11⟩ := J.1.2.1.2.2.1.2.2.2.2.2.2.1 n3 h6
  have b12 : gR g3 (a0 + 43 + 2 + 5 * n3) 1 = some (a0 + 46 + 5 * n3) := (J.2.1.2.2.2.2.2.2.2 n3 h6).1
  have b13 : gI g3 (a0 + 43 + 2 + 5 * n3) 0 = nI n3 := (J.2.1.2.2.2.2.2.2.2 n3 h6).2.1
  have cb : Int32.toNatClampNeg (nI n3) = n3 := cl_nI (by omega)
  have rr : RtL (a0 + 46 + 5 * n3) g3 := J.1.2.1.2.2.2.1 n3 h6
  have rd : RtL (a0 + 149) g3 := J.2.1.2.2.2.2.2.2.1
  obtain ⟨B, hB⟩ : ∃ B, B = a0 + 43 + 2 + 5 * n3 := ⟨_, rfl⟩
  obtain ⟨G, hG⟩ : ∃ G, G = gPI (gPI (gPI (gPI (gPI (gPI g3 B 3 0) B 4 30) B 5 10) B 6 0) B 7 0) B 8 0 := ⟨_, rfl⟩
  have SG : gS G = gS g3 := by rw [hG]; rfl
  have RG : gR G = gR g3 := by rw [hG]; rfl
  have IG : ∀ a, a ≠ B → gI G a = gI g3 a := fun a ha => by
    rw [hG]
    exact (((((gU_o ha).trans (gU_o ha)).trans (gU_o ha)).trans (gU_o ha)).trans (gU_o ha)).trans (gU_o ha)
  obtain ⟨g5, y1, y2, y3, y4, y5, y6, y7, y8, y9, y10⟩ := p_follow (g := G) (x := 0) (by unfold RtL; rw [SG, RG]; exact rr) (by unfold RtL; rw [SG, RG]; exact rd) (by omega) (show (gS G B).1 = 1 by rw [SG, hB]; exact b11) (by rw [RG, hB]; exact b12)
  have eB : ∀ k, gI g5 B k = gI G B k := fun k => by rw [y6 B (by omega)]
  obtain ⟨K, hK⟩ : ∃ K, K = gPI (gPI g5 B 2 0) B 9 1 := ⟨_, rfl⟩
  have SK : gS K = gS g3 := by rw [hK]; exact y2.trans SG
  have RK : gR K = gR g3 := by rw [hK]; exact y3.trans RG
  have IK : ∀ a, a ≠ B → ¬ (a0 + 46 + 5 * n3 ≤ a ∧ a ≤ a0 + 46 + 5 * n3 + 3) → gI K a = gI g3 a := fun a h1 h2 => by
    rw [hK, show gI (gPI (gPI g5 B 2 0) B 9 1) a = gI g5 a from (gU_o h1).trans (gU_o h1), y6 a h2, IG a h1]
  have IKr : ∀ a, a ≠ B → gI K a = gI g5 a := fun a h1 => by rw [hK]; exact (gU_o h1).trans (gU_o h1)
  have k43 : gI K (a0 + 43) = gI g3 (a0 + 43) := IK _ (by omega) (by omega)
  obtain ⟨L, hL⟩ : ∃ L, L = gPI K (a0 + 43) 3 (nI (n3 + 1)) := ⟨_, rfl⟩
  have IL : ∀ a, a ≠ a0 + 43 → gI L a = gI K a := fun a ha => by rw [hL]; exact gU_o ha
  refine ⟨L, ?_, ⟨?_, ?_, ?_, fun a ha => ⟨?_, ?_⟩⟩, ?_⟩
  · unfold f6_addBee f0_hatch gLt
    rw [if_pos I.sh.1, x1, gB2_some, if_pos rfl, if_pos s1, s3, ob_some, if_pos s7, s10, if_pos (show nI n3 < (6 : Int32) from nI_lt (b := 6) h6 (by omega)), ob_some, if_pos s7, b6, ob_some, ob_some, if_pos s7, b8, if_pos rfl, s10, if_pos (ixOk (by omega) (by omega)), cb, b10, ob_some, s5, ob_some, if_pos b11, if_pos b11, ← hB, ← hG, y1, ob_some, ob_some, ← hK, if_pos (show (gS K a0).fst = 7 by rw [SK]; exact s1), RK, s3, ob_some, if_pos (show (gS K (a0 + 43)).fst = 2 by rw [SK]; exact s7)]
    dsimp only
    rw [k43, s10, nI_1, ← hL]
  · rw [hL]; show gZ K = _; rw [hK]; show gZ g5 = _; rw [y5, hG]; exact x2.2.2.2.1
  · rw [hL]; show gS K = _; rw [SK]; exact x2.1
  · rw [hL]; show gJ K = _; rw [hK]; show gJ g5 = _; rw [y4, hG]; exact x2.2.2.1
  · rw [IL a (by omega), IK a (by omega) (by omega)]; exact x2.2.2.2.2 a (by omega)
  · rw [hL]; show gR K a = _; rw [RK, x2.2.1]
  · refine J.tbl (vN_VB hn1) gw ⟨hn1, hn7⟩ (by omega) (by omega) (fun b' hb' => by omega) h6 ⟨0, by omega, car_new I.1.1⟩ (by rw [hL]; exact SK) (by rw [hL]; exact RK) (fun a h1 h2 => ?_) (by rw [hL, gI_PI, if_pos rfl, if_pos rfl]) (fun k hk => by rw [hL, gI_PI, if_pos rfl, if_neg hk, k43]) ?_
    · unfold bx at h1
      rw [IL a h2, IK a (by omega) (by omega)]
    · have eL : ∀ k, gI L B k = gI K B k := fun k => by rw [IL B (by omega)]
      have vB : ∀ k, gI K B k = if k = 9 then 1 else if k = 2 then 0 else gI G B k := fun k => by
        rw [hK, gI_PI, if_pos rfl, gI_PI, if_pos rfl, eB]
      have vG : ∀ k, gI G B k = if k = 8 then 0 else if k = 7 then 0 else if k = 6 then 0 else if k = 5 then 10 else if k = 4 then 30 else if k = 3 then 0 else gI g3 B k := fun k => by
        rw [hG, gI_PI, if_pos rfl, gI_PI, if_pos rfl, gI_PI, if_pos rfl, gI_PI, if_pos rfl, gI_PI, if_pos rfl, gI_PI, if_pos rfl]
      unfold BC
      rw [← hB, eL, eL, eL, eL, eL, eL, eL, eL, eL, vB, vB, vB, vB, vB, vB, vB, vB, vB, vG, vG, vG, vG, vG, vG, vG, vG, vG, car_new I.1.1]
      refine ⟨by rw [hB]; exact b13, rfl, rfl, rfl, rfl, rfl, rfl, rfl, rfl, ?_, fun i hi => ?_, fun i hi => ?_, fun j hj => ?_⟩
      · rw [IL _ (by omega), IKr _ (by omega), y7, IG _ (by omega)]; exact dq1
      · rw [IL (a0 + 47 + 5 * n3) (by omega), IKr (a0 + 47 + 5 * n3) (by omega), show a0 + 47 + 5 * n3 = a0 + 46 + 5 * n3 + 1 by omega, y8 i (by omega), IG _ (by omega)]; exact dq2 i hi
      · rw [IL (a0 + 48 + 5 * n3) (by omega), IKr (a0 + 48 + 5 * n3) (by omega), show a0 + 48 + 5 * n3 = a0 + 46 + 5 * n3 + 2 by omega, y9 i (by omega), IG _ (by omega)]; exact dq3 i hi
      · rw [IL (a0 + 49 + 5 * n3) (by omega), IKr (a0 + 49 + 5 * n3) (by omega), show a0 + 49 + 5 * n3 = a0 + 46 + 5 * n3 + 3 by omega, y10 j hj, IG _ (by omega)]; exact dt j hj
end
section
/-! PURE: swear, the class -/
def vS (s : Sg) (b n p : Nat) : Nat → Int32 := fun k => if k = 0 then nI p else if k = 3 then clip (s 3 b 3 + -3) else if k = 5 then nI n else if k = 7 then 1 else s 3 b k
theorem clip_m3 {ho : Nat} (h : ho ≤ 20) : clip (nI ho + -3) = nI (ho - 3) ∧ (if (0 : Int32) < nI ho - 3 then nI ho - 3 else 0) = nI (ho - 3) := by
  have all : ∀ k : Fin 21, clip (nI k.1 + -3) = nI (k.1 - 3) ∧ (if (0 : Int32) < nI k.1 - 3 then nI k.1 - 3 else 0) = nI (k.1 - 3) := by decide
  exact all ⟨ho, by omega⟩
theorem vS_3 {s : Sg} {b n p : Nat} : vS s b n p 3 = clip (s 3 b 3 + -3) := by
  unfold vS
  rw [if_neg (by omega), if_pos rfl]
theorem vS_0 {s : Sg} {b n p : Nat} : vS s b n p 0 = nI p := if_pos rfl
theorem vS_5 {s : Sg} {b n p : Nat} : vS s b n p 5 = nI n := by
  unfold vS
  rw [if_neg (by omega), if_neg (by omega), if_pos rfl]
theorem vS_7 {s : Sg} {b n p : Nat} : vS s b n p 7 = 1 := by
  unfold vS
  rw [if_neg (by omega), if_neg (by omega), if_neg (by omega), if_pos rfl]
theorem vS_o {s : Sg} {b n p k : Nat} (h0 : k ≠ 0) (h3 : k ≠ 3) (h5 : k ≠ 5) (h7 : k ≠ 7) : vS s b n p k = s 3 b k := by
  unfold vS
  rw [if_neg h0, if_neg h3, if_neg h5, if_neg h7]
theorem vS_VB {s : Sg} {n1 b n p : Nat} (wb : WB s n1 b) (hp : p < n) : VB n (vS s b n p) := by
  obtain ⟨z, p', l, st, ho, x1, x2, x3, x4, x5, x6, x7, x8, x9, x10, x11, x12, x13, x14, x15⟩ := wb
  exact ⟨vS_5, p, l, st, ho - 3, vS_0, hp, (vS_o (by omega) (by omega) (by omega) (by omega)).trans x6, x7, (vS_o (by omega) (by omega) (by omega) (by omega)).trans x8, x9, by rw [vS_3, x10]; exact (clip_m3 x11).1, by omega, by rw [vS_o (by omega) (by omega) (by omega) (by omega)]; exact x12, Or.inr vS_7⟩
theorem p_swear {a0 n1 n2 n3 n4 q n b : Nat} {g : g_H} {s : Sg} {x y : Int32} {w : Nat → Int32} (I : ClI a0 g s n1 n2 n3 n4 q) (e : rdX s n1 x = some (n, w)) (hb : b < n3) (hy : y = nI b) :
    ((0 < s 3 b 1 ∨ ∀ i, i < n → w i ≠ s 4 b (cl (s 3 b 0))) → ∃ g1, f6_swear g a0 y x = some ((3, 0), g1) ∧ Fdd a0 g g1) ∧
    ∀ p, p < n → w p = s 4 b (cl (s 3 b 0)) → ¬ 0 < s 3 b 1 → ∃ g1, f6_swear g a0 y x = some ((0, clip (s 3 b 3 + -3)), g1) ∧ Fc a0 g g1 ∧ ClI a0 g1 (tb s b n3 w (vS s b n p)) n1 n2 n3 n4 q := by
  subst hy
  obtain ⟨g3, x1, x2, ⟨dq1, dq2, dq3⟩, dt⟩ := (p_checkRoute I x).2 n w e
  obtain ⟨gw, hn1, hn7⟩ := rdX_ok e
  have J := I.dr x2
  obtain ⟨s1, s2, s3, s4, s5, s6, s7, s8, s9, s10, s11, s12, s13, s14, s15⟩ := J.sh
  have b6 : gR g3 (a0 + 43) 1 = some (a0 + 43 + 1) := J.1.2.1.2.2.1.2.2.1
  have b8 : gS g3 (a0 + 43 + 1) = (15, 6) := J.1.2.1.2.2.1.2.2.2.2.1
  obtain ⟨b10, b11⟩ := J.1.2.1.2.2.1.2.2.2.2.2.2.1 b (by omega)
  obtain ⟨b12, b13, b14, b15, b16, b17, b18, b19, b20⟩ := J.1.2.2.2.1 b hb
  have b21 : gI g3 (a0 + 43 + 2 + 5 * b) 6 = car s b := J.1.2.2.2.2.1 b hb
  have cb : Int32.toNatClampNeg (nI b) = b := cl_nI (by omega)
  have rr : RtL (a0 + 46 + 5 * b) g3 := J.1.2.1.2.2.2.1 b (by omega)
  have rd : RtL (a0 + 149) g3 := J.2.1.2.2.2.2.2.2.1
  have hh : f0_house g3 (a0 + 43 + 2 + 5 * b) = some (s 4 b (cl (s 3 b 0)), g3) := by
    obtain ⟨z, p', l, st, ho, v1, v2, v3, v4, v5, v6⟩ := J.1.wb hb
    obtain ⟨u1, u2, -⟩ := J.1.2.1.2.2.2.2.2 b hb
    rw [p_house b11 b12 rr (u1.trans v1) v3, b14, v4, if_pos (inR_of (by omega) v5), show cl (nI p') = p' from cl_nI (by omega), ← u2 p' (by rw [v1, show cl (nI z) = z from cl_nI (by omega)]; exact v5), show a0 + 46 + 5 * b + 1 = a0 + 47 + 5 * b by omega]
  obtain ⟨pl, p1, p2⟩ := p_placeOf (w := w) rd dq1 hn7 dq2 (s 4 b (cl (s 3 b 0)))
  have pre : f6_swear g a0 (nI b) x = if 0 < s 3 b 1 then some ((3, 0), g3) else if pl = -1 then some ((3, 0), g3) else (f0_follow g3 (a0 + 43 + 2 + 5 * b) (a0 + 149) pl).bind fun g40 => if (gS g40 (a0 + 43 + 2 + 5 * b)).1 = 1 then (f0_addHonour g40 (a0 + 43 + 2 + 5 * b) (-3)).bind fun g44 => if (gS g44 (a0 + 43 + 2 + 5 * b)).1 = 1 then some ((0, gI g44 (a0 + 43 + 2 + 5 * b) 5), g44) else none else none := by
    unfold f6_swear f6_swear_46
    rw [if_pos I.sh.1, p_checkBee I, gB2_some, if_pos (inR_of (by omega) hb), if_pos rfl, if_pos I.sh.1, x1, gB2_some, if_pos rfl, if_pos s1, s3, ob_some, if_pos s7, b6, ob_some, b8, if_pos rfl, if_pos (ixOk (by omega) (by omega)), cb, b10, ob_some, s5, ob_some, if_pos b11, hh, gB2_some, if_pos rd.1, p1, gB2_some, if_pos b11, b15, if_pos s1, s5, ob_some]
  refine ⟨fun c => ?_, fun p hp hw hl => ?_⟩
  · refine ⟨g3, ?_, x2⟩
    rw [pre]
    by_cases c1 : 0 < s 3 b 1
    · rw [if_pos c1]
    · rw [if_neg c1]
      rcases p2 with ⟨p2, -⟩ | ⟨j, j1, -, j3⟩
      · rw [if_pos p2]
      · exact absurd j3 (c.resolve_left c1 j j1)
  · have hpl : pl = nI p := by
      rcases p2 with ⟨-, p3⟩ | ⟨j, j1, j2, j3⟩
      · exact absurd hw (p3 p hp)
      · rw [j2]
        rcases Nat.lt_trichotomy j p with lt | eq | gt
        · exact absurd (j3.trans hw.symm) (gw.2.2 j p lt hp)
        · rw [eq]
        · exact absurd (hw.trans j3.symm) (gw.2.2 p j gt j1)
    obtain ⟨g5, y1, y2, y3, y4, y5, y6, y7, y8, y9, y10⟩ := p_follow (x := pl) rr rd (by omega) b11 b12
    obtain ⟨B, hB⟩ : ∃ B, B = a0 + 43 + 2 + 5 * b := ⟨_, rfl⟩
    rw [← hB] at b11 b12 b13 b14 b15 b16 b17 b18 b19 b20 b21 y1 pre
    obtain ⟨K, hK⟩ : ∃ K, K = gPI (gPI g5 B 2 pl) B 9 1 := ⟨_, rfl⟩
    obtain ⟨L, hL⟩ : ∃ L, L = gPI K B 5 (clip (s 3 b 3 + -3)) := ⟨_, rfl⟩
    have SK : gS K = gS g3 := by rw [hK]; exact y2
    have RK : gR K = gR g3 := by rw [hK]; exact y3
    have SL : gS L = gS g3 := by rw [hL]; exact SK
    have RL : gR L = gR g3 := by rw [hL]; exact RK
    have IL : ∀ a, a ≠ B → gI L a = gI g5 a := fun a ha => by
      rw [hL, hK]
      exact ((gU_o ha).trans (gU_o ha)).trans (gU_o ha)
    have eB : ∀ k, gI g5 B k = gI g3 B k := fun k => by rw [y6 B (by omega)]
    have K5 : gI K B 5 = s 3 b 3 := by
      rw [hK, gI_PI, if_pos rfl, if_neg (by omega), gI_PI, if_pos rfl, if_neg (by omega), eB]; exact b17
    have bK : (gS K B).1 = 1 := by rw [SK]; exact b11
    have I43 : gI L (a0 + 43) = gI g3 (a0 + 43) := by rw [IL _ (by omega), y6 _ (by omega)]
    refine ⟨L, ?_, ⟨?_, ?_, ?_, fun a ha => ⟨?_, ?_⟩⟩, ?_⟩
    · rw [pre, if_neg hl, if_neg (by rw [hpl]; exact nI_m1 (by omega)), y1, ob_some, ← hK, if_pos bK, p_addHonour bK, K5, ← hL, ob_some, if_pos (by rw [SL]; exact b11)]
      rw [show gI L B 5 = clip (s 3 b 3 + -3) by rw [hL, gI_PI, if_pos rfl, if_pos rfl]]
    · rw [hL, hK]; show gZ g5 = _; rw [y5]; exact x2.2.2.2.1
    · rw [SL]; exact x2.1
    · rw [hL, hK]; show gJ g5 = _; rw [y4]; exact x2.2.2.1
    · rw [IL a (by omega), y6 a (by omega)]; exact x2.2.2.2.2 a (by omega)
    · rw [RL, x2.2.1]
    · refine J.tbl (vS_VB (I.1.wb hb) hp) gw ⟨hn1, hn7⟩ s14 (Nat.le_refl _) (fun b' hb' => Or.inr hb') (by omega) (J.1.1.2.2.2.2.2.2.2.1 b hb).2 SL RL (fun a h1 h2 => ?_) (by rw [I43]; exact s10) (fun k hk => by rw [I43]) ?_
      · unfold bx at h1
        rw [IL a (by omega), y6 a (by omega)]
      · have vL : ∀ k, gI L B k = if k = 5 then clip (s 3 b 3 + -3) else if k = 9 then 1 else if k = 2 then pl else gI g3 B k := fun k => by
          rw [hL, gI_PI, if_pos rfl, hK, gI_PI, if_pos rfl, gI_PI, if_pos rfl, eB]
        unfold BC
        have o : ∀ k, k ≠ 5 → k ≠ 9 → k ≠ 2 → gI L B k = gI g3 B k := fun k k1 k2 k3 => by rw [vL, if_neg k1, if_neg k2, if_neg k3]
        rw [← hB, o 0 (by omega) (by omega) (by omega), o 3 (by omega) (by omega) (by omega), o 4 (by omega) (by omega) (by omega), o 6 (by omega) (by omega) (by omega), o 7 (by omega) (by omega) (by omega), o 8 (by omega) (by omega) (by omega), show gI L B 2 = pl by rw [vL, if_neg (by omega), if_neg (by omega), if_pos rfl], show gI L B 5 = clip (s 3 b 3 + -3) by rw [vL, if_pos rfl], show gI L B 9 = 1 by rw [vL, if_neg (by omega), if_pos rfl], vS_0, vS_3, vS_7, vS_o (k := 1) (by omega) (by omega) (by omega) (by omega), vS_o (k := 2) (by omega) (by omega) (by omega) (by omega), vS_o (k := 4) (by omega) (by omega) (by omega) (by omega), vS_o (k := 6) (by omega) (by omega) (by omega) (by omega)]
        refine ⟨b13, hpl, b15, b16, rfl, b21, b18, b19, rfl, ?_, fun i hi => ?_, fun i hi => ?_, fun j hj => ?_⟩
        · rw [IL _ (by omega), y7]; exact dq1
        · rw [IL (a0 + 47 + 5 * b) (by omega), show a0 + 47 + 5 * b = a0 + 46 + 5 * b + 1 by omega, y8 i (by omega)]; exact dq2 i hi
        · rw [IL (a0 + 48 + 5 * b) (by omega), show a0 + 48 + 5 * b = a0 + 46 + 5 * b + 2 by omega, y9 i (by omega)]; exact dq3 i hi
        · rw [IL (a0 + 49 + 5 * b) (by omega), show a0 + 49 + 5 * b = a0 + 46 + 5 * b + 3 by omega, y10 j hj]; exact dt j hj
end
section
/-! PURE: addBee as a call of both -/
abbrev c4 : Nat → Nat := fun c => if c = 0 then 0 else if c = 2 then 1 else 2
theorem Fmm.pw {M a : Nat} {g h : g_H} {r : Nat → Int32} (f : Fmm M g h) (ha : (M ≤ a ∧ a ≤ M + 8) ∨ gZ g ≤ a) : Fmm M g (gPW h a r) :=
  ⟨f.1, fun b hb => ⟨(f.2 b hb).1, (f.2 b hb).2.1, (f.2 b hb).2.2.1, fun hn => (show gI (gPW h a r) b = gI h b from gW_o (by omega)).trans ((f.2 b hb).2.2.2 hn)⟩⟩
theorem Fmm.pt {M a k : Nat} {g h : g_H} {v : Int32} (f : Fmm M g h) (ha : (M ≤ a ∧ a ≤ M + 8) ∨ gZ g ≤ a) : Fmm M g (gPI h a k v) :=
  ⟨f.1, fun b hb => ⟨(f.2 b hb).1, (f.2 b hb).2.1, (f.2 b hb).2.2.1, fun hn => (show gI (gPI h a k v) b = gI h b from gU_o (by omega)).trans ((f.2 b hb).2.2.2 hn)⟩⟩
theorem m_addBee {M n1 n2 n3 n4 q n : Nat} {h : g_H} {s : Sg} {x : Int32} {w : Nat → Int32} (wf : WF s n1 n2 n3 n4 q) (m : MX M h s n1 n2 n3 n4) (hZ : M + 8 < gZ h) (e : rdX s n1 x = some (n, w)) (h6 : n3 < 6) :
    ∃ g2, f7_addBee h M x = some (nI n3, g2) ∧ Fmm M h g2 ∧ MX M g2 (tb s n3 (n3 + 1) w (vN n)) n1 n2 (n3 + 1) n4 ∧ gI g2 M 0 = 0 := by
  obtain ⟨gw, hn1, hn7⟩ := rdX_ok e
  have e3 := wf.2.1
  have m' := m.thr (v := 0)
  obtain ⟨H3, x1, x2, x3⟩ := (m_read m' wf.1 x).2 n w e
  have m3 := m'.fg x2
  have t3 : gI H3 M 0 = 0 := by rw [x2.2.2.2.2 M (by omega), gI_PI, if_pos rfl, if_pos rfl]
  obtain ⟨zz, hzz⟩ : ∃ zz, zz = gZ H3 := ⟨_, rfl⟩
  have hz : zz = gZ h := by rw [hzz, x2.2.2.2.1]; rfl
  have hzM : M + 8 < zz := by omega
  obtain ⟨H, hH⟩ : ∃ H, H = gN H3 11 8 (fun _ => 0) := ⟨_, rfl⟩
  have S : gS H zz = (11, 8) := by rw [hH, hzz]; exact gS_gN rfl
  have mH : MX M H s n1 n2 n3 n4 := by rw [hH]; exact m3.gN (by rw [← hzz]; exact hzM)
  obtain ⟨H4, hH4⟩ : ∃ H4, H4 = gPI (gPI (gPI (gPI H zz 0 0) zz 1 0) zz 2 30) zz 3 10 := ⟨_, rfl⟩
  obtain ⟨H8, hH8⟩ : ∃ H8, H8 = gPI (gPI (gPI (gPI H4 zz 4 0) zz 5 (nI n)) zz 6 0) zz 7 1 := ⟨_, rfl⟩
  have S4 : gS H4 = gS H := by rw [hH4]; rfl
  have S8 : gS H8 = gS H := by rw [hH8]; exact S4
  have m4 : MX M H4 s n1 n2 n3 n4 := by rw [hH4]; exact (((mH.off hzM).off hzM).off hzM).off hzM
  have m8 : MX M H8 s n1 n2 n3 n4 := by rw [hH8]; exact (((m4.off hzM).off hzM).off hzM).off hzM
  have val : ∀ k, k < 8 → gI H8 zz k = vN n k := fun k hk => by
    rw [hH8, hH4]
    match k, hk with
    | 0, _ => simp [gI_PI, vN]
    | 1, _ => simp [gI_PI, vN]
    | 2, _ => simp [gI_PI, vN]
    | 3, _ => simp [gI_PI, vN]
    | 4, _ => simp [gI_PI, vN]
    | 5, _ => simp [gI_PI, vN]
    | 6, _ => simp [gI_PI, vN]
    | 7, _ => simp [gI_PI, vN]
  have o8 : ∀ a, a < zz → gI H8 a = gI H3 a := fun a ha => by
    have o : ∀ (g : g_H) (k : Nat) (v : Int32), gI (gPI g zz k v) a = gI g a := fun g k v => gU_o (by omega)
    rw [hH8, hH4, o, o, o, o, o, o, o, o, hH]
    exact gW_o (by omega)
  have fz : gZ h ≤ zz := by omega
  have f8 : Fmm M h H8 := by
    have f0 : Fmm M h H := by rw [hH]; exact ((Fmm.put (a := M) ⟨by omega, by omega⟩).tr x2.mm).tr Fmm.gN
    rw [hH8, hH4]
    exact (((((((f0.up fz).up fz).up fz).up fz).up fz).up fz).up fz).up fz
  obtain ⟨P, hP⟩ : ∃ P, P = gPW H8 (M + 4) (va_cpy (gI H8 zz) (gI H8 (M + 4)) 0 (8 * n3) 8) := ⟨_, rfl⟩
  obtain ⟨Q, hQ⟩ : ∃ Q, Q = gPW P (M + 5) (va_cpy (gI P (M + 8)) (gI P (M + 5)) 0 (7 * n3) n) := ⟨_, rfl⟩
  obtain ⟨R, hR⟩ : ∃ R, R = gPI Q M 6 (nI (n3 + 1)) := ⟨_, rfl⟩
  have SP : gS P = gS H8 := by rw [hP]; rfl
  have RP : gR P = gR H8 := by rw [hP]; rfl
  have SQ : gS Q = gS H8 := by rw [hQ]; exact SP
  have RQ : gR Q = gR H8 := by rw [hQ]; exact RP
  have IP : ∀ a, a ≠ M + 4 → gI P a = gI H8 a := fun a ha => by rw [hP]; exact gW_o ha
  have IQ : ∀ a, a ≠ M + 5 → gI Q a = gI P a := fun a ha => by rw [hQ]; exact gW_o ha
  have IR : ∀ a, a ≠ M → gI R a = gI Q a := fun a ha => by rw [hR]; exact gU_o ha
  have QM : gI Q M = gI H8 M := by rw [IQ M (by omega), IP M (by omega)]
  have HM : gI H8 M = gI H3 M := o8 M (by omega)
  have b6 : gI H8 M 6 = nI n3 := by rw [m8.2.1.2.2.1]; exact e3
  have mR : MX M R (tb s n3 (n3 + 1) w (vN n)) n1 n2 (n3 + 1) n4 := by
    refine m8.tbl (n := n) rfl hn7 (fun b' hb' => by omega) (fun b' hb' => ?_) (by rw [hR]; exact SQ) (by rw [hR]; exact RQ) (fun a h1 h2 h3 => by rw [IR a h1, IQ a h3, IP a h2]) (by rw [hR, gI_PI, if_pos rfl, if_pos rfl]) (fun k hk => by rw [hR, gI_PI, if_pos rfl, if_neg hk, QM]) (fun k hk => ?_) (fun b' k h1 h2 => ?_) (fun k hk => ?_) (fun b' k h1 h2 => ?_)
    · obtain ⟨z, p, l, st, ho, v1, v2, v3, -⟩ := (wf.2.2.2.2.2.2.2.1 b' hb').1
      exact ⟨z, v1, v3⟩
    · rw [IR _ (by omega), IQ _ (by omega), hP, gI_PW, if_pos rfl]
      unfold va_cpy
      rw [if_pos (by omega), show 0 + (8 * n3 + k - 8 * n3) = k by omega]
      exact val k hk
    · rw [IR _ (by omega), IQ _ (by omega), hP, gI_PW, if_pos rfl]
      unfold va_cpy
      rw [if_neg (by omega)]
    · rw [IR _ (by omega), hQ, gI_PW, if_pos rfl]
      unfold va_cpy
      rw [if_pos (by omega), show 0 + (7 * n3 + k - 7 * n3) = k by omega, IP _ (by omega), o8 _ (by omega)]
      exact x3 k hk
    · rw [IR _ (by omega), hQ, gI_PW, if_pos rfl]
      unfold va_cpy
      rw [if_neg (by omega), IP _ (by omega)]
  refine ⟨R, ?_, ?_, mR, ?_⟩
  · have cc : ¬ (0 : Int32) < 0 ∧ ¬ nI (8 * n3) < 0 ∧ ¬ (8 : Int32) < 0 ∧ 0 + 8 ≤ (11, 8).2 ∧ 8 * n3 + 8 ≤ (11, 48).2 :=
      ⟨by decide, nI_pos (by omega), by decide, by decide, by show 8 * n3 + 8 ≤ 48; omega⟩
    have cd : ¬ (0 : Int32) < 0 ∧ ¬ nI (7 * n3) < 0 ∧ ¬ nI n < 0 ∧ 0 + n ≤ (11, 7).2 ∧ 7 * n3 + n ≤ (11, 42).2 :=
      ⟨by decide, nI_pos (by omega), nI_pos (by omega), by show 0 + n ≤ 7; omega, by show 7 * n3 + n ≤ 42; omega⟩
    have nn : ¬ nI n = 0 := fun k => absurd ((nI_eq (b := 0) (show n < 2 ^ 31 by omega) (by omega)).mp k) (by omega)
    have n6 : ¬ nI n3 = (6 : Int32) := fun k => absurd ((nI_eq (b := 6) (show n3 < 2 ^ 31 by omega) (by omega)).mp k) (by omega)
    have cn : Int32.toNatClampNeg (nI n) = n := cl_nI (by omega)
    unfold f7_addBee gNw gLt
    rw [if_pos m.1.1, x1, gB2_some, if_neg nn, if_pos m3.1.1, m3.2.1.2.2.1, e3, if_neg n6, ← hzz, ← hH]
    dsimp only
    rw [S, if_pos (by decide), if_pos (by decide), if_pos (by decide), if_pos (by decide)]
    rw [show Int32.toNatClampNeg (0 : Int32) = 0 from rfl, show Int32.toNatClampNeg (1 : Int32) = 1 from rfl, show Int32.toNatClampNeg (2 : Int32) = 2 from rfl, show Int32.toNatClampNeg (3 : Int32) = 3 from rfl, show Int32.toNatClampNeg (4 : Int32) = 4 from rfl, show Int32.toNatClampNeg (5 : Int32) = 5 from rfl, show Int32.toNatClampNeg (6 : Int32) = 6 from rfl, show Int32.toNatClampNeg (7 : Int32) = 7 from rfl, show Int32.toNatClampNeg (8 : Int32) = 8 from rfl, ← hH4, S4, S, if_pos (by decide), if_pos (by decide), if_pos (by decide), if_pos (by decide), ← hH8]
    rw [if_pos m8.1.1, m8.1.2.1.2.2.2.1, ob_some, m8.1.2.2.2.2.2.1, if_pos rfl, b6, show (8 : Int32) * nI n3 = nI (8 * n3) from pk_mul 8 n3, cl_nI (show 8 * n3 < 2 ^ 31 by omega), S8, S, if_pos cc, ← hP, RP, m8.1.2.1.2.2.2.2.2.2.2, ob_some, m8.1.2.1.2.2.2.2.1, ob_some, IP M (by omega), b6]
    rw [← S8, m8.1.2.2.2.2.2.2.2.2.2, if_pos rfl, m8.1.2.2.2.2.2.2.1, if_pos rfl, show (7 : Int32) * nI n3 = nI (7 * n3) from pk_mul 7 n3, cl_nI (show 7 * n3 < 2 ^ 31 by omega), cn, if_pos cd]
    rw [← hQ, show gI Q M 6 = nI n3 by rw [QM]; exact b6, nI_1, ← hR, show gI R M 6 = nI (n3 + 1) by rw [hR, gI_PI, if_pos rfl, if_pos rfl], nI_pred]
  · rw [hR, hQ, hP]
    exact ((f8.pw (Or.inl ⟨by omega, by omega⟩)).pw (Or.inl ⟨by omega, by omega⟩)).pt (Or.inl ⟨by omega, by omega⟩)
  · rw [hR, gI_PI, if_pos rfl, if_neg (by omega), QM, HM]; exact t3
theorem o_addBee {a0 n1 n2 n3 n4 q : Nat} {g : g_H} {s : Sg} (I : ClI a0 g s n1 n2 n3 n4 q) (x : Int32) : OpR a0 g s n1 n2 n3 n4 q (f6_addBee g a0 x) (fun h => f7_addBee h (a0 + 153) x) c4 := by
  have e3 := I.1.1.2.1
  have h6 := I.1.1.2.2.1
  cases e : rdX s n1 x with
  | none =>
    obtain ⟨g', x1, x2⟩ := (p_checkRoute I x).1 e
    refine ⟨2, 0, g', s, n1, n2, n3, n4, q, ?_, by omega, x2.fc, I.dr x2, by omega, fun h m hZ => ?_⟩
    · unfold f6_addBee
      rw [if_pos I.sh.1, x1, gB2_some, if_neg (by decide)]
    · have m' := m.thr (v := 0)
      obtain ⟨h', y1, y2⟩ := (m_read m' I.1.1.1 x).1 e
      have m3 := m'.fg y2
      refine ⟨0, gPI h' (a0 + 153) 0 1, ?_, ((Fmm.put ⟨by omega, by omega⟩).tr y2.mm).tr (Fmm.put ⟨by omega, by omega⟩), m3.thr, ?_, fun k => absurd k (by omega)⟩
      · show f7_addBee h (a0 + 153) x = _
        unfold f7_addBee
        rw [if_pos m.1.1, y1, gB2_some, if_pos rfl, if_pos m3.1.1, m_fail m3.1.1, gB2_some]
      · rw [gI_PI, if_pos rfl, if_pos rfl]; rfl
  | some r =>
    obtain ⟨n, w⟩ := r
    by_cases lt : n3 < 6
    · obtain ⟨g1, x1, x2, x3⟩ := p_addBee I e lt
      refine ⟨0, nI n3, g1, _, n1, n2, n3 + 1, n4, q, x1, by omega, x2, x3, by omega, fun h m hZ => ?_⟩
      obtain ⟨g2, y1, y2, y3, y4⟩ := m_addBee I.1.1 m (by omega) e lt
      exact ⟨nI n3, g2, y1, y2, y3, y4, fun _ => rfl⟩
    · obtain ⟨g', x1, x2, -⟩ := (p_checkRoute I x).2 n w e
      obtain ⟨gw, hn1, hn7⟩ := rdX_ok e
      have J := I.dr x2
      obtain ⟨s1, s2, s3, s4, s5, s6, s7, s8, s9, s10, s11, s12, s13, s14, s15⟩ := J.sh
      refine ⟨3, 0, g', s, n1, n2, n3, n4, q, ?_, by omega, x2.fc, J, by omega, fun h m hZ => ?_⟩
      · unfold f6_addBee
        rw [if_pos I.sh.1, x1, gB2_some, if_pos rfl, if_pos s1, s3, ob_some, if_pos s7, s10, if_neg (show ¬ nI n3 < (6 : Int32) from nI_nlt (b := 6) (by omega) (by omega))]
      · have m' := m.thr (v := 0)
        obtain ⟨h', y1, y2, y3⟩ := (m_read m' I.1.1.1 x).2 n w e
        have m3 := m'.fg y2
        have nn : ¬ nI n = 0 := fun k => absurd ((nI_eq (b := 0) (show n < 2 ^ 31 by omega) (by omega)).mp k) (by omega)
        have n6 : nI n3 = (6 : Int32) := by rw [show n3 = 6 by omega]; rfl
        refine ⟨0, gPI h' (a0 + 153) 0 2, ?_, ((Fmm.put ⟨by omega, by omega⟩).tr y2.mm).tr (Fmm.put ⟨by omega, by omega⟩), m3.thr, ?_, fun k => absurd k (by omega)⟩
        · show f7_addBee h (a0 + 153) x = _
          unfold f7_addBee
          rw [if_pos m.1.1, y1, gB2_some, if_neg nn, if_pos m3.1.1, m3.2.1.2.2.1, e3, if_pos n6, m_fail m3.1.1, gB2_some]
        · rw [gI_PI, if_pos rfl, if_pos rfl]; rfl
end
section
/-! PURE: swear as a call of both -/
def laF (w : Nat → Int32) (H : Int32) : Nat → Int32
  | 0 => -1
  | i + 1 => if w i = H then nI i else laF w H i
theorem laF_none {w : Nat → Int32} {H : Int32} {n : Nat} (h : ∀ i, i < n → w i ≠ H) : laF w H n = -1 := by
  induction n with
  | zero => rfl
  | succ n ih => exact (if_neg (h n (by omega))).trans (ih fun i hi => h i (by omega))
theorem laF_at {w : Nat → Int32} {H : Int32} {n p : Nat} (hp : p < n) (h : w p = H) (d : ∀ i, i < n → i ≠ p → w i ≠ H) : laF w H n = nI p := by
  induction n with
  | zero => exact absurd hp (by omega)
  | succ n ih =>
    by_cases e : n = p
    · subst e; exact if_pos h
    · exact (if_neg (d n (by omega) e)).trans (ih (by omega) fun i hi => d i (by omega))
theorem b_be {M i k : Nat} {g : g_H} {x y : Int32} (l : ML M g) (hi : i < 6) (hk : k < 8) (hx : x = nI i) (hy : y = nI k) : f7_be g M x y = some (gI g (M + 4) (8 * i + k), g) := by
  obtain ⟨l1, ⟨l2, l3, l4, l5, l6, l7, l8, l9⟩, k1, k2, k3, k4, k5, k6, k7, k8⟩ := l
  subst hx; subst hy
  have c1 : Int32.toNatClampNeg (nI (8 * i + k)) = 8 * i + k := cl_nI (by omega)
  unfold f7_be
  rw [if_pos l1, l5, ob_some, k4, if_pos rfl, ix8, if_pos (ixOk (by omega) (by omega)), c1]
theorem b_setBe {M i k : Nat} {g : g_H} {x y : Int32} (l : ML M g) (hi : i < 6) (hk : k < 8) (hx : x = nI i) (hy : y = nI k) (v : Int32) : f7_setBe g M x y v = some (gPI g (M + 4) (8 * i + k) v) := by
  obtain ⟨l1, ⟨l2, l3, l4, l5, l6, l7, l8, l9⟩, k1, k2, k3, k4, k5, k6, k7, k8⟩ := l
  subst hx; subst hy
  have c1 : Int32.toNatClampNeg (nI (8 * i + k)) = 8 * i + k := cl_nI (by omega)
  unfold f7_setBe
  rw [if_pos l1, l5, ob_some, k4, if_pos rfl, ix8, if_pos (ixOk (by omega) (by omega)), c1]
theorem ML.pi {M a k : Nat} {g : g_H} {v : Int32} (l : ML M g) : ML M (gPI g a k v) := l
theorem m_swLoop {M n1 n2 n3 n4 b n : Nat} {h : g_H} {s : Sg} {w : Nat → Int32} (m : MX M h s n1 n2 n3 n4) (h6 : n3 ≤ 6) (hb : b < n3) (wb : WB s n1 b) (h7 : n ≤ 7) (hw : ∀ i, i < n → gI h (M + 8) i = w i) :
    ∀ k i fuel : Nat, i + k = n → k < fuel → ∃ K, f7_swear_41 fuel h M (nI b) (nI n) (laF w (s 4 b (cl (s 3 b 0))) i) (nI i) = f7_swear_41b K h M (nI b) (nI n) (laF w (s 4 b (cl (s 3 b 0))) n) (nI n) := by
  have k8 : gR h M 12 = some (M + 8) := m.1.2.1.2.2.2.2.2.2.2
  have z8 : gS h (M + 8) = (11, 7) := m.1.2.2.2.2.2.2.2.2.2
  intro k
  induction k with
  | zero =>
    intro i fuel hi hf
    obtain ⟨fu, rfl⟩ : ∃ fu, fuel = fu + 1 := ⟨fuel - 1, by omega⟩
    have : i = n := by omega
    subst this
    exact ⟨f7_swear_41 fu, rfl⟩
  | succ k ih =>
    intro i fuel hi hf
    obtain ⟨fu, rfl⟩ : ∃ fu, fuel = fu + 1 := ⟨fuel - 1, by omega⟩
    have ci : Int32.toNatClampNeg (nI i) = i := cl_nI (by omega)
    obtain ⟨K, hr⟩ := ih (i + 1) fu (by omega) (by omega)
    refine ⟨K, ?_⟩
    rw [← hr]
    show f7_swear_41b (f7_swear_41 fu) h M (nI b) (nI n) _ (nI i) = _
    unfold f7_swear_41b f7_swear_66
    rw [if_neg (nI_ge (by omega) (by omega)), if_pos m.1.1, k8, ob_some, z8, if_pos rfl, if_pos (ixOk (by omega) (by omega)), ci, m_house m h6 hb wb rfl, gB2_some, hw i (by omega), nI_1]
    by_cases e : w i = s 4 b (cl (s 3 b 0))
    · rw [if_pos e, show laF w (s 4 b (cl (s 3 b 0))) (i + 1) = nI i from if_pos e]
    · rw [if_neg e, show laF w (s 4 b (cl (s 3 b 0))) (i + 1) = laF w (s 4 b (cl (s 3 b 0))) i from if_neg e]
theorem m_swear {M n1 n2 n3 n4 q n b : Nat} {h : g_H} {s : Sg} {x : Int32} {w : Nat → Int32} (wf : WF s n1 n2 n3 n4 q) (m : MX M h s n1 n2 n3 n4) (e : rdX s n1 x = some (n, w)) (hb : b < n3) :
    ((0 < s 3 b 1 ∨ ∀ i, i < n → w i ≠ s 4 b (cl (s 3 b 0))) → ∃ g2, f7_swear h M (nI b) x = some (0, g2) ∧ Fmm M h g2 ∧ MX M g2 s n1 n2 n3 n4 ∧ gI g2 M 0 = 3) ∧
    ∀ p, p < n → w p = s 4 b (cl (s 3 b 0)) → ¬ 0 < s 3 b 1 → ∃ g2, f7_swear h M (nI b) x = some (clip (s 3 b 3 + -3), g2) ∧ Fmm M h g2 ∧ MX M g2 (tb s b n3 w (vS s b n p)) n1 n2 n3 n4 ∧ gI g2 M 0 = 0 := by
  obtain ⟨gw, hn1, hn7⟩ := rdX_ok e
  have e3 := wf.2.1
  have h6 := wf.2.2.1
  have wb := (wf.2.2.2.2.2.2.2.1 b hb).1
  have m' := m.thr (v := 0)
  obtain ⟨H, x1, x2, x3⟩ := (m_read m' wf.1 x).2 n w e
  have m3 := m'.fg x2
  have t3 : gI H M 0 = 0 := by rw [x2.2.2.2.2 M (by omega), gI_PI, if_pos rfl, if_pos rfl]
  have fH : Fmm M h H := (Fmm.put (a := M) ⟨by omega, by omega⟩).tr x2.mm
  have nn : ¬ nI n = 0 := fun k => absurd ((nI_eq (b := 0) (show n < 2 ^ 31 by omega) (by omega)).mp k) (by omega)
  obtain ⟨K, hK⟩ := m_swLoop m3 h6 hb wb hn7 x3 n 0 300 (by omega) (by omega)
  have be1 := m_be (i := b) (k := 1) (y := (1 : Int32)) m3 h6 hb (by omega) rfl rfl
  have pre : f7_swear h M (nI b) x = if 0 < s 3 b 1 then f7_swear_87 H M else if laF w (s 4 b (cl (s 3 b 0))) n = -1 then f7_swear_87 H M else f7_swear_41b K H M (nI b) (nI n) (laF w (s 4 b (cl (s 3 b 0))) n) (nI n) := by
    have s41 : f7_swear h M (nI b) x = f7_swear_41 300 H M (nI b) (nI n) (-1) 0 := by
      unfold f7_swear
      rw [if_pos m.1.1, m_isBee m' e3 h6, gB2_some, if_pos (inR_of (by omega) hb), if_neg n10, if_pos m'.1.1, x1, gB2_some, if_neg nn]
    rw [s41]
    refine hK.trans ?_
    unfold f7_swear_41b
    rw [if_pos (Int32.le_refl _), if_pos m3.1.1, be1, gB2_some]
    by_cases c1 : 0 < s 3 b 1
    · rw [if_pos c1, if_pos c1]
    · rw [if_neg c1, if_neg c1]
      by_cases c2 : laF w (s 4 b (cl (s 3 b 0))) n = -1
      · rw [if_pos c2, if_pos c2]
      · rw [if_neg c2, if_neg c2]
  have bad : f7_swear_87 H M = some (0, gPI H M 0 3) := by
    unfold f7_swear_87
    rw [if_pos m3.1.1, m_fail m3.1.1, gB2_some]
  refine ⟨fun c => ⟨gPI H M 0 3, ?_, fH.tr (Fmm.put ⟨by omega, by omega⟩), m3.thr, by rw [gI_PI, if_pos rfl, if_pos rfl]⟩, fun p hp hw hl => ?_⟩
  · rw [pre]
    by_cases c1 : 0 < s 3 b 1
    · rw [if_pos c1]; exact bad
    · rw [if_neg c1, if_pos (laF_none (c.resolve_left c1))]; exact bad
  · have la : laF w (s 4 b (cl (s 3 b 0))) n = nI p := laF_at hp hw fun i hi ne q => by
      rcases Nat.lt_trichotomy i p with lt | eq | gt
      · exact gw.2.2 i p lt hp (q.trans hw.symm)
      · exact ne eq
      · exact gw.2.2 p i gt hi (hw.trans q.symm)
    obtain ⟨z, p', l, st, ho, v1, v2, v3, v4, v5, v6, v7, v8, v9, v10, v11, v12⟩ := wb
    obtain ⟨cl1, cl2⟩ := clip_m3 v11
    obtain ⟨P, hP⟩ : ∃ P, P = gPW H (M + 5) (va_cpy (gI H (M + 8)) (gI H (M + 5)) 0 (7 * b) n) := ⟨_, rfl⟩
    obtain ⟨A, hA⟩ : ∃ A, A = gPI P (M + 4) (8 * b + 0) (nI p) := ⟨_, rfl⟩
    obtain ⟨B, hB⟩ : ∃ B, B = gPI A (M + 4) (8 * b + 5) (nI n) := ⟨_, rfl⟩
    obtain ⟨C, hC⟩ : ∃ C, C = gPI B (M + 4) (8 * b + 7) 1 := ⟨_, rfl⟩
    obtain ⟨D, hD⟩ : ∃ D, D = gPI C (M + 4) (8 * b + 3) (nI (ho - 3)) := ⟨_, rfl⟩
    have lP : ML M P := by rw [hP]; exact m3.1
    have lA : ML M A := by rw [hA]; exact lP
    have lB : ML M B := by rw [hB]; exact lA
    have lC : ML M C := by rw [hC]; exact lB
    have lD : ML M D := by rw [hD]; exact lC
    have SD : gS D = gS H := by rw [hD, hC, hB, hA, hP]; rfl
    have RD : gR D = gR H := by rw [hD, hC, hB, hA, hP]; rfl
    have ID : ∀ a, a ≠ M + 4 → gI D a = gI P a := fun a ha => by
      rw [hD, hC, hB, hA]
      exact (((gU_o ha).trans (gU_o ha)).trans (gU_o ha)).trans (gU_o ha)
    have IP : ∀ a, a ≠ M + 5 → gI P a = gI H a := fun a ha => by rw [hP]; exact gW_o ha
    have vD : ∀ j, gI D (M + 4) j = if j = 8 * b + 3 then nI (ho - 3) else if j = 8 * b + 7 then 1 else if j = 8 * b + 5 then nI n else if j = 8 * b + 0 then nI p else gI H (M + 4) j := fun j => by
      rw [hD, gI_PI, if_pos rfl, hC, gI_PI, if_pos rfl, hB, gI_PI, if_pos rfl, hA, gI_PI, if_pos rfl, IP (M + 4) (by omega)]
    have c3 : gI C (M + 4) (8 * b + 3) = nI ho := by
      rw [hC, gI_PI, if_pos rfl, if_neg (by omega), hB, gI_PI, if_pos rfl, if_neg (by omega), hA, gI_PI, if_pos rfl, if_neg (by omega), IP (M + 4) (by omega), m3.2.2.2.1 b hb 3 (by omega)]
      exact v10
    refine ⟨D, ?_, ?_, ?_, ?_⟩
    · have cd : ¬ (0 : Int32) < 0 ∧ ¬ nI (7 * b) < 0 ∧ ¬ nI n < 0 ∧ 0 + n ≤ (11, 7).2 ∧ 7 * b + n ≤ (11, 42).2 :=
        ⟨by decide, nI_pos (by omega), nI_pos (by omega), by show 0 + n ≤ 7; omega, by show 7 * b + n ≤ 42; omega⟩
      have cn : Int32.toNatClampNeg (nI n) = n := cl_nI (by omega)
      have c7 : Int32.toNatClampNeg (nI (7 * b)) = 7 * b := cl_nI (by omega)
      rw [pre, if_neg hl, la, if_neg (nI_m1 (by omega))]
      unfold f7_swear_41b
      rw [if_pos (Int32.le_refl _), if_pos m3.1.1, be1, gB2_some, if_neg hl, if_neg (nI_m1 (by omega)), if_pos m3.1.1, m3.1.2.1.2.2.2.2.2.2.2, ob_some, m3.1.2.1.2.2.2.2.1, ob_some, m3.1.2.2.2.2.2.2.2.2.2, if_pos rfl, m3.1.2.2.2.2.2.2.1, if_pos rfl, show Int32.toNatClampNeg (0 : Int32) = 0 from rfl, show (7 : Int32) * nI b = nI (7 * b) from pk_mul 7 b, c7, cn, if_pos cd, ← hP]
      rw [b_setBe (k := 0) (y := (0 : Int32)) lP (show b < 6 by omega) (by omega) rfl rfl, ← hA, ob_some, if_pos lA.1, b_setBe (k := 5) (y := (5 : Int32)) lA (show b < 6 by omega) (by omega) rfl rfl, ← hB, ob_some, if_pos lB.1, b_setBe (k := 7) (y := (7 : Int32)) lB (show b < 6 by omega) (by omega) rfl rfl, ← hC, ob_some, if_pos lC.1, b_be (k := 3) (y := (3 : Int32)) lC (show b < 6 by omega) (by omega) rfl rfl, gB2_some, c3, cl2, if_pos lC.1, b_setBe (k := 3) (y := (3 : Int32)) lC (show b < 6 by omega) (by omega) rfl rfl, ← hD, ob_some, if_pos lD.1, b_be (k := 3) (y := (3 : Int32)) lD (show b < 6 by omega) (by omega) rfl rfl, gB2_some, vD, if_pos rfl, v10, cl1]
    · rw [hD, hC, hB, hA, hP]
      have r : (M ≤ M + 4 ∧ M + 4 ≤ M + 8) ∨ gZ h ≤ M + 4 := Or.inl ⟨by omega, by omega⟩
      exact ((((fH.pw (Or.inl ⟨by omega, by omega⟩)).pt r).pt r).pt r).pt r
    · refine m3.tbl (n := n) vS_5 hn7 (fun b' hb' => Or.inr hb') (fun b' hb' => ?_) SD RD (fun a h1 h2 h3 => by rw [ID a h2, IP a h3]) (by rw [ID M (by omega), IP M (by omega), m3.2.1.2.2.1]; exact e3) (fun k hk => by rw [ID M (by omega), IP M (by omega)]) (fun k hk => ?_) (fun b' k h1 h2 => ?_) (fun k hk => ?_) (fun b' k h1 h2 => ?_)
      · obtain ⟨z, p, l, st, ho, u1, u2, u3, -⟩ := (wf.2.2.2.2.2.2.2.1 b' hb').1
        exact ⟨z, u1, u3⟩
      · rw [vD]
        by_cases k3 : k = 3
        · rw [k3, if_pos rfl, vS_3, v10, cl1]
        · rw [if_neg (by omega)]
          by_cases k7 : k = 7
          · rw [k7, if_pos rfl, vS_7]
          · rw [if_neg (by omega)]
            by_cases k5 : k = 5
            · rw [k5, if_pos rfl, vS_5]
            · rw [if_neg (by omega)]
              by_cases k0 : k = 0
              · rw [k0, if_pos rfl, vS_0]
              · rw [if_neg (by omega), vS_o k0 k3 k5 k7]
                exact m3.2.2.2.1 b hb k hk
      · rw [vD, if_neg (by omega), if_neg (by omega), if_neg (by omega), if_neg (by omega)]
      · rw [ID _ (by omega), hP, gI_PW, if_pos rfl]
        unfold va_cpy
        rw [if_pos (by omega), show 0 + (7 * b + k - 7 * b) = k by omega]
        exact x3 k hk
      · rw [ID _ (by omega), hP, gI_PW, if_pos rfl]
        unfold va_cpy
        rw [if_neg (by omega)]
    · rw [ID M (by omega), IP M (by omega)]; exact t3
theorem o_swear {a0 n1 n2 n3 n4 q : Nat} {g : g_H} {s : Sg} (I : ClI a0 g s n1 n2 n3 n4 q) (y x : Int32) : OpR a0 g s n1 n2 n3 n4 q (f6_swear g a0 y x) (fun h => f7_swear h (a0 + 153) y x) c3 := by
  have e3 := I.1.1.2.1
  have h6 := I.1.1.2.2.1
  by_cases hy : inR (nI n3) y
  · obtain ⟨b, hb, rfl⟩ := inR_nat (by omega) hy
    cases e : rdX s n1 x with
    | none =>
      obtain ⟨g', x1, x2⟩ := (p_checkRoute I x).1 e
      refine ⟨2, 0, g', s, n1, n2, n3, n4, q, ?_, by omega, x2.fc, I.dr x2, by omega, fun h m hZ => ?_⟩
      · unfold f6_swear
        rw [if_pos I.sh.1, p_checkBee I, gB2_some, if_pos hy, if_pos rfl, if_pos I.sh.1, x1, gB2_some, if_neg (by decide)]
      · have m' := m.thr (v := 0)
        obtain ⟨h', y1, y2⟩ := (m_read m' I.1.1.1 x).1 e
        have m3 := m'.fg y2
        refine ⟨0, gPI h' (a0 + 153) 0 2, ?_, ((Fmm.put ⟨by omega, by omega⟩).tr y2.mm).tr (Fmm.put ⟨by omega, by omega⟩), m3.thr, ?_, fun k => absurd k (by omega)⟩
        · show f7_swear h (a0 + 153) (nI b) x = _
          unfold f7_swear
          rw [if_pos m.1.1, m_isBee m' e3 h6, gB2_some, if_pos hy, if_neg n10, if_pos m'.1.1, y1, gB2_some, if_pos rfl, if_pos m3.1.1, m_fail m3.1.1, gB2_some]
        · rw [gI_PI, if_pos rfl, if_pos rfl]; rfl
    | some r =>
      obtain ⟨n, w⟩ := r
      obtain ⟨p1, p2⟩ := p_swear I e hb rfl
      by_cases c : 0 < s 3 b 1 ∨ ∀ i, i < n → w i ≠ s 4 b (cl (s 3 b 0))
      · obtain ⟨g1, x1, x2⟩ := p1 c
        refine ⟨3, 0, g1, s, n1, n2, n3, n4, q, x1, by omega, x2.fc, I.dr x2, by omega, fun h m hZ => ?_⟩
        obtain ⟨g2, y1, y2, y3, y4⟩ := (m_swear I.1.1 m e hb).1 c
        exact ⟨0, g2, y1, y2, y3, y4, fun k => absurd k (by omega)⟩
      · have cl : ¬ 0 < s 3 b 1 := fun k => c (Or.inl k)
        have cw : ∃ p, p < n ∧ w p = s 4 b (Int32.toNatClampNeg (s 3 b 0)) := Classical.byContradiction fun k => c (Or.inr fun i hi q => k ⟨i, hi, q⟩)
        obtain ⟨p, hp, hw⟩ := cw
        obtain ⟨g1, x1, x2, x3⟩ := p2 p hp hw cl
        refine ⟨0, _, g1, _, n1, n2, n3, n4, q, x1, by omega, x2, x3, by omega, fun h m hZ => ?_⟩
        obtain ⟨g2, y1, y2, y3, y4⟩ := (m_swear I.1.1 m e hb).2 p hp hw cl
        exact ⟨_, g2, y1, y2, y3, y4, fun _ => rfl⟩
  · refine OpR.thr I 1 (by omega) (by omega) ?_ fun h m => ?_
    · unfold f6_swear
      rw [if_pos I.sh.1, p_checkBee I, gB2_some, if_neg hy, if_neg (by decide)]
    · have m' := m.thr (v := 0)
      unfold f7_swear
      rw [if_pos m.1.1, m_isBee m' e3 h6, gB2_some, if_neg hy, if_pos rfl, if_pos m'.1.1, m_fail m'.1.1, gB2_some]
      rfl
end
section
/-! PURE: the first heap: routes, bees, flights -/
def Ext (n : Nat) (g h : g_H) : Prop := ∀ a, a < n → gS h a = gS g a ∧ gI h a = gI g a ∧ gR h a = gR g a
theorem Ext.rf {n : Nat} {g : g_H} : Ext n g g := fun _ _ => ⟨rfl, rfl, rfl⟩
theorem Ext.tr {n : Nat} {g h k : g_H} (x : Ext n g h) (y : Ext n h k) : Ext n g k := fun a ha => ⟨(y a ha).1.trans (x a ha).1, (y a ha).2.1.trans (x a ha).2.1, (y a ha).2.2.trans (x a ha).2.2⟩
theorem Ext.le {n m : Nat} {g h : g_H} (x : Ext n g h) (hm : m ≤ n) : Ext m g h := fun a ha => x a (by omega)
theorem Ext.gN {n kd k : Nat} {g : g_H} {r : Nat → Int32} (h : n ≤ gZ g) : Ext n g (gN g kd k r) := fun a ha => by
  obtain ⟨o1, o2, o3⟩ := gN_o (g := g) (kd := kd) (n := k) (r := r) (a := a) (by omega)
  exact ⟨o1, o2, o3⟩
theorem Ext.pr {n a k : Nat} {g : g_H} {v : Option Nat} (h : n ≤ a) : Ext n g (gPR g a k v) := fun b hb => ⟨rfl, rfl, gU_o (by omega)⟩
theorem Ext.pi {n a k : Nat} {g : g_H} {v : Int32} (h : n ≤ a) : Ext n g (gPI g a k v) := fun b hb => ⟨rfl, gU_o (by omega), rfl⟩
theorem RtL.ext {r n : Nat} {g h : g_H} (t : RtL r g) (e : Ext n g h) (hn : r + 3 < n) : RtL r h := by
  obtain ⟨t1, t2, t3, t4, t5, t6, t7⟩ := t
  exact ⟨by rw [(e r (by omega)).1]; exact t1, by rw [(e r (by omega)).2.2]; exact t2, by rw [(e r (by omega)).2.2]; exact t3, by rw [(e r (by omega)).2.2]; exact t4, by rw [(e (r + 1) (by omega)).1]; exact t5, by rw [(e (r + 2) (by omega)).1]; exact t6, by rw [(e (r + 3) (by omega)).1]; exact t7⟩
theorem gR_PRs {g : g_H} {a k : Nat} {v : Option Nat} : gR (gPR g a k v) a k = v := by rw [gR_PR, if_pos rfl, if_pos rfl]
theorem gR_PRo {g : g_H} {a k j : Nat} {v : Option Nat} (h : j ≠ k) : gR (gPR g a k v) a j = gR g a j := by rw [gR_PR, if_pos rfl, if_neg h]
theorem i_route {g : g_H} {r : Nat} (h : (gS g r).1 = 5) (hz : gZ g = r + 1) : ∃ h, f4_init g r = some h ∧ gZ h = r + 4 ∧ RtL r h ∧ Ext r g h ∧ gI h r = gI g r := by
  obtain ⟨A, hA⟩ : ∃ A, A = gN g 11 7 (fun _ => 0) := ⟨_, rfl⟩
  obtain ⟨A', hA'⟩ : ∃ A', A' = gPR A r 1 (some (r + 1)) := ⟨_, rfl⟩
  obtain ⟨B, hB⟩ : ∃ B, B = gN A' 11 7 (fun _ => 0) := ⟨_, rfl⟩
  obtain ⟨B', hB'⟩ : ∃ B', B' = gPR B r 2 (some (r + 2)) := ⟨_, rfl⟩
  obtain ⟨C, hC⟩ : ∃ C, C = gN B' 11 14 (fun _ => 0) := ⟨_, rfl⟩
  obtain ⟨C', hC'⟩ : ∃ C', C' = gPR C r 3 (some (r + 3)) := ⟨_, rfl⟩
  have zA' : gZ A' = r + 2 := by rw [hA', hA]; show gZ g + 1 = _; omega
  have zB' : gZ B' = r + 3 := by rw [hB', hB]; show gZ A' + 1 = _; omega
  have zC' : gZ C' = r + 4 := by rw [hC', hC]; show gZ B' + 1 = _; omega
  have eA : Ext (r + 1) g A := by rw [hA]; exact Ext.gN (by omega)
  have eB : Ext (r + 2) A' B := by rw [hB]; exact Ext.gN (by omega)
  have eC : Ext (r + 3) B' C := by rw [hC]; exact Ext.gN (by omega)
  have SA : gS A' = gS A := by rw [hA']; rfl
  have SB : gS B' = gS B := by rw [hB']; rfl
  have SC : gS C' = gS C := by rw [hC']; rfl
  have sA : gS A (r + 1) = (11, 7) := by rw [hA]; exact gS_gN hz
  have sB : gS B (r + 2) = (11, 7) := by rw [hB]; exact gS_gN zA'
  have sC : gS C (r + 3) = (11, 14) := by rw [hC]; exact gS_gN zB'
  have kA : (gS A r).1 = 5 := by rw [(eA r (by omega)).1]; exact h
  have kB : (gS B r).1 = 5 := by rw [(eB r (by omega)).1, SA]; exact kA
  have kC : (gS C r).1 = 5 := by rw [(eC r (by omega)).1, SB]; exact kB
  have xA : Ext r A A' := by rw [hA']; exact Ext.pr (Nat.le_refl _)
  have xB : Ext r B B' := by rw [hB']; exact Ext.pr (Nat.le_refl _)
  have xC : Ext r C C' := by rw [hC']; exact Ext.pr (Nat.le_refl _)
  refine ⟨C', ?_, zC', ⟨by rw [SC]; exact kC, ?_, ?_, ?_, ?_, ?_, ?_⟩, ?_, ?_⟩
  · unfold f4_init gNw
    rw [hz, ← hA]
    dsimp only
    rw [if_pos kA, ← hA', zA', ← hB, if_pos kB, ← hB', zB', ← hC, if_pos kC, ← hC']
  · rw [hC', gR_PRo (by omega), (eC r (by omega)).2.2, hB', gR_PRo (by omega), (eB r (by omega)).2.2, hA', gR_PRs]
  · rw [hC', gR_PRo (by omega), (eC r (by omega)).2.2, hB', gR_PRs]
  · rw [hC', gR_PRs]
  · rw [SC, (eC _ (by omega)).1, SB, (eB _ (by omega)).1, SA, sA]
  · rw [SC, (eC _ (by omega)).1, SB, sB]
  · rw [SC, sC]
  · exact (((((eA.le (by omega)).tr xA).tr (eB.le (by omega))).tr xB).tr (eC.le (by omega))).tr xC
  · rw [hC', show gI (gPR C r 3 (some (r + 3))) r = gI C r from rfl, (eC r (by omega)).2.1, hB', show gI (gPR B r 2 (some (r + 2))) r = gI B r from rfl, (eB r (by omega)).2.1, hA', show gI (gPR A r 1 (some (r + 1))) r = gI A r from rfl, (eA r (by omega)).2.1]
theorem i_bee {g : g_H} {B : Nat} {x : Int32} (h : (gS g B).1 = 1) (hz : gZ g = B + 1) : ∃ h, f0_init g B x = some h ∧ gZ h = B + 5 ∧ (gS h B).1 = 1 ∧ gR h B 1 = some (B + 1) ∧ gI h B 0 = x ∧ RtL (B + 1) h ∧ Ext B g h := by
  obtain ⟨A, hA⟩ : ∃ A, A = gPI g B 0 x := ⟨_, rfl⟩
  obtain ⟨C, hC⟩ : ∃ C, C = gN A 5 0 (fun _ => 0) := ⟨_, rfl⟩
  have zA : gZ A = B + 1 := by rw [hA]; exact hz
  have zC : gZ C = B + 1 + 1 := by rw [hC]; show gZ A + 1 = _; omega
  have eC : Ext (B + 1) A C := by rw [hC]; exact Ext.gN (by omega)
  have sC : gS C (B + 1) = (5, 0) := by rw [hC]; exact gS_gN zA
  obtain ⟨D, x1, x2, x3, x4, x5⟩ := i_route (g := C) (r := B + 1) (by rw [sC]) zC
  obtain ⟨D', hD'⟩ : ∃ D', D' = gPR D B 1 (some (B + 1)) := ⟨_, rfl⟩
  have kD : (gS D B).1 = 1 := by
    rw [(x4 B (by omega)).1, (eC B (by omega)).1, hA]; exact h
  refine ⟨D', ?_, by rw [hD']; exact x2, by rw [hD']; exact kD, by rw [hD', gR_PRs], ?_, ?_, ?_⟩
  · unfold f0_init gNw
    rw [if_pos h, ← hA]
    dsimp only
    rw [zA, ← hC, x1, ob_some, if_pos kD, hD']
  · rw [hD', show gI (gPR D B 1 (some (B + 1))) B = gI D B from rfl, (x4 B (by omega)).2.1, (eC B (by omega)).2.1, hA, gI_PI, if_pos rfl, if_pos rfl]
  · obtain ⟨t1, t2, t3, t4, t5, t6, t7⟩ := x3
    have o : gR D' (B + 1) = gR D (B + 1) := by rw [hD']; exact gU_o (by omega)
    have s : gS D' = gS D := by rw [hD']; rfl
    exact ⟨by rw [s]; exact t1, by rw [o]; exact t2, by rw [o]; exact t3, by rw [o]; exact t4, by rw [s]; exact t5, by rw [s]; exact t6, by rw [s]; exact t7⟩
  · rw [hD']
    refine Ext.tr ?_ (Ext.pr (Nat.le_refl _))
    refine Ext.tr ?_ (x4.le (by omega))
    refine Ext.tr ?_ (eC.le (by omega))
    rw [hA]
    exact Ext.pi (Nat.le_refl _)
/-- the bees of a flight, the first b of them -/
def Bz (F b : Nat) (g : g_H) : Prop := (gS g F).1 = 2 ∧ gR g F 1 = some (F + 1) ∧ gS g (F + 1) = (15, 6) ∧ ∀ j, j < b → gR g (F + 1) j = some (F + 2 + 5 * j) ∧ (gS g (F + 2 + 5 * j)).1 = 1 ∧ gI g (F + 2 + 5 * j) 0 = nI j ∧ gR g (F + 2 + 5 * j) 1 = some (F + 3 + 5 * j) ∧ RtL (F + 3 + 5 * j) g
theorem Bz.ext {F b n : Nat} {g h : g_H} (t : Bz F b g) (e : Ext n g h) (hn : F + 2 + 5 * b ≤ n) : Bz F b h := by
  obtain ⟨t1, t2, t3, t4⟩ := t
  refine ⟨by rw [(e F (by omega)).1]; exact t1, by rw [(e F (by omega)).2.2]; exact t2, by rw [(e (F + 1) (by omega)).1]; exact t3, fun j hj => ?_⟩
  obtain ⟨u1, u2, u3, u4, u5⟩ := t4 j hj
  exact ⟨by rw [(e (F + 1) (by omega)).2.2]; exact u1, by rw [(e (F + 2 + 5 * j) (by omega)).1]; exact u2, by rw [(e (F + 2 + 5 * j) (by omega)).2.1]; exact u3, by rw [(e (F + 2 + 5 * j) (by omega)).2.2]; exact u4, u5.ext e (by omega)⟩
/-- what a flight's constructor leaves -/
def Flz (F : Nat) (g h : g_H) : Prop := gZ h = F + 53 ∧ Bz F 6 h ∧ gR h F 2 = some (F + 32) ∧ gS h (F + 32) = (17, 20) ∧ (∀ i, i < 20 → gR h (F + 32) i = some (F + 33 + i) ∧ (gS h (F + 33 + i)).1 = 4) ∧ Ext F g h ∧ gR h F 0 = gR g F 0 ∧ gI h F 7 = -1 ∧ ∀ k, k ≠ 7 → gI h F k = gI g F k
theorem i_lets {F : Nat} : ∀ k i fuel : Nat, ∀ g : g_H, i + k = 20 → k < fuel → gZ g = F + 33 + i → Bz F 6 g → gR g F 2 = some (F + 32) → gS g (F + 32) = (17, 20) → (∀ j, j < i → gR g (F + 32) j = some (F + 33 + j) ∧ (gS g (F + 33 + j)).1 = 4) →
    ∃ h, f1_init_57 fuel g F (nI i) = some h ∧ Flz F g h := by
  intro k
  induction k with
  | zero =>
    intro i fuel g hi hf hz b h2 hS hl
    obtain ⟨fu, rfl⟩ : ∃ fu, fuel = fu + 1 := ⟨fuel - 1, by omega⟩
    have : i = 20 := by omega
    subst this
    have e : Ext F g (gPI g F 7 (-1)) := Ext.pi (Nat.le_refl _)
    refine ⟨gPI g F 7 (-1), ?_, hz, ?_, h2, hS, hl, e, rfl, by rw [gI_PI, if_pos rfl, if_pos rfl], fun k hk => by rw [gI_PI, if_pos rfl, if_neg hk]⟩
    · show f1_init_57b (f1_init_57 fu) g F (nI 20) = _
      unfold f1_init_57b
      rw [if_pos (by decide), if_pos b.1]
    · obtain ⟨t1, t2, t3, t4⟩ := b
      refine ⟨t1, t2, t3, fun j hj => ?_⟩
      obtain ⟨u1, u2, u3, u4, u5⟩ := t4 j hj
      exact ⟨u1, u2, by rw [gI_PI, if_neg (by omega)]; exact u3, u4, u5⟩
  | succ k ih =>
    intro i fuel g hi hf hz b h2 hS hl
    obtain ⟨fu, rfl⟩ : ∃ fu, fuel = fu + 1 := ⟨fuel - 1, by omega⟩
    have ci : Int32.toNatClampNeg (nI i) = i := cl_nI (by omega)
    obtain ⟨A, hA⟩ : ∃ A, A = gN g 4 0 (fun _ => 0) := ⟨_, rfl⟩
    obtain ⟨A', hA'⟩ : ∃ A', A' = gPR A (F + 32) i (some (F + 33 + i)) := ⟨_, rfl⟩
    have eA : Ext (F + 33 + i) g A := by rw [hA]; exact Ext.gN (by omega)
    have eA' : Ext (F + 32) A A' := by rw [hA']; exact Ext.pr (Nat.le_refl _)
    have e1 : Ext (F + 32) g A' := (eA.le (by omega)).tr eA'
    have SA : gS A' = gS A := by rw [hA']; rfl
    have sA : gS A (F + 33 + i) = (4, 0) := by rw [hA]; exact gS_gN hz
    have s32 : gS A (F + 32) = (17, 20) := by rw [(eA _ (by omega)).1]; exact hS
    obtain ⟨h, x1, x2, x3, x4, x5, x6, x7, x8, x9, x10⟩ := ih (i + 1) fu A' (by omega) (by omega) (by rw [hA', hA]; show gZ g + 1 = _; omega) (b.ext e1 (by omega)) (by rw [(e1 F (by omega)).2.2]; exact h2) (by rw [SA]; exact s32) (fun j hj => by
      by_cases e : j = i
      · subst e
        exact ⟨by rw [hA', gR_PRs], by rw [SA, sA]⟩
      · obtain ⟨u1, u2⟩ := hl j (by omega)
        exact ⟨by rw [hA', gR_PRo e, (eA (F + 32) (by omega)).2.2]; exact u1, by rw [SA, (eA (F + 33 + j) (by omega)).1]; exact u2⟩)
    refine ⟨h, ?_, x2, x3, x4, x5, x6, (e1.le (by omega)).tr x7, x8.trans (by rw [(e1 F (by omega)).2.2]), x9, fun k hk => (x10 k hk).trans (by rw [(e1 F (by omega)).2.1])⟩
    show f1_init_57b (f1_init_57 fu) g F (nI i) = _
    unfold f1_init_57b gNw f3_init
    rw [if_neg (show ¬ (20 : Int32) ≤ nI i from nI_ge (b := 20) (by omega) (by omega)), if_pos b.1, h2, ob_some, ← hA]
    dsimp only
    rw [hz, ob_some, s32, if_pos rfl, if_pos (ixOk (by omega) (by omega)), if_pos (by rw [sA]), ci, ← hA', nI_1]
    exact x1
theorem i_bees {F : Nat} : ∀ k b fuel : Nat, ∀ g : g_H, b + k = 6 → k < fuel → gZ g = F + 2 + 5 * b → Bz F b g → ∃ h, f1_init_20 fuel g F (nI b) = some h ∧ Flz F g h := by
  intro k
  induction k with
  | zero =>
    intro b fuel g hb hf hz t
    obtain ⟨fu, rfl⟩ : ∃ fu, fuel = fu + 1 := ⟨fuel - 1, by omega⟩
    have : b = 6 := by omega
    subst this
    obtain ⟨A, hA⟩ : ∃ A, A = gN g 17 20 (fun _ => 0) := ⟨_, rfl⟩
    obtain ⟨A', hA'⟩ : ∃ A', A' = gPR A F 2 (some (F + 32)) := ⟨_, rfl⟩
    have hz : gZ g = F + 32 := hz
    have eA : Ext (F + 32) g A := by rw [hA]; exact Ext.gN (by omega)
    have SA : gS A' = gS A := by rw [hA']; rfl
    have sA : gS A (F + 32) = (17, 20) := by rw [hA]; exact gS_gN hz
    have bA : Bz F 6 A := t.ext eA (by omega)
    have bA' : Bz F 6 A' := by
      obtain ⟨t1, t2, t3, t4⟩ := bA
      have o : ∀ a, a ≠ F → gR A' a = gR A a := fun a ha => by rw [hA']; exact gU_o ha
      have i : gI A' = gI A := by rw [hA']; rfl
      refine ⟨by rw [SA]; exact t1, by rw [hA', gR_PRo (by omega)]; exact t2, by rw [SA]; exact t3, fun j hj => ?_⟩
      obtain ⟨u1, u2, u3, u4, ⟨v1, v2, v3, v4, v5, v6, v7⟩⟩ := t4 j hj
      refine ⟨by rw [o _ (by omega)]; exact u1, by rw [SA]; exact u2, by rw [i]; exact u3, by rw [o _ (by omega)]; exact u4, ?_⟩
      unfold RtL
      rw [SA, o _ (by omega)]
      exact ⟨v1, v2, v3, v4, v5, v6, v7⟩
    obtain ⟨h, x1, x2, x3, x4, x5, x6, x7, x8, x9, x10⟩ := i_lets (F := F) 20 0 21 A' (by omega) (by omega) (by rw [hA', hA]; show gZ g + 1 = _; omega) bA' (by rw [hA', gR_PRs]) (by rw [SA]; exact sA) (fun j hj => absurd hj (by omega))
    have e' : Ext F A A' := by rw [hA']; exact Ext.pr (Nat.le_refl _)
    refine ⟨h, ?_, x2, x3, x4, x5, x6, ((eA.le (by omega)).tr e').tr x7, x8.trans (by rw [hA', gR_PRo (by omega), (eA F (by omega)).2.2]), x9, fun k hk => (x10 k hk).trans (by rw [hA', show gI (gPR A F 2 (some (F + 32))) F = gI A F from rfl, (eA F (by omega)).2.1])⟩
    show f1_init_20b (f1_init_20 fu) g F (nI 6) = _
    unfold f1_init_20b gNw
    rw [if_pos (by decide), ← hA]
    dsimp only
    rw [if_pos bA.1, hz, ← hA']
    exact x1
  | succ k ih =>
    intro b fuel g hb hf hz t
    obtain ⟨fu, rfl⟩ : ∃ fu, fuel = fu + 1 := ⟨fuel - 1, by omega⟩
    have cb : Int32.toNatClampNeg (nI b) = b := cl_nI (by omega)
    obtain ⟨A, hA⟩ : ∃ A, A = gN g 1 0 (fun _ => 0) := ⟨_, rfl⟩
    have eA : Ext (F + 2 + 5 * b) g A := by rw [hA]; exact Ext.gN (by omega)
    have sA : gS A (F + 2 + 5 * b) = (1, 0) := by rw [hA]; exact gS_gN hz
    obtain ⟨C, y1, y2, y3, y4, y5, y6, y7⟩ := i_bee (g := A) (B := F + 2 + 5 * b) (x := nI b) (by rw [sA]) (by rw [hA]; show gZ g + 1 = _; omega)
    rw [show F + 2 + 5 * b + 1 = F + 3 + 5 * b by omega] at y4 y6
    have e1 : Ext (F + 2 + 5 * b) g C := eA.tr y7
    obtain ⟨C', hC'⟩ : ∃ C', C' = gPR C (F + 1) b (some (F + 2 + 5 * b)) := ⟨_, rfl⟩
    have SC : gS C' = gS C := by rw [hC']; rfl
    have IC : gI C' = gI C := by rw [hC']; rfl
    have oC : ∀ a, a ≠ F + 1 → gR C' a = gR C a := fun a ha => by rw [hC']; exact gU_o ha
    have bC : Bz F b C := t.ext e1 (by omega)
    have bC' : Bz F (b + 1) C' := by
      obtain ⟨t1, t2, t3, t4⟩ := bC
      refine ⟨by rw [SC]; exact t1, by rw [oC F (by omega)]; exact t2, by rw [SC]; exact t3, fun j hj => ?_⟩
      by_cases e : j = b
      · subst e
        refine ⟨by rw [hC', gR_PRs], by rw [SC]; exact y3, by rw [IC]; exact y5, by rw [oC _ (by omega)]; exact y4, ?_⟩
        unfold RtL
        rw [SC, oC _ (by omega)]
        exact y6
      · obtain ⟨u1, u2, u3, u4, u5⟩ := t4 j (by omega)
        refine ⟨by rw [hC', gR_PRo e]; exact u1, by rw [SC]; exact u2, by rw [IC]; exact u3, by rw [oC _ (by omega)]; exact u4, ?_⟩
        unfold RtL
        rw [SC, oC _ (by omega)]
        exact u5
    obtain ⟨h, x1, x2, x3, x4, x5, x6, x7, x8, x9, x10⟩ := ih (b + 1) fu C' (by omega) (by omega) (by rw [hC']; show gZ C = _; omega) bC'
    have e' : Ext (F + 1) C C' := by rw [hC']; exact Ext.pr (Nat.le_refl _)
    refine ⟨h, ?_, x2, x3, x4, x5, x6, ((e1.le (by omega)).tr (e'.le (by omega))).tr x7, x8.trans (by rw [oC F (by omega), (e1 F (by omega)).2.2]), x9, fun k hk => (x10 k hk).trans (by rw [IC, (e1 F (by omega)).2.1])⟩
    show f1_init_20b (f1_init_20 fu) g F (nI b) = _
    unfold f1_init_20b gNw
    rw [if_neg (show ¬ (6 : Int32) ≤ nI b from nI_ge (b := 6) (by omega) (by omega)), if_pos t.1, t.2.1, ob_some, ← hA]
    dsimp only
    rw [hz, y1, ob_some, bC.2.2.1, if_pos rfl, if_pos (ixOk (by omega) (by omega)), if_pos y3, cb, ← hC', nI_1]
    exact x1
theorem i_flight {g : g_H} {F T : Nat} (h : (gS g F).1 = 2) (hz : gZ g = F + 1) : ∃ h, f1_init g F T = some h ∧ gZ h = F + 53 ∧ Bz F 6 h ∧ gR h F 2 = some (F + 32) ∧ gS h (F + 32) = (17, 20) ∧ (∀ i, i < 20 → gR h (F + 32) i = some (F + 33 + i) ∧ (gS h (F + 33 + i)).1 = 4) ∧ Ext F g h ∧ gR h F 0 = some T ∧ gI h F 7 = -1 ∧ ∀ k, k ≠ 7 → gI h F k = gI g F k := by
  obtain ⟨A, hA⟩ : ∃ A, A = gPR g F 0 (some T) := ⟨_, rfl⟩
  obtain ⟨B, hB⟩ : ∃ B, B = gN A 15 6 (fun _ => 0) := ⟨_, rfl⟩
  obtain ⟨B', hB'⟩ : ∃ B', B' = gPR B F 1 (some (F + 1)) := ⟨_, rfl⟩
  have zA : gZ A = F + 1 := by rw [hA]; exact hz
  have eB : Ext (F + 1) A B := by rw [hB]; exact Ext.gN (by omega)
  have sB : gS B (F + 1) = (15, 6) := by rw [hB]; exact gS_gN zA
  have kB : (gS B F).1 = 2 := by rw [(eB F (by omega)).1, hA]; exact h
  have SB : gS B' = gS B := by rw [hB']; rfl
  obtain ⟨h', x1, x2, x3, x4, x5, x6, x7, x8, x9, x10⟩ := i_bees (F := F) 6 0 7 B' (by omega) (by omega) (by rw [hB', hB]; show gZ A + 1 = _; omega) ⟨by rw [SB]; exact kB, by rw [hB', gR_PRs], by rw [SB]; exact sB, fun j hj => absurd hj (by omega)⟩
  have eA : Ext F g A := by rw [hA]; exact Ext.pr (Nat.le_refl _)
  have eB' : Ext F B B' := by rw [hB']; exact Ext.pr (Nat.le_refl _)
  refine ⟨h', ?_, x2, x3, x4, x5, x6, ((eA.tr (eB.le (by omega))).tr eB').tr x7, x8.trans (by rw [hB', gR_PRo (by omega), (eB F (by omega)).2.2, hA, gR_PRs]), x9, fun k hk => (x10 k hk).trans (by rw [hB', show gI (gPR B F 1 (some (F + 1))) F = gI B F from rfl, (eB F (by omega)).2.1, hA]; rfl)⟩
  unfold f1_init gNw
  rw [if_pos h, ← hA]
  dsimp only
  rw [zA, ← hB, if_pos kB, ← hB']
  exact x1
end
section
/-! PURE: the first heap: the town -/
theorem i_fillIn {T R x : Nat} {K62 : g_H → Nat → Int32 → Option g_H} (hx : x < 14) (hT : T ≠ R + 1 + x) :
    ∀ k y fuel : Nat, ∀ g : g_H, y + k = 14 → k < fuel → (gS g T).1 = 6 → gR g T 4 = some R → gS g R = (14, 14) → gR g R x = some (R + 1 + x) → gS g (R + 1 + x) = (11, 14) →
    ∃ h, f5_init_70 K62 fuel g T (nI x) (nI y) = K62 h T (nI (x + 1)) ∧ gS h = gS g ∧ gR h = gR g ∧ gZ h = gZ g ∧ (∀ a, a ≠ R + 1 + x → gI h a = gI g a) ∧ ∀ j, gI h (R + 1 + x) j = if y ≤ j ∧ j < 14 then (if x = j then 0 else 1000) else gI g (R + 1 + x) j := by
  intro k
  induction k with
  | zero =>
    intro y fuel g hy hf h1 h2 h3 h4 h5
    obtain ⟨fu, rfl⟩ : ∃ fu, fuel = fu + 1 := ⟨fuel - 1, by omega⟩
    have : y = 14 := by omega
    subst this
    refine ⟨g, ?_, rfl, rfl, rfl, fun _ _ => rfl, fun j => by rw [if_neg (by omega)]⟩
    show f5_init_70b K62 (f5_init_70 K62 fu) g T (nI x) (nI 14) = _
    unfold f5_init_70b
    rw [if_pos (by decide), nI_1]
  | succ k ih =>
    intro y fuel g hy hf h1 h2 h3 h4 h5
    obtain ⟨fu, rfl⟩ : ∃ fu, fuel = fu + 1 := ⟨fuel - 1, by omega⟩
    have cx : Int32.toNatClampNeg (nI x) = x := cl_nI (by omega)
    have cy : Int32.toNatClampNeg (nI y) = y := cl_nI (by omega)
    obtain ⟨v, hv⟩ : ∃ v : Int32, v = if x = y then 0 else 1000 := ⟨_, rfl⟩
    obtain ⟨h, x1, x2, x3, x4, x5, x6⟩ := ih (y + 1) fu (gPI g (R + 1 + x) y v) (by omega) (by omega) h1 h2 h3 h4 h5
    refine ⟨h, ?_, x2, x3, x4, fun a ha => (x5 a ha).trans (gU_o ha), fun j => ?_⟩
    · show f5_init_70b K62 (f5_init_70 K62 fu) g T (nI x) (nI y) = _
      unfold f5_init_70b f5_init_95
      rw [if_neg (show ¬ (14 : Int32) ≤ nI y from nI_ge (b := 14) (by omega) (by omega)), if_pos h1, h2, ob_some, h3, if_pos rfl, if_pos (ixOk (by omega) (by omega)), cx, h4, ob_some]
      by_cases e : x = y
      · rw [if_pos e] at hv
        rw [if_pos (show nI x = nI y by rw [e]), h5, if_pos rfl, if_pos (ixOk (by omega) (by omega)), cy, nI_1, ← hv]
        exact x1
      · rw [if_neg e] at hv
        rw [if_neg (show ¬ nI x = nI y from fun q => e (nI_inj (by omega) (by omega) q)), h5, if_pos rfl, if_pos (ixOk (by omega) (by omega)), cy, nI_1, ← hv]
        exact x1
    · rw [x6 j, gI_PI, if_pos rfl]
      by_cases e : j = y
      · subst e
        rw [if_neg (show ¬ (j + 1 ≤ j ∧ j < 14) by omega), if_pos rfl, if_pos (show j ≤ j ∧ j < 14 from ⟨Nat.le_refl _, by omega⟩), hv]
      · by_cases c : y + 1 ≤ j ∧ j < 14
        · rw [if_pos c, if_pos (show y ≤ j ∧ j < 14 from ⟨by omega, c.2⟩)]
        · rw [if_neg c, if_neg e, if_neg (show ¬ (y ≤ j ∧ j < 14) by omega)]
theorem i_fill {T R : Nat} (hT : T ≤ R) :
    ∀ k x fuel : Nat, ∀ g : g_H, x + k = 14 → k < fuel → (gS g T).1 = 6 → gR g T 4 = some R → gS g R = (14, 14) → (∀ x, x < 14 → gR g R x = some (R + 1 + x) ∧ gS g (R + 1 + x) = (11, 14)) →
    ∃ h, f5_init_62 fuel g T (nI x) = some h ∧ gS h = gS g ∧ gR h = gR g ∧ gZ h = gZ g ∧ (∀ a, ¬ (R + 1 + x ≤ a ∧ a < R + 15) → gI h a = gI g a) ∧ ∀ x', x ≤ x' → x' < 14 → ∀ j, j < 14 → gI h (R + 1 + x') j = if x' = j then 0 else 1000 := by
  intro k
  induction k with
  | zero =>
    intro x fuel g hx hf h1 h2 h3 h4
    obtain ⟨fu, rfl⟩ : ∃ fu, fuel = fu + 1 := ⟨fuel - 1, by omega⟩
    have : x = 14 := by omega
    subst this
    refine ⟨g, ?_, rfl, rfl, rfl, fun _ _ => rfl, fun x' h1 h2 => absurd h1 (by omega)⟩
    show f5_init_62b (f5_init_62 fu) g T (nI 14) = _
    unfold f5_init_62b
    rw [if_pos (by decide)]
  | succ k ih =>
    intro x fuel g hx hf h1 h2 h3 h4
    obtain ⟨fu, rfl⟩ : ∃ fu, fuel = fu + 1 := ⟨fuel - 1, by omega⟩
    obtain ⟨r1, r2⟩ := h4 x (by omega)
    obtain ⟨h, x1, x2, x3, x4, x5, x6⟩ := i_fillIn (K62 := f5_init_62 fu) (show x < 14 by omega) (show T ≠ R + 1 + x by omega) 14 0 300 g (by omega) (by omega) h1 h2 h3 r1 r2
    obtain ⟨h', y1, y2, y3, y4, y5, y6⟩ := ih (x + 1) fu h (by omega) (by omega) (by rw [x2]; exact h1) (by rw [x3]; exact h2) (by rw [x2]; exact h3) (fun x' hx' => by rw [x2, x3]; exact h4 x' hx')
    refine ⟨h', ?_, y2.trans x2, y3.trans x3, y4.trans x4, fun a ha => (y5 a (by omega)).trans (x5 a (by omega)), fun x' hx' hx2 j hj => ?_⟩
    · show f5_init_62b (f5_init_62 fu) g T (nI x) = _
      unfold f5_init_62b
      rw [if_neg (show ¬ (14 : Int32) ≤ nI x from nI_ge (b := 14) (by omega) (by omega))]
      exact x1.trans y1
    · by_cases e : x' = x
      · subst e
        rw [y5 _ (by omega), x6 j, if_pos ⟨by omega, hj⟩]
      · exact y6 x' (by omega) hx2 j hj
def Tz (a0 i : Nat) (g : g_H) : Prop := (gS g (a0 + 1)).1 = 6 ∧ gR g (a0 + 1) 2 = some (a0 + 2) ∧ gR g (a0 + 1) 3 = some (a0 + 3) ∧ gS g (a0 + 2) = (12, 14) ∧ gS g (a0 + 3) = (16, 24) ∧ (∀ j, j < i → gR g (a0 + 3) j = some (a0 + 4 + j) ∧ (gS g (a0 + 4 + j)).1 = 3) ∧ ∀ x, x < 14 → gI g (a0 + 2) x = 0
/-- what the town's constructor leaves -/
def Twz (a0 : Nat) (g h : g_H) : Prop := gZ h = a0 + 43 ∧ TL a0 h ∧ Ext (a0 + 1) g h ∧ gI h (a0 + 1) = gI g (a0 + 1) ∧ (∀ x, x < 14 → gI h (a0 + 2) x = 0) ∧ ∀ x y, x < 14 → y < 14 → gI h (a0 + 29 + x) y = if x = y then 0 else 1000
theorem i_lanes {a0 : Nat} : ∀ k i fuel : Nat, ∀ g : g_H, i + k = 24 → k < fuel → gZ g = a0 + 4 + i → Tz a0 i g → ∃ h, f5_init_23 fuel g (a0 + 1) (nI i) = some h ∧ Twz a0 g h := by
  intro k
  induction k with
  | zero =>
    intro i fuel g hi hf hz t
    obtain ⟨fu, rfl⟩ : ∃ fu, fuel = fu + 1 := ⟨fuel - 1, by omega⟩
    have : i = 24 := by omega
    subst this
    have hz : gZ g = a0 + 28 := hz
    obtain ⟨t1, t2, t3, t4, t5, t6, t7⟩ := t
    obtain ⟨A, hA⟩ : ∃ A, A = gM g 14 14 := ⟨_, rfl⟩
    obtain ⟨A', hA'⟩ : ∃ A', A' = gPR A (a0 + 1) 4 (some (a0 + 28)) := ⟨_, rfl⟩
    have eA : Ext (a0 + 28) g A := fun a ha => by
      rw [hA]
      exact ⟨if_pos (by omega), if_pos (by omega), if_neg (by omega)⟩
    have s28 : gS A (a0 + 28) = (14, 14) := by
      rw [hA]
      show (if a0 + 28 < gZ g then _ else if a0 + 28 = gZ g then _ else _) = _
      rw [if_neg (by omega), if_pos hz.symm]
    have r28 : ∀ x, x < 14 → gR A (a0 + 28) x = some (a0 + 29 + x) := fun x hx => by
      rw [hA]
      show (if a0 + 28 = gZ g then (fun j => if j < 14 then some (gZ g + 1 + j) else none) else gR g (a0 + 28)) x = _
      rw [if_pos hz.symm]
      show (if x < 14 then some (gZ g + 1 + x) else none) = _
      rw [if_pos hx, hz]
    have s29 : ∀ x, x < 14 → gS A (a0 + 29 + x) = (11, 14) := fun x hx => by
      rw [hA]
      show (if a0 + 29 + x < gZ g then _ else if a0 + 29 + x = gZ g then _ else if a0 + 29 + x < gZ g + 1 + 14 then _ else _) = _
      rw [if_neg (by omega), if_neg (by omega), if_pos (by omega)]
    have SA : gS A' = gS A := by rw [hA']; rfl
    have IA : gI A' = gI A := by rw [hA']; rfl
    have oA : ∀ a, a ≠ a0 + 1 → gR A' a = gR A a := fun a ha => by rw [hA']; exact gU_o ha
    have kA : (gS A (a0 + 1)).1 = 6 := by rw [(eA _ (by omega)).1]; exact t1
    obtain ⟨h, x1, x2, x3, x4, x5, x6⟩ := i_fill (T := a0 + 1) (R := a0 + 28) (by omega) 14 0 300 A' (by omega) (by omega) (by rw [SA]; exact kA) (by rw [hA', gR_PRs]) (by rw [SA]; exact s28) (fun x hx => ⟨by rw [oA _ (by omega)]; exact r28 x hx, by rw [SA]; exact s29 x hx⟩)
    have e1 : Ext (a0 + 1) A A' := by rw [hA']; exact Ext.pr (Nat.le_refl _)
    have e2 : Ext (a0 + 28) A' h := fun a ha => ⟨by rw [x2], x5 a (by omega), by rw [x3]⟩
    refine ⟨h, ?_, ?_, ⟨?_, ?_, ?_, ?_, ?_, ?_, ?_, fun i hi => ⟨?_, ?_⟩, fun x hx => ⟨?_, ?_⟩⟩, ((eA.le (by omega)).tr e1).tr (e2.le (by omega)), ?_, fun x hx => ?_, fun x y hx hy => ?_⟩
    · show f5_init_23b (f5_init_23 fu) g (a0 + 1) (nI 24) = _
      unfold f5_init_23b
      rw [if_pos (by decide), ← hA, if_pos kA, hz, ← hA']
      exact x1
    · rw [x4, hA', hA]; show gZ g + 1 + 14 = _; omega
    · rw [x2, SA]; exact kA
    · rw [x3, hA', gR_PRo (by omega), (eA _ (by omega)).2.2]; exact t2
    · rw [x3, hA', gR_PRo (by omega), (eA _ (by omega)).2.2]; exact t3
    · rw [x3, hA', gR_PRs]
    · rw [x2, SA, (eA _ (by omega)).1]; exact t4
    · rw [x2, SA, (eA _ (by omega)).1]; exact t5
    · rw [x2, SA]; exact s28
    · rw [x3, oA _ (by omega), (eA _ (by omega)).2.2]; exact (t6 i hi).1
    · rw [x2, SA, (eA _ (by omega)).1]; exact (t6 i hi).2
    · rw [x3, oA _ (by omega)]; exact r28 x hx
    · rw [x2, SA]; exact s29 x hx
    · rw [x5 _ (by omega), IA, (eA _ (by omega)).2.1]
    · rw [x5 _ (by omega), IA, (eA _ (by omega)).2.1]; exact t7 x hx
    · exact x6 x (by omega) hx y hy
  | succ k ih =>
    intro i fuel g hi hf hz t
    obtain ⟨fu, rfl⟩ : ∃ fu, fuel = fu + 1 := ⟨fuel - 1, by omega⟩
    have ci : Int32.toNatClampNeg (nI i) = i := cl_nI (by omega)
    obtain ⟨t1, t2, t3, t4, t5, t6, t7⟩ := t
    obtain ⟨A, hA⟩ : ∃ A, A = gN g 3 0 (fun _ => 0) := ⟨_, rfl⟩
    obtain ⟨A', hA'⟩ : ∃ A', A' = gPR A (a0 + 3) i (some (a0 + 4 + i)) := ⟨_, rfl⟩
    have eA : Ext (a0 + 4 + i) g A := by rw [hA]; exact Ext.gN (by omega)
    have eA' : Ext (a0 + 3) A A' := by rw [hA']; exact Ext.pr (Nat.le_refl _)
    have e1 : Ext (a0 + 3) g A' := (eA.le (by omega)).tr eA'
    have SA : gS A' = gS A := by rw [hA']; rfl
    have sA : gS A (a0 + 4 + i) = (3, 0) := by rw [hA]; exact gS_gN hz
    have s3 : gS A (a0 + 3) = (16, 24) := by rw [(eA _ (by omega)).1]; exact t5
    obtain ⟨h, x1, x2, x3, x4, x5, x6⟩ := ih (i + 1) fu A' (by omega) (by omega) (by rw [hA', hA]; show gZ g + 1 = _; omega) ⟨by rw [(e1 _ (by omega)).1]; exact t1, by rw [(e1 _ (by omega)).2.2]; exact t2, by rw [(e1 _ (by omega)).2.2]; exact t3, by rw [(e1 _ (by omega)).1]; exact t4, by rw [SA]; exact s3, fun j hj => by
      by_cases e : j = i
      · subst e
        exact ⟨by rw [hA', gR_PRs], by rw [SA, sA]⟩
      · obtain ⟨u1, u2⟩ := t6 j (by omega)
        exact ⟨by rw [hA', gR_PRo e, (eA (a0 + 3) (by omega)).2.2]; exact u1, by rw [SA, (eA (a0 + 4 + j) (by omega)).1]; exact u2⟩, fun x hx => by rw [(e1 _ (by omega)).2.1]; exact t7 x hx⟩
    refine ⟨h, ?_, x2, x3, (e1.le (by omega)).tr x4, x5.trans (by rw [(e1 _ (by omega)).2.1]), x6⟩
    show f5_init_23b (f5_init_23 fu) g (a0 + 1) (nI i) = _
    unfold f5_init_23b gNw f2_init
    rw [if_neg (show ¬ (24 : Int32) ≤ nI i from nI_ge (b := 24) (by omega) (by omega)), if_pos t1, t3, ob_some, ← hA]
    dsimp only
    rw [hz, ob_some, s3, if_pos rfl, if_pos (ixOk (by omega) (by omega)), if_pos (by rw [sA]), ci, ← hA', nI_1]
    exact x1
theorem i_town {g : g_H} {a0 : Nat} (h : (gS g (a0 + 1)).1 = 6) (hz : gZ g = a0 + 2) : ∃ h, f5_init g (a0 + 1) = some h ∧ Twz a0 g h := by
  obtain ⟨A, hA⟩ : ∃ A, A = gN g 12 14 (fun _ => 0) := ⟨_, rfl⟩
  obtain ⟨A', hA'⟩ : ∃ A', A' = gPR A (a0 + 1) 2 (some (a0 + 2)) := ⟨_, rfl⟩
  obtain ⟨B, hB⟩ : ∃ B, B = gN A' 16 24 (fun _ => 0) := ⟨_, rfl⟩
  obtain ⟨B', hB'⟩ : ∃ B', B' = gPR B (a0 + 1) 3 (some (a0 + 3)) := ⟨_, rfl⟩
  have zA' : gZ A' = a0 + 3 := by rw [hA', hA]; show gZ g + 1 = _; omega
  have zB' : gZ B' = a0 + 4 := by rw [hB', hB]; show gZ A' + 1 = _; omega
  have eA : Ext (a0 + 2) g A := by rw [hA]; exact Ext.gN (by omega)
  have eB : Ext (a0 + 3) A' B := by rw [hB]; exact Ext.gN (by omega)
  have SA : gS A' = gS A := by rw [hA']; rfl
  have SB : gS B' = gS B := by rw [hB']; rfl
  have IA : gI A' = gI A := by rw [hA']; rfl
  have IB : gI B' = gI B := by rw [hB']; rfl
  have sA : gS A (a0 + 2) = (12, 14) := by rw [hA]; exact gS_gN hz
  have iA : gI A (a0 + 2) = fun _ => 0 := by rw [hA]; exact gI_gN hz
  have sB : gS B (a0 + 3) = (16, 24) := by rw [hB]; exact gS_gN zA'
  have kA : (gS A (a0 + 1)).1 = 6 := by rw [(eA _ (by omega)).1]; exact h
  have kB : (gS B (a0 + 1)).1 = 6 := by rw [(eB _ (by omega)).1, SA]; exact kA
  obtain ⟨h', x1, x2, x3, x4, x5, x6⟩ := i_lanes (a0 := a0) 24 0 25 B' (by omega) (by omega) zB' ⟨by rw [SB]; exact kB, by rw [hB', gR_PRo (by omega), (eB _ (by omega)).2.2, hA', gR_PRs], by rw [hB', gR_PRs], by rw [SB, (eB _ (by omega)).1, SA]; exact sA, by rw [SB]; exact sB, fun j hj => absurd hj (by omega), fun x hx => by rw [IB, (eB _ (by omega)).2.1, IA, iA]⟩
  have e1 : Ext (a0 + 1) A A' := by rw [hA']; exact Ext.pr (Nat.le_refl _)
  have e2 : Ext (a0 + 1) B B' := by rw [hB']; exact Ext.pr (Nat.le_refl _)
  refine ⟨h', ?_, x2, x3, ((((eA.le (by omega)).tr e1).tr (eB.le (by omega))).tr e2).tr x4, x5.trans (by rw [IB, (eB _ (by omega)).2.1, IA, (eA _ (by omega)).2.1]), x6⟩
  unfold f5_init gNw
  rw [hz, ← hA]
  dsimp only
  rw [if_pos kA, ← hA', zA', ← hB, if_pos kB, ← hB']
  exact x1
end
section
/-! PURE: the first heap: the object and the model -/
def Ew (lo n : Nat) (g h : g_H) : Prop := ∀ a, lo ≤ a → a < n → gS h a = gS g a ∧ gI h a = gI g a ∧ gR h a = gR g a
theorem Ext.ew {lo n : Nat} {g h : g_H} (x : Ext n g h) : Ew lo n g h := fun a _ ha => x a ha
theorem Ew.tr {lo n : Nat} {g h k : g_H} (x : Ew lo n g h) (y : Ew lo n h k) : Ew lo n g k := fun a h1 h2 => ⟨(y a h1 h2).1.trans (x a h1 h2).1, (y a h1 h2).2.1.trans (x a h1 h2).2.1, (y a h1 h2).2.2.trans (x a h1 h2).2.2⟩
theorem Ew.le {lo l2 n m : Nat} {g h : g_H} (x : Ew lo n g h) (hm : m ≤ n) (hl : lo ≤ l2) : Ew l2 m g h := fun a h1 h2 => x a (by omega) (by omega)
theorem Ew.pr {lo n a k : Nat} {g : g_H} {v : Option Nat} (h : a < lo ∨ n ≤ a) : Ew lo n g (gPR g a k v) := fun b h1 h2 => ⟨rfl, rfl, gU_o (by omega)⟩
theorem Ew.gN {lo n kd k : Nat} {g : g_H} {r : Nat → Int32} (h : n ≤ gZ g) : Ew lo n g (gN g kd k r) := (Ext.gN h).ew
theorem RtL.ew {r lo n : Nat} {g h : g_H} (t : RtL r g) (e : Ew lo n g h) (hn : lo ≤ r) (h3 : r + 3 < n) : RtL r h := by
  obtain ⟨t1, t2, t3, t4, t5, t6, t7⟩ := t
  exact ⟨by rw [(e r (by omega) (by omega)).1]; exact t1, by rw [(e r (by omega) (by omega)).2.2]; exact t2, by rw [(e r (by omega) (by omega)).2.2]; exact t3, by rw [(e r (by omega) (by omega)).2.2]; exact t4, by rw [(e (r + 1) (by omega) (by omega)).1]; exact t5, by rw [(e (r + 2) (by omega) (by omega)).1]; exact t6, by rw [(e (r + 3) (by omega) (by omega)).1]; exact t7⟩
theorem TL.ew {a0 n : Nat} {g h : g_H} (t : TL a0 g) (e : Ew (a0 + 1) n g h) (hh : a0 + 43 ≤ n) : TL a0 h := by
  obtain ⟨t1, t2, t3, t4, t5, t6, t7, t8, t9⟩ := t
  refine ⟨?_, ?_, ?_, ?_, ?_, ?_, ?_, fun i hi => ⟨?_, ?_⟩, fun x hx => ⟨?_, ?_⟩⟩
  · rw [(e _ (by omega) (by omega)).1]; exact t1
  · rw [(e _ (by omega) (by omega)).2.2]; exact t2
  · rw [(e _ (by omega) (by omega)).2.2]; exact t3
  · rw [(e _ (by omega) (by omega)).2.2]; exact t4
  · rw [(e _ (by omega) (by omega)).1]; exact t5
  · rw [(e _ (by omega) (by omega)).1]; exact t6
  · rw [(e _ (by omega) (by omega)).1]; exact t7
  · rw [(e _ (by omega) (by omega)).2.2]; exact (t8 i hi).1
  · rw [(e _ (by omega) (by omega)).1]; exact (t8 i hi).2
  · rw [(e _ (by omega) (by omega)).2.2]; exact (t9 x hx).1
  · rw [(e _ (by omega) (by omega)).1]; exact (t9 x hx).2
/-- a flight as its constructor leaves it -/
def Fz (a0 F : Nat) (g : g_H) : Prop := Bz F 6 g ∧ gR g F 2 = some (F + 32) ∧ gS g (F + 32) = (17, 20) ∧ (∀ i, i < 20 → gR g (F + 32) i = some (F + 33 + i) ∧ (gS g (F + 33 + i)).1 = 4) ∧ gR g F 0 = some (a0 + 1) ∧ gI g F 7 = -1 ∧ ∀ k, k ≠ 7 → gI g F k = 0
theorem Fz.ew {a0 F lo n : Nat} {g h : g_H} (t : Fz a0 F g) (e : Ew lo n g h) (h1 : lo ≤ F) (h2 : F + 53 ≤ n) : Fz a0 F h := by
  obtain ⟨⟨b1, b2, b3, b4⟩, t2, t3, t4, t5, t6, t7⟩ := t
  refine ⟨⟨by rw [(e F (by omega) (by omega)).1]; exact b1, by rw [(e F (by omega) (by omega)).2.2]; exact b2, by rw [(e (F + 1) (by omega) (by omega)).1]; exact b3, fun j hj => ?_⟩, by rw [(e F (by omega) (by omega)).2.2]; exact t2, by rw [(e (F + 32) (by omega) (by omega)).1]; exact t3, fun i hi => ⟨by rw [(e (F + 32) (by omega) (by omega)).2.2]; exact (t4 i hi).1, by rw [(e (F + 33 + i) (by omega) (by omega)).1]; exact (t4 i hi).2⟩, by rw [(e F (by omega) (by omega)).2.2]; exact t5, by rw [(e F (by omega) (by omega)).2.1]; exact t6, fun k hk => by rw [(e F (by omega) (by omega)).2.1]; exact t7 k hk⟩
  obtain ⟨u1, u2, u3, u4, u5⟩ := b4 j hj
  exact ⟨by rw [(e (F + 1) (by omega) (by omega)).2.2]; exact u1, by rw [(e (F + 2 + 5 * j) (by omega) (by omega)).1]; exact u2, by rw [(e (F + 2 + 5 * j) (by omega) (by omega)).2.1]; exact u3, by rw [(e (F + 2 + 5 * j) (by omega) (by omega)).2.2]; exact u4, u5.ew e (by omega) (by omega)⟩
theorem Fz.fl {a0 F : Nat} {g : g_H} (t : Fz a0 F g) : FL a0 F g := by
  obtain ⟨⟨b1, b2, b3, b4⟩, t2, t3, t4, t5, t6, t7⟩ := t
  exact ⟨b1, t5, b2, t2, b3, t3, fun b hb => ⟨(b4 b hb).1, (b4 b hb).2.1⟩, t4⟩
/-- the table of a new object -/
def sz : Sg := fun t x y => if t = 6 then (if x = y then 0 else 1000) else 0
theorem sz_o {t i k : Nat} (h : t ≠ 6) : sz t i k = 0 := if_neg h
theorem sz_car {b : Nat} : car sz b = 0 := by
  rw [car_def (n4 := 0) (sz_o (by omega)) (by omega)]
  rfl
theorem sz_arr : arr sz = 0 := by
  rw [arr_def (n4 := 0) (sz_o (by omega)) (by omega)]
  rfl
theorem sz_WF : WF sz 0 0 0 0 0 := by
  refine ⟨⟨sz_o (by omega), by omega, sz_o (by omega), by omega, fun i hi => absurd hi (by omega), fun h hh => Or.inl (sz_o (by omega)), fun x y hx => absurd hx (by omega)⟩, sz_o (by omega), by omega, sz_o (by omega), by omega, sz_o (by omega), by decide, fun b hb => absurd hb (by omega), fun i hi => absurd hi (by omega)⟩
theorem sz_Ws : Ws sz 0 0 := by
  refine ⟨fun x y => if x = y then 0 else 1000, fun _ _ => 0, fun x y hx hy => ?_, fun i hi => absurd hi (by omega), fun i hi => absurd hi (by omega), fun i hi => absurd hi (by omega), ⟨fun x hx => absurd hx (by omega), fun x z y l hx => absurd hx (by omega), fun x y hx => absurd hx (by omega), fun x y hx => absurd hx (by omega)⟩, fun x hx => if_pos rfl, fun x y hx hy hne _ => if_neg hne⟩
  show (if (6 : Nat) = 6 then (if x = y then (0 : Int32) else 1000) else 0) = nI (if x = y then 0 else 1000) ∧ (if x = y then 0 else 1000) ≤ 1000
  rw [if_pos rfl]
  by_cases e : x = y
  · rw [if_pos e, if_pos e]; exact ⟨rfl, by omega⟩
  · rw [if_neg e, if_neg e]; exact ⟨rfl, by omega⟩
theorem i_obj {g : g_H} {a0 : Nat} (h : (gS g a0).1 = 7) (hz : gZ g = a0 + 1) : ∃ h, f6_init g a0 = some h ∧ gZ h = a0 + 153 ∧ ClI a0 h sz 0 0 0 0 0 := by
  obtain ⟨A, hA⟩ : ∃ A, A = gN g 6 0 (fun _ => 0) := ⟨_, rfl⟩
  have zA : gZ A = a0 + 2 := by rw [hA]; show gZ g + 1 = _; omega
  have eA : Ext (a0 + 1) g A := by rw [hA]; exact Ext.gN (by omega)
  have sA : gS A (a0 + 1) = (6, 0) := by rw [hA]; exact gS_gN hz
  have iA : gI A (a0 + 1) = fun _ => 0 := by rw [hA]; exact gI_gN hz
  obtain ⟨B, b1, b2, b3, b4, b5, b6, b7⟩ := i_town (g := A) (a0 := a0) (by rw [sA]) zA
  obtain ⟨B', hB'⟩ : ∃ B', B' = gPR B a0 0 (some (a0 + 1)) := ⟨_, rfl⟩
  have kB : (gS B a0).1 = 7 := by rw [(b4 a0 (by omega)).1, (eA a0 (by omega)).1]; exact h
  have zB' : gZ B' = a0 + 43 := by rw [hB']; exact b2
  have wB : Ew (a0 + 1) (a0 + 43) B B' := by rw [hB']; exact Ew.pr (Or.inl (by omega))
  obtain ⟨C, hC⟩ : ∃ C, C = gN B' 2 0 (fun _ => 0) := ⟨_, rfl⟩
  have zC : gZ C = a0 + 43 + 1 := by rw [hC]; show gZ B' + 1 = _; omega
  have eC : Ext (a0 + 43) B' C := by rw [hC]; exact Ext.gN (by omega)
  have sC : gS C (a0 + 43) = (2, 0) := by rw [hC]; exact gS_gN zB'
  have iC : gI C (a0 + 43) = fun _ => 0 := by rw [hC]; exact gI_gN zB'
  obtain ⟨D, d1, d2, d3, d4, d5, d6, d7, d8, d9, d10⟩ := i_flight (g := C) (F := a0 + 43) (T := a0 + 1) (by rw [sC]) zC
  have fD : Fz a0 (a0 + 43) D := ⟨d3, d4, d5, d6, d8, d9, fun k hk => (d10 k hk).trans (by rw [iC])⟩
  obtain ⟨D', hD'⟩ : ∃ D', D' = gPR D a0 1 (some (a0 + 43)) := ⟨_, rfl⟩
  have kC : (gS C a0).1 = 7 := by rw [(eC a0 (by omega)).1, hB']; exact kB
  have kD : (gS D a0).1 = 7 := by rw [(d7 a0 (by omega)).1]; exact kC
  have zD' : gZ D' = a0 + 96 := by rw [hD']; exact d2
  obtain ⟨E, hE⟩ : ∃ E, E = gN D' 2 0 (fun _ => 0) := ⟨_, rfl⟩
  have zE : gZ E = a0 + 96 + 1 := by rw [hE]; show gZ D' + 1 = _; omega
  have eE : Ext (a0 + 96) D' E := by rw [hE]; exact Ext.gN (by omega)
  have sE : gS E (a0 + 96) = (2, 0) := by rw [hE]; exact gS_gN zD'
  have iE : gI E (a0 + 96) = fun _ => 0 := by rw [hE]; exact gI_gN zD'
  obtain ⟨G, g1, g2, g3, g4, g5, g6, g7, g8, g9, g10⟩ := i_flight (g := E) (F := a0 + 96) (T := a0 + 1) (by rw [sE]) zE
  have fG : Fz a0 (a0 + 96) G := ⟨g3, g4, g5, g6, g8, g9, fun k hk => (g10 k hk).trans (by rw [iE])⟩
  obtain ⟨G', hG'⟩ : ∃ G', G' = gPR G a0 2 (some (a0 + 96)) := ⟨_, rfl⟩
  have kE : (gS E a0).1 = 7 := by rw [(eE a0 (by omega)).1, hD']; exact kD
  have kG : (gS G a0).1 = 7 := by rw [(g7 a0 (by omega)).1]; exact kE
  have zG' : gZ G' = a0 + 149 := by rw [hG']; exact g2
  obtain ⟨K, hK⟩ : ∃ K, K = gN G' 5 0 (fun _ => 0) := ⟨_, rfl⟩
  have zK : gZ K = a0 + 149 + 1 := by rw [hK]; show gZ G' + 1 = _; omega
  have eK : Ext (a0 + 149) G' K := by rw [hK]; exact Ext.gN (by omega)
  have sK : gS K (a0 + 149) = (5, 0) := by rw [hK]; exact gS_gN zG'
  obtain ⟨L, l1, l2, l3, l4, l5⟩ := i_route (g := K) (r := a0 + 149) (by rw [sK]) zK
  obtain ⟨L', hL'⟩ : ∃ L', L' = gPR L a0 3 (some (a0 + 149)) := ⟨_, rfl⟩
  have kK : (gS K a0).1 = 7 := by rw [(eK a0 (by omega)).1, hG']; exact kG
  have kL : (gS L a0).1 = 7 := by rw [(l4 a0 (by omega)).1]; exact kK
  -- from each step to the end
  have wL : Ew (a0 + 1) (a0 + 149) L L' := by rw [hL']; exact Ew.pr (Or.inl (by omega))
  have wL' : Ew (a0 + 1) (a0 + 153) L L' := by rw [hL']; exact Ew.pr (Or.inl (by omega))
  have wG : Ew (a0 + 1) (a0 + 149) G L' := by
    have w1 : Ew (a0 + 1) (a0 + 149) G G' := by rw [hG']; exact Ew.pr (Or.inl (by omega))
    exact ((w1.tr eK.ew).tr l4.ew).tr wL
  have wD : Ew (a0 + 1) (a0 + 96) D L' := by
    have w1 : Ew (a0 + 1) (a0 + 96) D D' := by rw [hD']; exact Ew.pr (Or.inl (by omega))
    exact ((w1.tr eE.ew).tr g7.ew).tr (wG.le (by omega) (Nat.le_refl _))
  have wBL : Ew (a0 + 1) (a0 + 43) B L' := ((wB.tr eC.ew).tr d7.ew).tr (wD.le (by omega) (Nat.le_refl _))
  have fF : Fz a0 (a0 + 43) L' := fD.ew wD (by omega) (by omega)
  have fA : Fz a0 (a0 + 96) L' := fG.ew wG (by omega) (by omega)
  have tF : TL a0 L' := b3.ew wBL (by omega)
  have i1 : gI L' (a0 + 1) = fun _ => 0 := by rw [(wBL _ (by omega) (by omega)).2.1, b5, iA]
  have rK : gR L' a0 3 = some (a0 + 149) := by rw [hL', gR_PRs]
  have rL : ∀ k, k ≠ 3 → gR L' a0 k = gR K a0 k := fun k hk => by rw [hL', gR_PRo hk, (l4 a0 (by omega)).2.2]
  have rG : ∀ k, gR K a0 k = gR G' a0 k := fun k => by rw [(eK a0 (by omega)).2.2]
  have rE : ∀ k, gR G a0 k = gR D' a0 k := fun k => by rw [(g7 a0 (by omega)).2.2, (eE a0 (by omega)).2.2]
  have rC : ∀ k, gR D a0 k = gR B' a0 k := fun k => by rw [(d7 a0 (by omega)).2.2, (eC a0 (by omega)).2.2]
  refine ⟨L', ?_, by rw [hL']; exact l2, ⟨sz_WF, ⟨Or.inl rfl, tF, fF.fl, fun b hb => ?_, ⟨?_, ?_, fun x hx => ?_, fun i hi => absurd hi (by omega), fun x y hx hy => ?_⟩, fun b hb => absurd hb (by omega)⟩, ⟨⟨?_, ?_, ?_⟩, fun b hb => absurd hb (by omega), fun b hb => absurd hb (by omega), ?_, fun i hi => absurd hi (by omega)⟩⟩, ⟨?_, ?_, ?_, ?_, rK, fA.fl, l3.ew wL' (by omega) (by omega), fun b hb => ⟨?_, ?_, ?_⟩⟩, fF.2.2.2.2.2.1, sz_Ws⟩
  · unfold f6_init gNw
    rw [hz, ← hA]
    dsimp only
    rw [b1, ob_some, if_pos kB, ← hB', zB', ← hC, if_pos kC, show gR C a0 0 = some (a0 + 1) by rw [(eC a0 (by omega)).2.2, hB', gR_PRs], ob_some, d1, ob_some, if_pos kD, ← hD', zD', ← hE, if_pos kE, show gR E a0 0 = some (a0 + 1) by rw [(eE a0 (by omega)).2.2, hD', gR_PRo (by omega), rC, hB', gR_PRs], ob_some, g1, ob_some, if_pos kG, ← hG', zG', ← hK, l1, ob_some, if_pos kL, ← hL']
  · have := (fF.1.2.2.2 b hb).2.2.2.2
    rw [show a0 + 43 + 3 + 5 * b = a0 + 46 + 5 * b by omega] at this
    exact this
  · rw [i1, sz_o (by omega)]
  · rw [i1, sz_o (by omega)]
  · rw [(wBL _ (by omega) (by omega)).2.1, b6 x hx, sz_o (by omega)]
  · rw [(wBL _ (by omega) (by omega)).2.1, b7 x y hx hy]
    exact (if_pos rfl).symm
  · rw [fF.2.2.2.2.2.2 3 (by omega), sz_o (by omega)]
  · rw [fF.2.2.2.2.2.2 4 (by omega), sz_o (by omega)]
  · rw [fF.2.2.2.2.2.2 5 (by omega), sz_o (by omega)]
  · unfold R5; rw [fF.2.2.2.2.2.2 6 (by omega), sz_arr]
  · rw [hL']; exact kL
  · rw [rL 0 (by omega), rG, hG', gR_PRo (by omega), rE, hD', gR_PRo (by omega), rC, hB', gR_PRs]
  · rw [rL 1 (by omega), rG, hG', gR_PRo (by omega), rE, hD', gR_PRs]
  · rw [rL 2 (by omega), rG, hG', gR_PRs]
  · have := (fF.1.2.2.2 b hb).2.2.2.1
    rw [show a0 + 43 + 3 + 5 * b = a0 + 46 + 5 * b by omega] at this
    exact this
  · exact (fF.1.2.2.2 b hb).2.2.1
  · exact (fA.1.2.2.2 b hb).2.2.1
theorem i_model {g : g_H} {M : Nat} (h : (gS g M).1 = 8) (hz : gZ g = M + 1) (h0 : ∀ k, gI g M k = 0) : ∃ h, f7_init g M = some h ∧ gZ h = M + 9 ∧ Ext M g h ∧ MX M h sz 0 0 0 0 := by
  obtain ⟨A1, hA1⟩ : ∃ A, A = gN g 12 14 (fun _ => 0) := ⟨_, rfl⟩
  obtain ⟨B1, hB1⟩ : ∃ A, A = gPR A1 M 2 (some (M + 1)) := ⟨_, rfl⟩
  obtain ⟨A2, hA2⟩ : ∃ A, A = gN B1 11 120 (fun _ => 0) := ⟨_, rfl⟩
  obtain ⟨B2, hB2⟩ : ∃ A, A = gPR A2 M 4 (some (M + 2)) := ⟨_, rfl⟩
  obtain ⟨A3, hA3⟩ : ∃ A, A = gN B2 11 196 (fun _ => 0) := ⟨_, rfl⟩
  obtain ⟨B3, hB3⟩ : ∃ A, A = gPR A3 M 5 (some (M + 3)) := ⟨_, rfl⟩
  obtain ⟨A4, hA4⟩ : ∃ A, A = gN B3 11 48 (fun _ => 0) := ⟨_, rfl⟩
  obtain ⟨B4, hB4⟩ : ∃ A, A = gPR A4 M 7 (some (M + 4)) := ⟨_, rfl⟩
  obtain ⟨A5, hA5⟩ : ∃ A, A = gN B4 11 42 (fun _ => 0) := ⟨_, rfl⟩
  obtain ⟨B5, hB5⟩ : ∃ A, A = gPR A5 M 8 (some (M + 5)) := ⟨_, rfl⟩
  obtain ⟨A6, hA6⟩ : ∃ A, A = gN B5 11 100 (fun _ => 0) := ⟨_, rfl⟩
  obtain ⟨B6, hB6⟩ : ∃ A, A = gPR A6 M 10 (some (M + 6)) := ⟨_, rfl⟩
  obtain ⟨A7, hA7⟩ : ∃ A, A = gN B6 11 1 (fun _ => 0) := ⟨_, rfl⟩
  obtain ⟨P7, hP7⟩ : ∃ A, A = gPI A7 (M + 7) 0 0 := ⟨_, rfl⟩
  obtain ⟨B7, hB7⟩ : ∃ A, A = gPR P7 M 11 (some (M + 7)) := ⟨_, rfl⟩
  obtain ⟨A8, hA8⟩ : ∃ A, A = gN B7 11 7 (fun _ => 0) := ⟨_, rfl⟩
  obtain ⟨B8, hB8⟩ : ∃ A, A = gPR A8 M 12 (some (M + 8)) := ⟨_, rfl⟩
  have z1 : gZ B1 = M + 2 := by rw [hB1, hA1]; show gZ g + 1 = _; omega
  have z2 : gZ B2 = M + 3 := by rw [hB2, hA2]; show gZ B1 + 1 = _; omega
  have z3 : gZ B3 = M + 4 := by rw [hB3, hA3]; show gZ B2 + 1 = _; omega
  have z4 : gZ B4 = M + 5 := by rw [hB4, hA4]; show gZ B3 + 1 = _; omega
  have z5 : gZ B5 = M + 6 := by rw [hB5, hA5]; show gZ B4 + 1 = _; omega
  have z6 : gZ B6 = M + 7 := by rw [hB6, hA6]; show gZ B5 + 1 = _; omega
  have z7 : gZ B7 = M + 8 := by rw [hB7, hP7, hA7]; show gZ B6 + 1 = _; omega
  have z8 : gZ B8 = M + 9 := by rw [hB8, hA8]; show gZ B7 + 1 = _; omega
  -- each step keeps what lies below
  have st : ∀ (X Y Z : g_H) (kd n k : Nat) (v : Option Nat) (r : Nat → Int32), Y = gN X kd n r → Z = gPR Y M k v → (∀ a, a < gZ X → gS Z a = gS X a ∧ gI Z a = gI X a) ∧ (∀ a, a < gZ X → a ≠ M → gR Z a = gR X a) ∧ (M < gZ X → (gR Z M k = v ∧ ∀ j, j ≠ k → gR Z M j = gR X M j)) ∧ gS Z (gZ X) = (kd, n) ∧ gI Z (gZ X) = r := by
    intro X Y Z kd n k v r hY hZ
    subst hY; subst hZ
    refine ⟨fun a ha => ?_, fun a ha hne => ?_, fun hM => ⟨gR_PRs, fun j hj => ?_⟩, gS_gN (g := X) (r := r) rfl, gI_gN (g := X) (kd := kd) (n := n) rfl⟩
    · obtain ⟨o1, o2, o3⟩ := gN_o (g := X) (kd := kd) (n := n) (r := r) (a := a) (by omega)
      exact ⟨o1, o2⟩
    · obtain ⟨o1, o2, o3⟩ := gN_o (g := X) (kd := kd) (n := n) (r := r) (a := a) (by omega)
      exact (gU_o hne).trans o3
    · obtain ⟨o1, o2, o3⟩ := gN_o (g := X) (kd := kd) (n := n) (r := r) (a := M) (by omega)
      rw [gR_PRo hj, o3]
  obtain ⟨a1, r1, m1, k1, c1⟩ := st g A1 B1 12 14 2 _ _ hA1 hB1
  obtain ⟨a2, r2, m2, k2, c2⟩ := st B1 A2 B2 11 120 4 _ _ hA2 hB2
  obtain ⟨a3, r3, m3, k3, c3⟩ := st B2 A3 B3 11 196 5 _ _ hA3 hB3
  obtain ⟨a4, r4, m4, k4, c4⟩ := st B3 A4 B4 11 48 7 _ _ hA4 hB4
  obtain ⟨a5, r5, m5, k5, c5⟩ := st B4 A5 B5 11 42 8 _ _ hA5 hB5
  obtain ⟨a6, r6, m6, k6, c6⟩ := st B5 A6 B6 11 100 10 _ _ hA6 hB6
  have hP7e : P7 = A7 := by
    rw [hP7]
    refine Prod.ext rfl (Prod.ext ?_ rfl)
    show gU (gI A7) (M + 7) 0 0 = gI A7
    funext b j
    show (if b = M + 7 then (if j = 0 then 0 else gI A7 b j) else gI A7 b j) = gI A7 b j
    by_cases e : b = M + 7
    · rw [if_pos e]
      by_cases e2 : j = 0
      · rw [if_pos e2, e, e2, hA7, show gI (gN B6 11 1 (fun _ => 0)) (M + 7) = fun _ => 0 from gI_gN z6]
      · rw [if_neg e2]
    · rw [if_neg e]
  obtain ⟨a7, r7, m7, k7, c7⟩ := st B6 A7 B7 11 1 11 _ _ hA7 (by rw [hB7, hP7e])
  obtain ⟨a8, r8, m8, k8, c8⟩ := st B7 A8 B8 11 7 12 _ _ hA8 hB8
  rw [hz] at a1 r1 m1 k1 c1
  rw [z1] at a2 r2 m2 k2 c2
  rw [z2] at a3 r3 m3 k3 c3
  rw [z3] at a4 r4 m4 k4 c4
  rw [z4] at a5 r5 m5 k5 c5
  rw [z5] at a6 r6 m6 k6 c6
  rw [z6] at a7 r7 m7 k7 c7
  rw [z7] at a8 r8 m8 k8 c8
  obtain ⟨m1, n1⟩ := m1 (by omega)
  obtain ⟨m2, n2⟩ := m2 (by omega)
  obtain ⟨m3, n3⟩ := m3 (by omega)
  obtain ⟨m4, n4⟩ := m4 (by omega)
  obtain ⟨m5, n5⟩ := m5 (by omega)
  obtain ⟨m6, n6⟩ := m6 (by omega)
  obtain ⟨m7, n7⟩ := m7 (by omega)
  obtain ⟨m8, n8⟩ := m8 (by omega)
  have kM : ∀ X : g_H, gS X M = gS g M → (gS X M).1 = 8 := fun X e => by rw [e]; exact h
  have q1 : gS B1 M = gS g M := (a1 M (by omega)).1
  have q2 : gS B2 M = gS g M := (a2 M (by omega)).1.trans q1
  have q3 : gS B3 M = gS g M := (a3 M (by omega)).1.trans q2
  have q4 : gS B4 M = gS g M := (a4 M (by omega)).1.trans q3
  have q5 : gS B5 M = gS g M := (a5 M (by omega)).1.trans q4
  have q6 : gS B6 M = gS g M := (a6 M (by omega)).1.trans q5
  have q7 : gS B7 M = gS g M := (a7 M (by omega)).1.trans q6
  have q8 : gS B8 M = gS g M := (a8 M (by omega)).1.trans q7
  have zero : ∀ k, gI B8 M k = 0 := fun k => by
    rw [(a8 M (by omega)).2, (a7 M (by omega)).2, (a6 M (by omega)).2, (a5 M (by omega)).2, (a4 M (by omega)).2, (a3 M (by omega)).2, (a2 M (by omega)).2, (a1 M (by omega)).2]
    exact h0 k
  refine ⟨B8, ?_, z8, fun a ha => ⟨?_, ?_, ?_⟩, ⟨kM B8 q8, ⟨?_, ?_, ?_, ?_, ?_, ?_, ?_, m8⟩, ?_, ?_, ?_, ?_, ?_, ?_, ?_, k8⟩, ⟨?_, ?_, ?_, ?_⟩, ⟨fun x hx => ?_, fun i hi => absurd hi (by omega), fun x y hx => absurd hx (by omega), fun b hb => absurd hb (by omega)⟩, ⟨fun b hb => absurd hb (by omega), fun i hi => absurd hi (by omega), ?_⟩⟩
  · have eA : ∀ X Y : g_H, (∃ k v, Y = gPR X M k v) → gS X = gS Y := fun X Y ⟨k, v, e⟩ => by rw [e]; rfl
    have s1 : (gS A1 M).1 = 8 := by rw [eA A1 B1 ⟨_, _, hB1⟩]; exact kM _ q1
    have s2 : (gS A2 M).1 = 8 := by rw [eA A2 B2 ⟨_, _, hB2⟩]; exact kM _ q2
    have s3 : (gS A3 M).1 = 8 := by rw [eA A3 B3 ⟨_, _, hB3⟩]; exact kM _ q3
    have s4 : (gS A4 M).1 = 8 := by rw [eA A4 B4 ⟨_, _, hB4⟩]; exact kM _ q4
    have s5 : (gS A5 M).1 = 8 := by rw [eA A5 B5 ⟨_, _, hB5⟩]; exact kM _ q5
    have s6 : (gS A6 M).1 = 8 := by rw [eA A6 B6 ⟨_, _, hB6⟩]; exact kM _ q6
    have e7 : gS A7 = gS B7 := by rw [hB7, hP7e]; rfl
    have s7 : (gS A7 M).1 = 8 := by rw [e7]; exact kM _ q7
    have s8 : (gS A8 M).1 = 8 := by rw [eA A8 B8 ⟨_, _, hB8⟩]; exact kM _ q8
    have k7' : gS A7 (M + 7) = (11, 1) := by rw [e7]; exact k7
    unfold f7_init gNw
    rw [hz, ← hA1]
    dsimp only
    rw [if_pos s1, ← hB1, z1, ← hA2, if_pos s2, ← hB2, z2, ← hA3, if_pos s3, ← hB3, z3, ← hA4, if_pos s4, ← hB4, z4, ← hA5, if_pos s5, ← hB5, z5, ← hA6, if_pos s6, ← hB6, z6, ← hA7, k7', if_pos (by decide), if_pos s7, show Int32.toNatClampNeg (0 : Int32) = 0 from rfl, ← hP7, ← hB7, z7, ← hA8, if_pos s8, ← hB8]
  · rw [(a8 a (by omega)).1, (a7 a (by omega)).1, (a6 a (by omega)).1, (a5 a (by omega)).1, (a4 a (by omega)).1, (a3 a (by omega)).1, (a2 a (by omega)).1, (a1 a (by omega)).1]
  · rw [(a8 a (by omega)).2, (a7 a (by omega)).2, (a6 a (by omega)).2, (a5 a (by omega)).2, (a4 a (by omega)).2, (a3 a (by omega)).2, (a2 a (by omega)).2, (a1 a (by omega)).2]
  · rw [r8 a (by omega) (by omega), r7 a (by omega) (by omega), r6 a (by omega) (by omega), r5 a (by omega) (by omega), r4 a (by omega) (by omega), r3 a (by omega) (by omega), r2 a (by omega) (by omega), r1 a (by omega) (by omega)]
  · rw [n8 2 (by omega), n7 2 (by omega), n6 2 (by omega), n5 2 (by omega), n4 2 (by omega), n3 2 (by omega), n2 2 (by omega), m1]
  · rw [n8 4 (by omega), n7 4 (by omega), n6 4 (by omega), n5 4 (by omega), n4 4 (by omega), n3 4 (by omega), m2]
  · rw [n8 5 (by omega), n7 5 (by omega), n6 5 (by omega), n5 5 (by omega), n4 5 (by omega), m3]
  · rw [n8 7 (by omega), n7 7 (by omega), n6 7 (by omega), n5 7 (by omega), m4]
  · rw [n8 8 (by omega), n7 8 (by omega), n6 8 (by omega), m5]
  · rw [n8 10 (by omega), n7 10 (by omega), m6]
  · rw [n8 11 (by omega), m7]
  · rw [(a8 (M + 1) (by omega)).1, (a7 (M + 1) (by omega)).1, (a6 (M + 1) (by omega)).1, (a5 (M + 1) (by omega)).1, (a4 (M + 1) (by omega)).1, (a3 (M + 1) (by omega)).1, (a2 (M + 1) (by omega)).1, k1]
  · rw [(a8 (M + 2) (by omega)).1, (a7 (M + 2) (by omega)).1, (a6 (M + 2) (by omega)).1, (a5 (M + 2) (by omega)).1, (a4 (M + 2) (by omega)).1, (a3 (M + 2) (by omega)).1, k2]
  · rw [(a8 (M + 3) (by omega)).1, (a7 (M + 3) (by omega)).1, (a6 (M + 3) (by omega)).1, (a5 (M + 3) (by omega)).1, (a4 (M + 3) (by omega)).1, k3]
  · rw [(a8 (M + 4) (by omega)).1, (a7 (M + 4) (by omega)).1, (a6 (M + 4) (by omega)).1, (a5 (M + 4) (by omega)).1, k4]
  · rw [(a8 (M + 5) (by omega)).1, (a7 (M + 5) (by omega)).1, (a6 (M + 5) (by omega)).1, k5]
  · rw [(a8 (M + 6) (by omega)).1, (a7 (M + 6) (by omega)).1, k6]
  · rw [(a8 (M + 7) (by omega)).1, k7]
  · rw [zero, sz_o (by omega)]
  · rw [zero, sz_o (by omega)]
  · rw [zero, sz_o (by omega)]
  · rw [zero, sz_o (by omega)]
  · rw [(a8 (M + 1) (by omega)).2, (a7 (M + 1) (by omega)).2, (a6 (M + 1) (by omega)).2, (a5 (M + 1) (by omega)).2, (a4 (M + 1) (by omega)).2, (a3 (M + 1) (by omega)).2, (a2 (M + 1) (by omega)).2, c1, sz_o (by omega)]
  · rw [(a8 (M + 7) (by omega)).2, c7, sz_o (by omega)]
end
