/-! PURE: the class reads a route into its draft -/
theorem nI_nle0 {n : Nat} (h0 : 0 < n) (h : n < 2 ^ 31) : ¬ nI n ≤ 0 := fun k => by
  have := (nI_leI (a := n) (b := 0) h (by omega)).mp k
  omega
theorem p_app71 {a0 n : Nat} {g : g_H} {v : Int32} (h : RtL (a0 + 149) g) (hn : gI g (a0 + 149) 0 = nI n) (h7 : n < 7) :
    f4_append_71 g (a0 + 149) v = some (1, gPI (gPI (gPI g (a0 + 151) n (-1)) (a0 + 150) n v) (a0 + 149) 0 (nI (n + 1))) := by
  obtain ⟨h1, h2, h3, h4, h5, h6, h8⟩ := h
  have cn : Int32.toNatClampNeg (nI n) = n := cl_nI (by omega)
  have e1 : gI (gPI g (a0 + 151) n (-1)) (a0 + 149) 0 = nI n := by rw [gI_PI, if_neg (by omega)]; exact hn
  have e2 : gI (gPI (gPI g (a0 + 151) n (-1)) (a0 + 150) n v) (a0 + 149) 0 = nI n := by rw [gI_PI, if_neg (by omega)]; exact e1
  have k2 : gR g (a0 + 149) 2 = some (a0 + 151) := h3
  have k1 : gR g (a0 + 149) 1 = some (a0 + 150) := h2
  have z1 : gS g (a0 + 150) = (11, 7) := h5
  have z2 : gS g (a0 + 151) = (11, 7) := h6
  unfold f4_append_71 gLt
  rw [if_pos h1, k2, ob_some, z2, if_pos rfl, hn, if_pos (ixOk (by omega) (by omega)), cn, gR_PI, k1, ob_some, z1, if_pos rfl, e1, if_pos (ixOk (by omega) (by omega)), cn]
  dsimp only
  rw [e2, nI_1]
theorem Dq.up {a0 n : Nat} {g : g_H} {s : Sg} {w : Nat → Int32} {v : Int32} (d : Dq a0 g s n w) (hl : n = 0 ∨ gI g (a0 + 151) (n - 1) = sl s (w (n - 1)) v) : Dq a0 (gPI (gPI (gPI g (a0 + 151) n (-1)) (a0 + 150) n v) (a0 + 149) 0 (nI (n + 1))) s (n + 1) (upw w n v) := by
  obtain ⟨d1, d2, d3⟩ := d
  refine ⟨?_, fun i hi => ?_, fun i hi => ?_⟩
  · rw [gI_PI, if_pos rfl, if_pos rfl]
  · unfold upw
    rw [gI_PI, if_neg (by omega), gI_PI, if_pos rfl]
    by_cases e : i = n
    · rw [if_pos e, if_pos e]
    · rw [if_neg e, if_neg e, gI_PI, if_neg (by omega)]; exact d2 i (by omega)
  · unfold upw
    rw [gI_PI, if_neg (by omega), gI_PI, if_neg (by omega), gI_PI, if_pos rfl, if_neg (show ¬ i = n by omega), if_neg (show ¬ i = n by omega)]
    by_cases e : i + 1 = n
    · rw [if_pos e]
      have := hl.resolve_left (by omega)
      rw [show n - 1 = i by omega] at this
      exact this
    · rw [if_neg e]; exact d3 i (by omega)
theorem Fdd.up {a0 n : Nat} {g : g_H} {v l : Int32} : Fdd a0 g (gPI (gPI (gPI g (a0 + 151) n l) (a0 + 150) n v) (a0 + 149) 0 (nI (n + 1))) :=
  ((Fdd.put ⟨by omega, by omega⟩).tr (Fdd.put ⟨by omega, by omega⟩)).tr (Fdd.put ⟨by omega, by omega⟩)
theorem p_append {a0 n1 n2 n3 n4 q n : Nat} {g : g_H} {s : Sg} {w : Nat → Int32} (I : ClI a0 g s n1 n2 n3 n4 q) (d : Dq a0 g s n w) (h7 : n < 7) (v : Int32) :
    (¬ okR s n1 n w v → f4_append g (a0 + 149) v (a0 + 1) = some (0, g)) ∧ (okR s n1 n w v → ∃ g', f4_append g (a0 + 149) v (a0 + 1) = some (1, g') ∧ Fdd a0 g g' ∧ Dq a0 g' s (n + 1) (upw w n v)) := by
  obtain ⟨s1, s2, s3, s4, s5, s6, s7, s8, s9, s10, s11, s12, s13, s14, s15⟩ := I.sh
  have rt : RtL (a0 + 149) g := I.2.1.2.2.2.2.2.2.1
  obtain ⟨d1, d2, d3⟩ := d
  obtain ⟨pl, p1, p2⟩ := p_placeOf rt d1 (by omega) d2 v
  obtain ⟨h1, h2, h3, h4, h5, h6, h8⟩ := rt
  have k2 : gR g (a0 + 149) 2 = some (a0 + 151) := h3
  have k1 : gR g (a0 + 149) 1 = some (a0 + 150) := h2
  have z1 : gS g (a0 + 150) = (11, 7) := h5
  have z2 : gS g (a0 + 151) = (11, 7) := h6
  by_cases c1 : inR (nI n1) v
  · rcases p2 with ⟨p2, p3⟩ | ⟨j, j1, j2, j3⟩
    · have l7 : nI n < (7 : Int32) := nI_lt (b := 7) h7 (by omega)
      by_cases c0 : n = 0
      · refine ⟨fun no => absurd ⟨c1, p3, Or.inl c0⟩ no, fun _ => ⟨_, ?_, Fdd.up (l := -1), Dq.up ⟨d1, d2, d3⟩ (Or.inl c0)⟩⟩
        unfold f4_append
        rw [if_pos s6, p_hasHouse s6, s8, if_pos c1, gB2_some, if_neg n10, if_pos h1, p1, gB2_some, if_pos p2, if_pos h1, d1, if_pos l7, if_pos (show nI n ≤ 0 from nI_le (b := 0) (by omega) (by omega)), p_app71 ⟨h1, h2, h3, h4, h5, h6, h8⟩ d1 h7]
      · have cn : Int32.toNatClampNeg (nI (n - 1)) = n - 1 := cl_nI (by omega)
        have en : nI n - 1 = nI (n - 1) := by rw [show n = n - 1 + 1 by omega, nI_pred]; congr 1
        have pre : f4_append g (a0 + 149) v (a0 + 1) = if sl s (w (n - 1)) v = -1 then some (0, g) else f4_append_71 (gPI g (a0 + 151) (n - 1) (sl s (w (n - 1)) v)) (a0 + 149) v := by
          unfold f4_append
          rw [if_pos s6, p_hasHouse s6, s8, if_pos c1, gB2_some, if_neg n10, if_pos h1, p1, gB2_some, if_pos p2, if_pos h1, d1, if_pos l7, if_neg (show ¬ nI n ≤ 0 from nI_nle0 (by omega) (by omega)), k1, ob_some, z1, if_pos rfl, en, if_pos (ixOk (by omega) (by omega)), if_pos s6, cn, d2 (n - 1) (by omega), p_sl I, gB2_some, if_pos h1, k2, ob_some, z2, if_pos rfl, d1, en, if_pos (ixOk (by omega) (by omega)), cn]
        by_cases c2 : sl s (w (n - 1)) v = -1
        · refine ⟨fun _ => by rw [pre, if_pos c2], fun o => ?_⟩
          exact absurd c2 (o.2.2.resolve_left c0)
        · refine ⟨fun no => absurd ⟨c1, p3, Or.inr c2⟩ no, fun _ => ?_⟩
          obtain ⟨G, hG⟩ : ∃ G, G = gPI g (a0 + 151) (n - 1) (sl s (w (n - 1)) v) := ⟨_, rfl⟩
          have fG : Fdd a0 g G := by rw [hG]; exact Fdd.put ⟨by omega, by omega⟩
          have dG : Dq a0 G s n w := by
            rw [hG]
            refine ⟨?_, fun i hi => ?_, fun i hi => ?_⟩
            · rw [gI_PI, if_neg (by omega)]; exact d1
            · rw [gI_PI, if_neg (by omega)]; exact d2 i hi
            · rw [gI_PI, if_pos rfl, if_neg (by omega)]; exact d3 i hi
          have hl : gI G (a0 + 151) (n - 1) = sl s (w (n - 1)) v := by rw [hG, gI_PI, if_pos rfl, if_pos rfl]
          refine ⟨_, ?_, fG.tr (Fdd.up (l := -1)), dG.up (Or.inr hl)⟩
          rw [pre, if_neg c2, ← hG]
          exact p_app71 (I.dr fG).2.1.2.2.2.2.2.2.1 dG.1 h7
    · refine ⟨fun _ => ?_, fun o => absurd j3 (o.2.1 j j1)⟩
      unfold f4_append
      rw [if_pos s6, p_hasHouse s6, s8, if_pos c1, gB2_some, if_neg n10, if_pos h1, p1, gB2_some, if_neg (by rw [j2]; exact nI_m1 (by omega))]
  · refine ⟨fun _ => ?_, fun o => absurd o.1 c1⟩
    unfold f4_append
    rw [if_pos s6, p_hasHouse s6, s8, if_neg c1, gB2_some, if_pos rfl]
/-- the target of a row of houses -/
def tgR (s : Sg) (w : Nat → Int32) (to : Int32) : Nat → Int32 × Int32
  | 0 => (-1, 1000)
  | k + 1 => if wy s (w k) to < (tgR s w to k).2 then (w k, wy s (w k) to) else tgR s w to k
theorem tgR_4 {s : Sg} {b : Nat} {to : Int32} {k : Nat} : tgF s b to k = tgR s (s 4 b) to k := by
  induction k with
  | zero => rfl
  | succ k ih =>
    show (if _ then _ else _) = (if _ then _ else _)
    rw [ih]
theorem tgR_ext {s : Sg} {v w : Nat → Int32} {to : Int32} {k : Nat} (h : ∀ i, i < k → v i = w i) : tgR s v to k = tgR s w to k := by
  induction k with
  | zero => rfl
  | succ k ih =>
    show (if _ then _ else _) = (if _ then _ else _)
    rw [ih fun i hi => h i (by omega), h k (by omega)]
/-- changes of the draft's targets -/
def Fft (a0 : Nat) (g h : g_H) : Prop := gS h = gS g ∧ gR h = gR g ∧ gJ h = gJ g ∧ gZ h = gZ g ∧ ∀ a, a ≠ a0 + 152 → gI h a = gI g a
theorem Fft.fd {a0 : Nat} {g h : g_H} (f : Fft a0 g h) : Fdd a0 g h := ⟨f.1, f.2.1, f.2.2.1, f.2.2.2.1, fun a ha => f.2.2.2.2 a (by omega)⟩
theorem Fft.tr {a0 : Nat} {g h k : g_H} (x : Fft a0 g h) (y : Fft a0 h k) : Fft a0 g k := ⟨y.1.trans x.1, y.2.1.trans x.2.1, y.2.2.1.trans x.2.2.1, y.2.2.2.1.trans x.2.2.2.1, fun a ha => (y.2.2.2.2 a ha).trans (x.2.2.2.2 a ha)⟩
theorem Fft.put {a0 k : Nat} {g : g_H} {v : Int32} : Fft a0 g (gPI g (a0 + 152) k v) := ⟨rfl, rfl, rfl, rfl, fun b hb => gU_o hb⟩
theorem Dq.ff {a0 n : Nat} {g h : g_H} {s : Sg} {w : Nat → Int32} (d : Dq a0 g s n w) (f : Fft a0 g h) : Dq a0 h s n w := by
  obtain ⟨d1, d2, d3⟩ := d
  have i := f.2.2.2.2
  exact ⟨by rw [i _ (by omega)]; exact d1, by rw [i _ (by omega)]; exact d2, by rw [i _ (by omega)]; exact d3⟩
theorem p_ftIn {a0 n1 n2 n3 n4 q n to : Nat} {s : Sg} {w : Nat → Int32} {K2 : g_H → Nat → Nat → Int32 → Option g_H} (h7 : n ≤ 7) (ht : to < 14) :
    ∀ k i fuel : Nat, ∀ g : g_H, ClI a0 g s n1 n2 n3 n4 q → Dq a0 g s n w → gI g (a0 + 152) to = (tgR s w (nI to) i).1 → i + k = n → k < fuel →
    ∃ g', f4_findTargets_22 K2 fuel g (a0 + 149) (a0 + 1) (nI to) (tgR s w (nI to) i).2 (nI i) = K2 g' (a0 + 149) (a0 + 1) (nI (to + 1)) ∧ Fft a0 g g' ∧ gI g' (a0 + 152) to = (tgR s w (nI to) n).1 ∧ ∀ j, j ≠ to → gI g' (a0 + 152) j = gI g (a0 + 152) j := by
  intro k
  induction k with
  | zero =>
    intro i fuel g I d ht2 h hf
    obtain ⟨fu, rfl⟩ : ∃ fu, fuel = fu + 1 := ⟨fuel - 1, by omega⟩
    have : i = n := by omega
    subst this
    refine ⟨g, ?_, ⟨rfl, rfl, rfl, rfl, fun _ _ => rfl⟩, ht2, fun _ _ => rfl⟩
    show f4_findTargets_22b K2 (f4_findTargets_22 K2 fu) g _ _ _ _ (nI i) = _
    unfold f4_findTargets_22b
    rw [if_pos I.2.1.2.2.2.2.2.2.1.1, d.1, if_pos (Int32.le_refl _), nI_1]
  | succ k ih =>
    intro i fuel g I d ht2 h hf
    obtain ⟨fu, rfl⟩ : ∃ fu, fuel = fu + 1 := ⟨fuel - 1, by omega⟩
    obtain ⟨h1, h2, h3, h4, h5, h6, h8⟩ := I.2.1.2.2.2.2.2.2.1
    have k3 : gR g (a0 + 149) 3 = some (a0 + 152) := h4
    have k1 : gR g (a0 + 149) 1 = some (a0 + 150) := h2
    have z1 : gS g (a0 + 150) = (11, 7) := h5
    have z2 : gS g (a0 + 152) = (11, 14) := h8
    have s6 : (gS g (a0 + 1)).1 = 6 := I.1.2.1.2.1.1
    have ci : Int32.toNatClampNeg (nI i) = i := cl_nI (by omega)
    have ct : Int32.toNatClampNeg (nI to) = to := cl_nI (by omega)
    have st : f4_findTargets_22 K2 (fu + 1) g (a0 + 149) (a0 + 1) (nI to) (tgR s w (nI to) i).2 (nI i) = if (tgR s w (nI to) i).2 ≤ wy s (w i) (nI to) then f4_findTargets_22 K2 fu g (a0 + 149) (a0 + 1) (nI to) (tgR s w (nI to) i).2 (nI (i + 1)) else f4_findTargets_22 K2 fu (gPI g (a0 + 152) to (w i)) (a0 + 149) (a0 + 1) (nI to) (wy s (w i) (nI to)) (nI (i + 1)) := by
      show f4_findTargets_22b K2 (f4_findTargets_22 K2 fu) g _ _ _ _ (nI i) = _
      unfold f4_findTargets_22b f4_findTargets_67 gLt
      rw [if_pos h1, d.1, if_neg (nI_ge (by omega) (by omega)), k1, ob_some, z1, if_pos rfl, if_pos (ixOk (by omega) (by omega)), if_pos s6, ci, d.2.1 i (by omega), I.1.wyE, gB2_some, if_pos h1, k3, ob_some, k1, ob_some, z1, if_pos rfl, if_pos (ixOj (by omega) (by omega)), d.2.1 i (by omega)]
      dsimp only
      rw [z2, if_pos rfl, if_pos (ixOk (by omega) (by omega)), ct, nI_1]
    by_cases c : wy s (w i) (nI to) < (tgR s w (nI to) i).2
    · have e : tgR s w (nI to) (i + 1) = (w i, wy s (w i) (nI to)) := if_pos c
      have f1 : Fft a0 g (gPI g (a0 + 152) to (w i)) := Fft.put
      obtain ⟨g', x1, x2, x3, x4⟩ := ih (i + 1) fu (gPI g (a0 + 152) to (w i)) (I.dr f1.fd) (d.ff f1) (by rw [e, gI_PI, if_pos rfl, if_pos rfl]) (by omega) (by omega)
      refine ⟨g', ?_, f1.tr x2, x3, fun j hj => (x4 j hj).trans (by rw [gI_PI, if_pos rfl, if_neg hj])⟩
      rw [e] at x1
      rw [st, if_neg (Int32.not_le.mpr c)]
      exact x1
    · have e : tgR s w (nI to) (i + 1) = tgR s w (nI to) i := if_neg c
      obtain ⟨g', x1, x2, x3, x4⟩ := ih (i + 1) fu g I d (by rw [e]; exact ht2) (by omega) (by omega)
      refine ⟨g', ?_, x2, x3, x4⟩
      rw [e] at x1
      rw [st, if_pos (Int32.not_lt.mp c)]
      exact x1
theorem p_ft {a0 n1 n2 n3 n4 q n : Nat} {s : Sg} {w : Nat → Int32} (h7 : n ≤ 7) :
    ∀ k to fuel : Nat, ∀ g : g_H, ClI a0 g s n1 n2 n3 n4 q → Dq a0 g s n w → (∀ j, j < to → gI g (a0 + 152) j = (tgR s w (nI j) n).1) → to + k = 14 → k < fuel →
    ∃ g', f4_findTargets_2 fuel g (a0 + 149) (a0 + 1) (nI to) = some g' ∧ Fft a0 g g' ∧ ∀ j, j < 14 → gI g' (a0 + 152) j = (tgR s w (nI j) n).1 := by
  intro k
  induction k with
  | zero =>
    intro to fuel g I d hd h hf
    obtain ⟨fu, rfl⟩ : ∃ fu, fuel = fu + 1 := ⟨fuel - 1, by omega⟩
    have : to = 14 := by omega
    subst this
    refine ⟨g, ?_, ⟨rfl, rfl, rfl, rfl, fun _ _ => rfl⟩, hd⟩
    show f4_findTargets_2b (f4_findTargets_2 fu) g (a0 + 149) (a0 + 1) (nI 14) = _
    unfold f4_findTargets_2b
    rw [if_pos (by decide)]
  | succ k ih =>
    intro to fuel g I d hd h hf
    obtain ⟨fu, rfl⟩ : ∃ fu, fuel = fu + 1 := ⟨fuel - 1, by omega⟩
    obtain ⟨h1, h2, h3, h4, h5, h6, h8⟩ := I.2.1.2.2.2.2.2.2.1
    have k3 : gR g (a0 + 149) 3 = some (a0 + 152) := h4
    have z2 : gS g (a0 + 152) = (11, 14) := h8
    have ct : Int32.toNatClampNeg (nI to) = to := cl_nI (by omega)
    have f1 : Fft a0 g (gPI g (a0 + 152) to (-1)) := Fft.put
    obtain ⟨g1, x1, x2, x3, x4⟩ := p_ftIn (K2 := f4_findTargets_2 fu) h7 (show to < 14 by omega) n 0 300 (gPI g (a0 + 152) to (-1)) (I.dr f1.fd) (d.ff f1) (by rw [gI_PI, if_pos rfl, if_pos rfl]; rfl) (by omega) (by omega)
    have f2 := f1.tr x2
    obtain ⟨g2, y1, y2, y3⟩ := ih (to + 1) fu g1 (I.dr f2.fd) (d.ff f2) (fun j hj => by
      by_cases e : j = to
      · rw [e]; exact x3
      · rw [x4 j e, gI_PI, if_pos rfl, if_neg e]; exact hd j (by omega)) (by omega) (by omega)
    refine ⟨g2, ?_, f2.tr y2, y3⟩
    show f4_findTargets_2b (f4_findTargets_2 fu) g _ _ (nI to) = _
    unfold f4_findTargets_2b
    rw [if_neg (show ¬ (14 : Int32) ≤ nI to from nI_ge (b := 14) (by omega) (by omega)), if_pos h1, k3, ob_some, z2, if_pos rfl, if_pos (ixOk (by omega) (by omega)), ct]
    exact x1.trans y1
/-- what the draft holds when a route has been read -/
def Dt (a0 : Nat) (g : g_H) (s : Sg) (n : Nat) (w : Nat → Int32) : Prop := Dq a0 g s n w ∧ ∀ j, j < 14 → gI g (a0 + 152) j = (tgR s w (nI j) n).1
theorem p_readLoop {a0 n1 n2 n3 n4 q X : Nat} {s : Sg} (hX : X < 2 ^ 28) :
    ∀ k n fuel : Nat, ∀ (w : Nat → Int32) (g : g_H), n + k ≤ 7 → k < fuel → ClI a0 g s n1 n2 n3 n4 q → Dq a0 g s n w →
    (rdS s n1 (nI X) k n w = none → ∃ g', f4_read_21 fuel g (a0 + 149) (nI X) (a0 + 1) (nI k - 1) = some (0, g') ∧ Fdd a0 g g') ∧
    ∀ n' w', rdS s n1 (nI X) k n w = some (n', w') → ∃ g', f4_read_21 fuel g (a0 + 149) (nI X) (a0 + 1) (nI k - 1) = some (1, g') ∧ Fdd a0 g g' ∧ Dt a0 g' s n' w' := by
  intro k
  induction k with
  | zero =>
    intro n fuel w g hn hf I d
    obtain ⟨fu, rfl⟩ : ∃ fu, fuel = fu + 1 := ⟨fuel - 1, by omega⟩
    refine ⟨fun e => absurd e (by simp [rdS]), fun n' w' e => ?_⟩
    have e' : (n, w) = (n', w') := Option.some.inj e
    obtain ⟨rfl, rfl⟩ := Prod.mk.inj e'
    obtain ⟨g', x1, x2, x3⟩ := p_ft (by omega) 14 0 300 g I d (fun j hj => absurd hj (by omega)) (by omega) (by omega)
    refine ⟨g', ?_, x2.fd, d.ff x2, x3⟩
    show f4_read_21b (f4_read_21 fu) g (a0 + 149) (nI X) (a0 + 1) (nI 0 - 1) = some (1, g')
    unfold f4_read_21b f4_findTargets
    rw [if_pos (by decide), if_pos I.2.1.2.2.2.2.2.2.1.1]
    show (f4_findTargets_2 300 g (a0 + 149) (a0 + 1) (nI 0)).bind _ = _
    rw [x1, ob_some]
  | succ k ih =>
    intro n fuel w g hn hf I d
    obtain ⟨fu, rfl⟩ : ∃ fu, fuel = fu + 1 := ⟨fuel - 1, by omega⟩
    have hr : rs (nI X) k = nI (X / 2 ^ (4 * k)) := shr28 hX (by omega)
    have hlt : X / 2 ^ (4 * k) < 2 ^ 28 := Nat.lt_of_le_of_lt (Nat.div_le_self _ _) hX
    have h4 : (4 : Int32) * nI k = nI (4 * k) := by rw [show (4 : Int32) = nI 4 from rfl, pk_mul]
    have c0 : (rs (nI X) k ≤ 0) ↔ rs (nI X) k = 0 := by
      rw [hr]
      constructor
      · intro h
        by_cases z : X / 2 ^ (4 * k) = 0
        · rw [z]; rfl
        · exact absurd h (nI_nle0 (Nat.pos_of_ne_zero z) (Nat.lt_trans hlt (by decide)))
      · intro h; rw [h]; exact Int32.le_refl _
    have hm : nI k + -1 = nI k - 1 := by
      rw [show (-1 : Int32) = -(1 : Int32) from rfl, ← Int32.sub_eq_add_neg]
    have st : f4_read_21 (fu + 1) g (a0 + 149) (nI X) (a0 + 1) (nI (k + 1) - 1) = if rs (nI X) k = 0 then f4_read_21 fu g (a0 + 149) (nI X) (a0 + 1) (nI k - 1) else gB2 (f4_append g (a0 + 149) (dg (nI X) k) (a0 + 1)) fun v13 g12 => if v13 = 0 then (some ((0 : Int32), g12)) else f4_read_21 fu g12 (a0 + 149) (nI X) (a0 + 1) (nI k - 1) := by
      show f4_read_21b (f4_read_21 fu) g _ _ _ _ = _
      unfold f4_read_21b f4_read_54
      rw [nI_pred, if_neg (nI_pos (by omega)), h4, hm, if_pos I.2.1.2.2.2.2.2.2.1.1]
      show (if rs (nI X) k ≤ 0 then _ else gB2 (f4_append g (a0 + 149) (dg (nI X) k) (a0 + 1)) _) = _
      by_cases c : rs (nI X) k = 0
      · rw [if_pos (c0.mpr c), if_pos c]
      · rw [if_neg fun q => c (c0.mp q), if_neg c]
    by_cases c : rs (nI X) k = 0
    · obtain ⟨y1, y2⟩ := ih n fu w g (by omega) (by omega) I d
      have er : rdS s n1 (nI X) (k + 1) n w = rdS s n1 (nI X) k n w := if_pos c
      rw [er, st, if_pos c]
      exact ⟨y1, y2⟩
    · obtain ⟨a1, a2⟩ := p_append I d (by omega) (dg (nI X) k)
      rw [st, if_neg c]
      by_cases o : okR s n1 n w (dg (nI X) k)
      · have er : rdS s n1 (nI X) (k + 1) n w = rdS s n1 (nI X) k (n + 1) (upw w n (dg (nI X) k)) := (if_neg c).trans (if_pos o)
        obtain ⟨g1, b1, b2, b3⟩ := a2 o
        obtain ⟨y1, y2⟩ := ih (n + 1) fu _ g1 (by omega) (by omega) (I.dr b2) b3
        rw [er, b1, gB2_some, if_neg n10]
        refine ⟨fun e => ?_, fun n' w' e => ?_⟩
        · obtain ⟨g', x1, x2⟩ := y1 e
          exact ⟨g', x1, b2.tr x2⟩
        · obtain ⟨g', x1, x2, x3⟩ := y2 n' w' e
          exact ⟨g', x1, b2.tr x2, x3⟩
      · have er : rdS s n1 (nI X) (k + 1) n w = none := (if_neg c).trans (if_neg o)
        rw [er, a1 o, gB2_some, if_pos rfl]
        exact ⟨fun _ => ⟨g, rfl, Fdd.rf⟩, fun n' w' e => absurd e (by simp)⟩
/-- a route as both read it -/
def rdX (s : Sg) (n1 : Nat) (x : Int32) : Option (Nat × (Nat → Int32)) := if x < 1 then none else if x < 268435456 then rdS s n1 x 7 0 (fun _ => 0) else none
theorem rdX_in {x : Int32} (h1 : ¬ x < 1) (h2 : x < 268435456) : ∃ X, x = nI X ∧ 1 ≤ X ∧ X < 2 ^ 28 := by
  have p : ¬ x < 0 := fun k => h1 (by
    rw [Int32.lt_iff_toInt_lt] at k ⊢
    have e0 : (0 : Int32).toInt = 0 := rfl
    have e1 : (1 : Int32).toInt = 1 := rfl
    omega)
  obtain ⟨X, hX, rfl⟩ := nI_of p
  refine ⟨X, rfl, ?_, ?_⟩
  · rcases Nat.eq_zero_or_pos X with z | z
    · subst z; exact absurd (by decide) h1
    · exact z
  · exact (nI_ltI (b := 268435456) hX (by omega)).mp h2
theorem rdX_ok {s : Sg} {n1 n : Nat} {x : Int32} {w : Nat → Int32} (h : rdX s n1 x = some (n, w)) : GW s n1 n w ∧ 1 ≤ n ∧ n ≤ 7 := by
  unfold rdX at h
  by_cases h1 : x < 1
  · rw [if_pos h1] at h; exact absurd h (by simp)
  · rw [if_neg h1] at h
    by_cases h2 : x < 268435456
    · rw [if_pos h2] at h
      obtain ⟨X, rfl, X1, X2⟩ := rdX_in h1 h2
      obtain ⟨y1, y2, y3, y4⟩ := rdS_ok 7 0 _ n w ⟨fun i hi => absurd hi (by omega), fun i hi => absurd hi (by omega), fun i j _ hj => absurd hj (by omega)⟩ h
      refine ⟨y1, y4 (by omega) ?_, by omega⟩
      rw [show rs (nI X) 0 = nI (X / 2 ^ (4 * 0)) from shr28 X2 (by omega), show X / 2 ^ (4 * 0) = X by simp]
      intro z
      have := (nI_eq (b := 0) (show X < 2 ^ 31 by omega) (by omega)).mp z
      omega
    · rw [if_neg h2] at h; exact absurd h (by simp)
theorem p_checkRoute {a0 n1 n2 n3 n4 q : Nat} {g : g_H} {s : Sg} (I : ClI a0 g s n1 n2 n3 n4 q) (x : Int32) :
    (rdX s n1 x = none → ∃ g', f6_checkRoute g a0 x = some ((2, 0), g') ∧ Fdd a0 g g') ∧ ∀ n w, rdX s n1 x = some (n, w) → ∃ g', f6_checkRoute g a0 x = some ((0, 0), g') ∧ Fdd a0 g g' ∧ Dt a0 g' s n w := by
  obtain ⟨s1, s2, s3, s4, s5, s6, s7, s8, s9, s10, s11, s12, s13, s14, s15⟩ := I.sh
  have h1 : (gS g (a0 + 149)).1 = 5 := I.2.1.2.2.2.2.2.2.1.1
  obtain ⟨G, hG⟩ : ∃ G, G = gPI g (a0 + 149) 0 0 := ⟨_, rfl⟩
  have fG : Fdd a0 g G := by rw [hG]; exact Fdd.put ⟨by omega, by omega⟩
  have dG : Dq a0 G s 0 (fun _ => 0) := ⟨by rw [hG, gI_PI, if_pos rfl, if_pos rfl]; rfl, fun i hi => absurd hi (by omega), fun i hi => absurd hi (by omega)⟩
  by_cases c1 : x < 1
  · refine ⟨fun _ => ⟨G, ?_, fG⟩, fun n w e => ?_⟩
    · unfold f6_checkRoute f4_read
      rw [if_pos s1, s5, ob_some, s2, ob_some, if_pos h1, if_pos h1, if_pos c1, gB2_some, if_pos rfl, hG]
    · unfold rdX at e
      rw [if_pos c1] at e; exact absurd e (by simp)
  · by_cases c2 : x < 268435456
    · have er : rdX s n1 x = rdS s n1 x 7 0 (fun _ => 0) := (if_neg c1).trans (if_pos c2)
      obtain ⟨X, rfl, X1, X2⟩ := rdX_in c1 c2
      obtain ⟨y1, y2⟩ := p_readLoop X2 7 0 300 (fun _ => 0) G (by omega) (by omega) (I.dr fG) dG
      have pre : f6_checkRoute g a0 (nI X) = gB2 (f4_read_21 300 G (a0 + 149) (nI X) (a0 + 1) (nI 7 - 1)) fun v9 g8 => if v9 = 0 then (some ((2, 0), g8)) else (some ((0, 0), g8)) := by
        unfold f6_checkRoute f4_read
        rw [if_pos s1, s5, ob_some, s2, ob_some, if_pos h1, if_pos h1, if_neg c1, if_pos c2, ← hG]
        rfl
      rw [er, pre]
      refine ⟨fun e => ?_, fun n w e => ?_⟩
      · obtain ⟨g', x1, x2⟩ := y1 e
        exact ⟨g', by rw [x1, gB2_some, if_pos rfl], fG.tr x2⟩
      · obtain ⟨g', x1, x2, x3⟩ := y2 n w e
        exact ⟨g', by rw [x1, gB2_some, if_neg n10], fG.tr x2, x3⟩
    · refine ⟨fun _ => ⟨G, ?_, fG⟩, fun n w e => ?_⟩
      · unfold f6_checkRoute f4_read
        rw [if_pos s1, s5, ob_some, s2, ob_some, if_pos h1, if_pos h1, if_neg c1, if_neg c2, gB2_some, if_pos rfl, hG]
      · unfold rdX at e
        rw [if_neg c1, if_neg c2] at e; exact absurd e (by simp)
