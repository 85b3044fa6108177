/-! PURE: what is counted -/
def sF (f : Nat → Int32) : Nat → Int32
  | 0 => 0
  | n + 1 => sF f n + f n
theorem sF_add {f g : Nat → Int32} {n : Nat} : sF (fun b => f b + g b) n = sF f n + sF g n := by
  induction n with
  | zero => rfl
  | succ n ih =>
    show sF (fun b => f b + g b) n + (f n + g n) = (sF f n + f n) + (sF g n + g n)
    rw [ih, Int32.add_assoc, Int32.add_assoc, ← Int32.add_assoc (sF g n), Int32.add_comm (sF g n), Int32.add_assoc (f n)]
theorem sF_ext {f g : Nat → Int32} {n : Nat} (h : ∀ b, b < n → f b = g b) : sF f n = sF g n := by
  induction n with
  | zero => rfl
  | succ n ih =>
    show sF f n + f n = sF g n + g n
    rw [ih fun b hb => h b (by omega), h n (by omega)]
theorem sF_0 {n : Nat} : sF (fun _ => 0) n = 0 := by
  induction n with
  | zero => rfl
  | succ n ih =>
    show sF (fun _ => 0) n + 0 = 0
    rw [ih]; rfl
theorem sF_one {v : Int32} {n : Nat} (h6 : n ≤ 6) (h : v = -1 ∨ ∃ j, j < n ∧ v = nI j) : sF (fun b => if v = nI b then 1 else 0) n = if v = -1 then 0 else 1 := by
  rcases h with h | ⟨j, hj, h⟩
  · rw [if_pos h]
    refine (sF_ext fun b hb => if_neg ?_).trans sF_0
    rw [h]
    exact fun q => nI_m1 (by omega) q.symm
  · rw [if_neg (by rw [h]; exact nI_m1 (by omega))]
    have : ∀ m, m ≤ n → sF (fun b => if v = nI b then 1 else 0) m = if j < m then 1 else 0 := by
      intro m hm
      induction m with
      | zero => rfl
      | succ m ih =>
        show sF _ m + (if v = nI m then 1 else 0) = _
        rw [ih (by omega), h]
        by_cases e : j = m
        · subst e
          rw [if_neg (by omega), if_pos rfl, if_pos (by omega)]
          rfl
        · rw [if_neg (c := nI j = nI m) fun q => e (nI_inj (by omega) (by omega) q)]
          by_cases l : j < m
          · rw [if_pos l, if_pos (by omega)]; rfl
          · rw [if_neg l, if_neg (by omega)]; rfl
    rw [this n (Nat.le_refl _), if_pos hj]
/-- letters carried, either way -/
theorem car_sum {s : Sg} {n1 n2 n3 n4 q : Nat} (w : WF s n1 n2 n3 n4 q) : sF (car s) n3 = sF (fun i => if s 5 i 2 = -1 then 0 else 1) n4 := by
  have h4 := w.2.2.2.1
  have h20 := w.2.2.2.2.1
  have h6 := w.2.2.1
  have : ∀ m, m ≤ n4 → sF (fun b => carF s b m) n3 = sF (fun i => if s 5 i 2 = -1 then 0 else 1) m := by
    intro m hm
    induction m with
    | zero => exact sF_0
    | succ m ih =>
      show sF (fun b => carF s b m + (if s 5 m 2 = nI b then 1 else 0)) n3 = sF _ m + _
      rw [sF_add, ih (by omega), sF_one h6 (w.2.2.2.2.2.2.2.2 m (by omega)).2.2.1]
  rw [← this n4 (Nat.le_refl _)]
  exact sF_ext fun b hb => car_def h4 h20 b
theorem arrF_s {s : Sg} {n : Nat} : arrF s n = sF (fun i => if s 5 i 3 = -1 then 0 else 1) n := by
  induction n with
  | zero => rfl
  | succ n ih =>
    show arrF s n + _ = sF _ n + _
    rw [ih]
/-- the gates open now -/
def opI (s : Sg) (i : Nat) : Int32 := if (hourS s < s 2 i 3 ∨ s 2 i 4 ≤ hourS s) then 0 else 1
def cnS (s : Sg) (n2 n3 n4 k : Nat) : Int32 := if k < 5 then s 0 0 k else if k = 5 then arr s else if k = 6 then sF (fun i => if s 5 i 2 = -1 then 0 else 1) n4 else if k = 7 then sF (fun b => s 3 b 4) n3 else sF (opI s) n2
theorem p_carLoop {a0 F n1 n2 n3 n4 q : Nat} {g : g_H} {s : Sg} (c : CI a0 F g s n1 n2 n3 n4 q) : ∀ k b fuel : Nat, b + k = n3 → k < fuel → f1_carriedLetters_4 fuel g F (sF (car s) b) (nI b) = some (sF (car s) n3, g) := by
  intro k
  have h6 := c.1.2.2.1
  have e3 : gI g F 3 = nI n3 := c.2.2.1.1.trans c.1.2.1
  induction k with
  | zero =>
    intro b fuel h hf
    obtain ⟨fu, rfl⟩ : ∃ fu, fuel = fu + 1 := ⟨fuel - 1, by omega⟩
    have : b = n3 := by omega
    subst this
    show f1_carriedLetters_4b _ g F _ (nI b) = _
    unfold f1_carriedLetters_4b
    rw [if_pos c.kF, e3, if_pos (Int32.le_refl _)]
  | succ k ih =>
    intro b fuel h hf
    obtain ⟨fu, rfl⟩ : ∃ fu, fuel = fu + 1 := ⟨fuel - 1, by omega⟩
    obtain ⟨b1, b2, b3, b4, b5, b6, b7, b8, b9, b10, b11, b12, b13, b14, -⟩ := clB c (show b < n3 by omega)
    have cb : Int32.toNatClampNeg (nI b) = b := cl_nI (by omega)
    show f1_carriedLetters_4b (f1_carriedLetters_4 fu) g F _ (nI b) = _
    unfold f1_carriedLetters_4b
    rw [if_pos c.kF, e3, if_neg (nI_ge (by omega) (by omega)), b6, ob_some, b8, if_pos rfl, if_pos (ixOk (by omega) (by omega)), cb, b10, ob_some, if_pos b11, b14, nI_1]
    exact ih (b + 1) fu (by omega) (by omega)
theorem p_restLoop {a0 F n1 n2 n3 n4 q : Nat} {g : g_H} {s : Sg} (c : CI a0 F g s n1 n2 n3 n4 q) : ∀ k b fuel : Nat, b + k = n3 → k < fuel → f1_restingBees_4 fuel g F (sF (fun b => s 3 b 4) b) (nI b) = some (sF (fun b => s 3 b 4) n3, g) := by
  intro k
  have h6 := c.1.2.2.1
  have e3 : gI g F 3 = nI n3 := c.2.2.1.1.trans c.1.2.1
  induction k with
  | zero =>
    intro b fuel h hf
    obtain ⟨fu, rfl⟩ : ∃ fu, fuel = fu + 1 := ⟨fuel - 1, by omega⟩
    have : b = n3 := by omega
    subst this
    show f1_restingBees_4b _ g F _ (nI b) = _
    unfold f1_restingBees_4b
    rw [if_pos c.kF, e3, if_pos (Int32.le_refl _)]
  | succ k ih =>
    intro b fuel h hf
    obtain ⟨fu, rfl⟩ : ∃ fu, fuel = fu + 1 := ⟨fuel - 1, by omega⟩
    obtain ⟨b1, b2, b3, b4, b5, b6, b7, b8, b9, b10, b11, b12, b13, b14, -⟩ := clB c (show b < n3 by omega)
    obtain ⟨x1, x2, x3, x4, x5, x6, x7, x8⟩ := clC c (show b < n3 by omega)
    have cb : Int32.toNatClampNeg (nI b) = b := cl_nI (by omega)
    obtain ⟨z, p, l, st, ho, e1, e2, e3', e4, e5, e6, e7, e8, e9, e10, e11, e12, -⟩ := c.wb (show b < n3 by omega)
    have := ih (b + 1) fu (by omega) (by omega)
    show f1_restingBees_4b (f1_restingBees_4 fu) g F _ (nI b) = _
    unfold f1_restingBees_4b f1_restingBees_27
    rw [if_pos c.kF, e3, if_neg (nI_ge (by omega) (by omega)), b6, ob_some, b8, if_pos rfl, if_pos (ixOk (by omega) (by omega)), cb, b10, ob_some, if_pos b11, x5, nI_1]
    rcases e12 with e | e
    · rw [if_pos e]
      have h2 : sF (fun b => s 3 b 4) (b + 1) = sF (fun b => s 3 b 4) b := by
        show _ + s 3 b 4 = _
        rw [e, Int32.add_zero]
      rw [h2] at this
      exact this
    · rw [if_neg (by rw [e]; exact n10)]
      have h2 : sF (fun b => s 3 b 4) (b + 1) = sF (fun b => s 3 b 4) b + 1 := by
        show _ + s 3 b 4 = _
        rw [e]
      rw [h2] at this
      exact this
theorem p_gateLoop {a0 n1 n2 n3 n4 q : Nat} {g : g_H} {s : Sg} (I : ClI a0 g s n1 n2 n3 n4 q) : ∀ k i fuel : Nat, i + k = n2 → k < fuel → f5_openGates_4 fuel g (a0 + 1) (s 0 0 0) (sF (opI s) i) (nI i) = some (sF (opI s) n2, g) := by
  intro k
  obtain ⟨s1, s2, s3, s4, s5, s6, s7, s8, s9, s10, s11, s12, s13, s14, s15⟩ := I.sh
  induction k with
  | zero =>
    intro i fuel h hf
    obtain ⟨fu, rfl⟩ : ∃ fu, fuel = fu + 1 := ⟨fuel - 1, by omega⟩
    have : i = n2 := by omega
    subst this
    show f5_openGates_4b _ g (a0 + 1) _ _ (nI i) = _
    unfold f5_openGates_4b
    rw [if_pos s6, s9, if_pos (Int32.le_refl _)]
  | succ k ih =>
    intro i fuel h hf
    obtain ⟨fu, rfl⟩ : ∃ fu, fuel = fu + 1 := ⟨fuel - 1, by omega⟩
    obtain ⟨l1, l2, l3, l4, l5, l6, l7, l8⟩ := p_lane I.1 (show i < n2 by omega)
    have ci : Int32.toNatClampNeg (nI i) = i := cl_nI (by omega)
    obtain ⟨g3, g4⟩ := (I.1.2.1.2.2.2.2.1.2.2.2.1 i (by omega)).2.2 (by rw [I.2.2.1]; exact nI_m1 (by omega))
    have := ih (i + 1) fu (by omega) (by omega)
    have hs : sF (opI s) (i + 1) = sF (opI s) i + opI s i := rfl
    rw [hs] at this
    show f5_openGates_4b (f5_openGates_4 fu) g (a0 + 1) _ _ (nI i) = _
    unfold f5_openGates_4b f5_openGates_28 f2_isOpen
    rw [if_pos s6, s9, if_neg (nI_ge (by omega) (by omega)), l1, ob_some, l2, if_pos rfl, if_pos (ixOk (by omega) (by omega)), ci, l3, ob_some, if_pos l4, if_pos l4, g3, g4, nI_1]
    by_cases c1 : s 0 0 0 - s 0 0 0 / (24 : Int32) * (24 : Int32) < s 2 i 3
    · rw [if_pos c1, gB2_some, if_pos rfl]
      have e : opI s i = 0 := if_pos (Or.inl c1)
      rw [e, Int32.add_zero] at this
      exact this
    · rw [if_neg c1]
      by_cases c2 : s 2 i 4 ≤ s 0 0 0 - s 0 0 0 / (24 : Int32) * (24 : Int32)
      · rw [if_pos c2, gB2_some, if_pos rfl]
        have e : opI s i = 0 := if_pos (Or.inr c2)
        rw [e, Int32.add_zero] at this
        exact this
      · rw [if_neg c2, gB2_some, if_neg n10]
        have e : opI s i = 1 := if_neg fun k => k.elim c1 c2
        rw [e] at this
        exact this
theorem p_tellCount {a0 n1 n2 n3 n4 q k : Nat} {g : g_H} {s : Sg} (I : ClI a0 g s n1 n2 n3 n4 q) (hk : k < 9) : f6_tellCount g a0 (nI k) = some (cnS s n2 n3 n4 k, g) := by
  obtain ⟨s1, s2, s3, s4, s5, s6, s7, s8, s9, s10, s11, s12, s13, s14, s15⟩ := I.sh
  have e0 := I.1.2.2.1.2.2
  have w := I.1.1
  unfold f6_tellCount cnS
  match k, hk with
  | 0, _ => rw [if_pos (by decide), if_pos s1, s3, ob_some, if_pos s7, e0, if_pos (by decide)]
  | 1, _ => rw [if_neg (by decide), if_pos (by decide), if_pos s1, s2, ob_some, if_pos s6, s8, if_pos (by decide), w.1.1]
  | 2, _ => rw [if_neg (by decide), if_neg (by decide), if_pos (by decide), if_pos s1, s2, ob_some, if_pos s6, s9, if_pos (by decide), w.1.2.2.1]
  | 3, _ => rw [if_neg (by decide), if_neg (by decide), if_neg (by decide), if_pos (by decide), if_pos s1, s3, ob_some, if_pos s7, s10, if_pos (by decide), w.2.1]
  | 4, _ => rw [if_neg (by decide), if_neg (by decide), if_neg (by decide), if_neg (by decide), if_pos (by decide), if_pos s1, s3, ob_some, if_pos s7, s11, if_pos (by decide), w.2.2.2.1]
  | 5, _ => rw [if_neg (by decide), if_neg (by decide), if_neg (by decide), if_neg (by decide), if_neg (by decide), if_pos (by decide), if_pos s1, s3, ob_some, if_pos s7, I.1.2.2.2.2.2.1, if_neg (by decide), if_pos rfl]
  | 6, _ =>
    rw [if_neg (by decide), if_neg (by decide), if_neg (by decide), if_neg (by decide), if_neg (by decide), if_neg (by decide), if_pos (by decide), if_pos s1, s3, ob_some, if_pos s7]
    unfold f1_carriedLetters
    rw [show (0 : Int32) = nI 0 from rfl, show f1_carriedLetters_4 300 g (a0 + 43) (nI 0) (nI 0) = some (sF (car s) n3, g) from p_carLoop I.1 n3 0 300 (by omega) (by omega), gB2_some, if_neg (by decide), if_neg (by decide), if_pos rfl, car_sum w]
    rfl
  | 7, _ =>
    rw [if_neg (by decide), if_neg (by decide), if_neg (by decide), if_neg (by decide), if_neg (by decide), if_neg (by decide), if_neg (by decide), if_pos (by decide), if_pos s1, s3, ob_some, if_pos s7]
    unfold f1_restingBees
    rw [show (0 : Int32) = nI 0 from rfl, show f1_restingBees_4 300 g (a0 + 43) (nI 0) (nI 0) = some (sF (fun b => s 3 b 4) n3, g) from p_restLoop I.1 n3 0 300 (by omega) (by omega), gB2_some, if_neg (by decide), if_neg (by decide), if_neg (by decide), if_pos rfl]
  | 8, _ =>
    rw [if_neg (by decide), if_neg (by decide), if_neg (by decide), if_neg (by decide), if_neg (by decide), if_neg (by decide), if_neg (by decide), if_neg (by decide), if_pos s1, s2, ob_some, s3, ob_some, if_pos s7, if_pos s6, e0]
    unfold f5_openGates
    rw [show (0 : Int32) = nI 0 from rfl, show f5_openGates_4 300 g (a0 + 1) (s 0 0 0) (nI 0) (nI 0) = some (sF (opI s) n2, g) from p_gateLoop I n2 0 300 (by omega) (by omega), gB2_some, if_neg (by decide), if_neg (by decide), if_neg (by decide), if_neg (by decide)]
