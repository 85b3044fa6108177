/-! PURE: the model reads a route into its row -/
def Fgg (M : Nat) (g h : g_H) : Prop := gS h = gS g ∧ gR h = gR g ∧ gJ h = gJ g ∧ gZ h = gZ g ∧ ∀ a, a ≠ M + 8 → gI h a = gI g a
theorem Fgg.rf {M : Nat} {g : g_H} : Fgg M g g := ⟨rfl, rfl, rfl, rfl, fun _ _ => rfl⟩
theorem Fgg.tr {M : Nat} {g h k : g_H} (x : Fgg M g h) (y : Fgg M h k) : Fgg M g k := ⟨y.1.trans x.1, y.2.1.trans x.2.1, y.2.2.1.trans x.2.2.1, y.2.2.2.1.trans x.2.2.2.1, fun a ha => (y.2.2.2.2 a ha).trans (x.2.2.2.2 a ha)⟩
theorem Fgg.put {M k : Nat} {g : g_H} {v : Int32} : Fgg M g (gPI g (M + 8) k v) := ⟨rfl, rfl, rfl, rfl, fun b hb => gU_o hb⟩
theorem Fgg.mm {M : Nat} {g h : g_H} (f : Fgg M g h) : Fmm M g h := ⟨Nat.le_of_eq f.2.2.2.1.symm, fun a _ => ⟨by rw [f.1], by rw [f.2.2.1], by rw [f.2.1], fun ha => f.2.2.2.2 a (by omega)⟩⟩
theorem MX.fg {M n1 n2 n3 n4 : Nat} {g h : g_H} {s : Sg} (m : MX M g s n1 n2 n3 n4) (f : Fgg M g h) : MX M h s n1 n2 n3 n4 := by
  obtain ⟨l, m2, m3, m4⟩ := m
  obtain ⟨f1, f2, f3, f4, f5⟩ := f
  refine ⟨by unfold ML; rw [f1, f2]; exact l, ?_, ?_, ?_⟩
  · unfold M0; rw [f5 M (by omega)]; exact m2
  · unfold M1; rw [f5 (M + 1) (by omega), f5 (M + 2) (by omega), f5 (M + 3) (by omega), f5 (M + 5) (by omega)]; exact m3
  · unfold M2; rw [f5 (M + 4) (by omega), f5 (M + 6) (by omega), f5 (M + 7) (by omega)]; exact m4
theorem m_dup {M n1 n2 n3 n4 n : Nat} {h : g_H} {s : Sg} {w : Nat → Int32} {x x3 v : Int32} {K : g_H → Nat → Int32 → Int32 → Int32 → Option (Int32 × g_H)} (m : MX M h s n1 n2 n3 n4) (h7 : n < 7) (hw : ∀ i, i < n → gI h (M + 8) i = w i) :
    ∀ k i fuel : Nat, i + k = n → k < fuel → (∀ j, j < i → w j ≠ v) → f7_read_80 K fuel h M x (nI n) x3 v (nI i) = if (∀ j, j < n → w j ≠ v) then f7_read_117 K (gPI h (M + 8) n v) M x (nI (n + 1)) x3 else some (0, h) := by
  have k8 : gR h M 12 = some (M + 8) := m.1.2.1.2.2.2.2.2.2.2
  have z8 : gS h (M + 8) = (11, 7) := m.1.2.2.2.2.2.2.2.2.2
  intro k
  induction k with
  | zero =>
    intro i fuel hi hf hb
    obtain ⟨fu, rfl⟩ : ∃ fu, fuel = fu + 1 := ⟨fuel - 1, by omega⟩
    have : i = n := by omega
    subst this
    have ci : Int32.toNatClampNeg (nI i) = i := cl_nI (by omega)
    show f7_read_80b K _ h M x (nI i) x3 v (nI i) = _
    unfold f7_read_80b
    rw [if_pos (Int32.le_refl _), if_pos m.1.1, k8, ob_some, z8, if_pos rfl, if_pos (ixOk (by omega) (by omega)), ci, nI_1, if_pos hb]
  | succ k ih =>
    intro i fuel hi hf hb
    obtain ⟨fu, rfl⟩ : ∃ fu, fuel = fu + 1 := ⟨fuel - 1, by omega⟩
    have ci : Int32.toNatClampNeg (nI i) = i := cl_nI (by omega)
    show f7_read_80b K (f7_read_80 K fu) h M x (nI n) x3 v (nI i) = _
    unfold f7_read_80b
    rw [if_neg (nI_ge (by omega) (by omega)), if_pos m.1.1, k8, ob_some, z8, if_pos rfl, if_pos (ixOk (by omega) (by omega)), ci, hw i (by omega), nI_1]
    by_cases e : w i = v
    · rw [if_pos e, if_neg (fun q => q i (by omega) e)]
    · rw [if_neg e]
      exact ih (i + 1) fu (by omega) (by omega) fun j hj => by
        by_cases e2 : j = i
        · rw [e2]; exact e
        · exact hb j (by omega)
theorem m_app {M n1 n2 n3 n4 n : Nat} {h : g_H} {s : Sg} {w : Nat → Int32} {x x3 v : Int32} {K : g_H → Nat → Int32 → Int32 → Int32 → Option (Int32 × g_H)} (m : MX M h s n1 n2 n3 n4) (wt : WT s n1 n2) (h7 : n < 7) (hw : ∀ i, i < n → gI h (M + 8) i = w i) :
    f7_read_44 K h M x (nI n) x3 v = if okR s n1 n w v then f7_read_117 K (gPI h (M + 8) n v) M x (nI (n + 1)) x3 else some (0, h) := by
  have k8 : gR h M 12 = some (M + 8) := m.1.2.1.2.2.2.2.2.2.2
  have z8 : gS h (M + 8) = (11, 7) := m.1.2.2.2.2.2.2.2.2.2
  have dup := m_dup (x := x) (x3 := x3) (v := v) (K := K) m h7 hw n 0 300 (by omega) (by omega) (fun j hj => absurd hj (by omega))
  have e77 : f7_read_77 K h M x (nI n) x3 v = if (∀ j, j < n → w j ≠ v) then f7_read_117 K (gPI h (M + 8) n v) M x (nI (n + 1)) x3 else some (0, h) := dup
  unfold f7_read_44
  rw [if_pos m.1.1, m_isHouse m wt.1 wt.2.1, gB2_some]
  by_cases c1 : inR (nI n1) v
  · rw [if_pos c1, if_neg n10]
    by_cases c0 : n = 0
    · rw [if_pos (show nI n ≤ 0 from nI_le (b := 0) (by omega) (by omega)), e77]
      by_cases c : ∀ j, j < n → w j ≠ v
      · rw [if_pos c, if_pos ⟨c1, c, Or.inl c0⟩]
      · rw [if_neg c, if_neg fun q => c q.2.1]
    · have cn : Int32.toNatClampNeg (nI (n - 1)) = n - 1 := cl_nI (by omega)
      have en : nI n - 1 = nI (n - 1) := nI_sub (b := 1) (by omega)
      rw [if_neg (nI_nle0 (by omega) (by omega)), if_pos m.1.1, k8, ob_some, z8, if_pos rfl, en, if_pos (ixOk (by omega) (by omega)), cn, hw (n - 1) (by omega), m_lane m wt, gB2_some]
      by_cases c2 : sl s (w (n - 1)) v = -1
      · rw [if_pos c2, if_neg fun q => (q.2.2.resolve_left c0) c2]
      · rw [if_neg c2, e77]
        by_cases c : ∀ j, j < n → w j ≠ v
        · rw [if_pos c, if_pos ⟨c1, c, Or.inr c2⟩]
        · rw [if_neg c, if_neg fun q => c q.2.1]
  · rw [if_neg c1, if_pos rfl, if_neg fun q => c1 q.1]
theorem m_readLoop {M n1 n2 n3 n4 X : Nat} {s : Sg} (wt : WT s n1 n2) (hX : X < 2 ^ 28) :
    ∀ k n fuel : Nat, ∀ (w : Nat → Int32) (h : g_H), n + k ≤ 7 → k < fuel → MX M h s n1 n2 n3 n4 → (∀ i, i < n → gI h (M + 8) i = w i) → (0 < n → 0 < X / 2 ^ (4 * k)) →
    (rdS s n1 (nI X) k n w = none → ∃ h', f7_read_17 fuel h M (nI X) (nI n) (nI (4 * k) - 4) = some (0, h') ∧ Fgg M h h') ∧
    ∀ n' w', rdS s n1 (nI X) k n w = some (n', w') → ∃ h', f7_read_17 fuel h M (nI X) (nI n) (nI (4 * k) - 4) = some (nI n', h') ∧ Fgg M h h' ∧ ∀ i, i < n' → gI h' (M + 8) i = w' i := by
  intro k
  induction k with
  | zero =>
    intro n fuel w h hn hf m hw hd
    obtain ⟨fu, rfl⟩ : ∃ fu, fuel = fu + 1 := ⟨fuel - 1, by omega⟩
    refine ⟨fun e => absurd e (by simp [rdS]), fun n' w' e => ?_⟩
    have e' : (n, w) = (n', w') := Option.some.inj e
    obtain ⟨rfl, rfl⟩ := Prod.mk.inj e'
    refine ⟨h, ?_, Fgg.rf, hw⟩
    show f7_read_17b (f7_read_17 fu) h M (nI X) (nI n) (nI (4 * 0) - 4) = some (nI n, h)
    unfold f7_read_17b
    rw [if_pos (by decide)]
  | succ k ih =>
    intro n fuel w h hn hf m hw hd
    obtain ⟨fu, rfl⟩ : ∃ fu, fuel = fu + 1 := ⟨fuel - 1, by omega⟩
    have hr : rs (nI X) k = nI (X / 2 ^ (4 * k)) := shr28 hX (by omega)
    have hlt : X / 2 ^ (4 * k) < 2 ^ 28 := Nat.lt_of_le_of_lt (Nat.div_le_self _ _) hX
    have hdv : X / 2 ^ (4 * (k + 1)) ≤ X / 2 ^ (4 * k) := Nat.div_le_div_left (Nat.pow_le_pow_right (by omega) (by omega)) (Nat.pos_of_ne_zero (by simp))
    have z0 : rs (nI X) k = 0 ↔ X / 2 ^ (4 * k) = 0 := by rw [hr]; exact nI_eq (b := 0) (Nat.lt_trans hlt (by decide)) (by omega)
    have h4 : nI (4 * (k + 1)) - 4 = nI (4 * k) := (nI_sub (b := 4) (by omega)).trans (by rw [show 4 * (k + 1) - 4 = 4 * k by omega])
    have hm : nI (4 * k) + -4 = nI (4 * k) - 4 := by rw [show (-4 : Int32) = -(4 : Int32) from rfl, ← Int32.sub_eq_add_neg]
    have st : f7_read_17 (fu + 1) h M (nI X) (nI n) (nI (4 * (k + 1)) - 4) = if rs (nI X) k = 0 then f7_read_17 fu h M (nI X) (nI n) (nI (4 * k) - 4) else if okR s n1 n w (dg (nI X) k) then f7_read_17 fu (gPI h (M + 8) n (dg (nI X) k)) M (nI X) (nI (n + 1)) (nI (4 * k) - 4) else some (0, h) := by
      have ap := m_app (x := nI X) (x3 := nI (4 * k)) (v := dg (nI X) k) (K := f7_read_17 fu) m wt (show n < 7 by omega) hw
      unfold f7_read_117 at ap
      rw [hm] at ap
      show f7_read_17b (f7_read_17 fu) h M (nI X) (nI n) (nI (4 * (k + 1)) - 4) = _
      unfold f7_read_17b f7_read_117
      rw [h4, if_neg (nI_pos (by omega)), hm]
      show (if nI n = 0 then if rs (nI X) k = 0 then _ else f7_read_44 _ h M (nI X) (nI n) (nI (4 * k)) (dg (nI X) k) else f7_read_44 _ h M (nI X) (nI n) (nI (4 * k)) (dg (nI X) k)) = _
      rw [ap]
      by_cases n0 : n = 0
      · rw [if_pos (show nI n = 0 by rw [n0]; rfl)]
      · rw [if_neg (show ¬ nI n = 0 from fun q => n0 ((nI_eq (b := 0) (show n < 2 ^ 31 by omega) (by omega)).mp q)), if_neg (show ¬ rs (nI X) k = 0 from fun q => by
          have := hd (by omega)
          have := z0.mp q
          omega)]
    rw [st]
    by_cases c : rs (nI X) k = 0
    · have n0 : n = 0 := by
        rcases Nat.eq_zero_or_pos n with z | z
        · exact z
        · have := hd z
          have := z0.mp c
          omega
      have er : rdS s n1 (nI X) (k + 1) n w = rdS s n1 (nI X) k n w := if_pos c
      rw [er, if_pos c]
      exact ih n fu w h (by omega) (by omega) m hw (fun q => absurd q (by omega))
    · rw [if_neg c]
      by_cases o : okR s n1 n w (dg (nI X) k)
      · have er : rdS s n1 (nI X) (k + 1) n w = rdS s n1 (nI X) k (n + 1) (upw w n (dg (nI X) k)) := (if_neg c).trans (if_pos o)
        have f1 : Fgg M h (gPI h (M + 8) n (dg (nI X) k)) := Fgg.put
        obtain ⟨y1, y2⟩ := ih (n + 1) fu (upw w n (dg (nI X) k)) (gPI h (M + 8) n (dg (nI X) k)) (by omega) (by omega) (m.fg f1) (fun i hi => by
          unfold upw
          rw [gI_PI, if_pos rfl]
          by_cases e : i = n
          · rw [if_pos e, if_pos e]
          · rw [if_neg e, if_neg e]; exact hw i (by omega)) (fun _ => Nat.pos_of_ne_zero fun q => c (z0.mpr q))
        rw [er, if_pos o]
        refine ⟨fun e => ?_, fun n' w' e => ?_⟩
        · obtain ⟨h', x1, x2⟩ := y1 e
          exact ⟨h', x1, f1.tr x2⟩
        · obtain ⟨h', x1, x2, x3⟩ := y2 n' w' e
          exact ⟨h', x1, f1.tr x2, x3⟩
      · have er : rdS s n1 (nI X) (k + 1) n w = none := (if_neg c).trans (if_neg o)
        rw [er, if_neg o]
        exact ⟨fun _ => ⟨h, rfl, Fgg.rf⟩, fun n' w' e => absurd e (by simp)⟩
theorem m_read {M n1 n2 n3 n4 : Nat} {h : g_H} {s : Sg} (m : MX M h s n1 n2 n3 n4) (wt : WT s n1 n2) (x : Int32) :
    (rdX s n1 x = none → ∃ h', f7_read h M x = some (0, h') ∧ Fgg M h h') ∧ ∀ n w, rdX s n1 x = some (n, w) → ∃ h', f7_read h M x = some (nI n, h') ∧ Fgg M h h' ∧ ∀ i, i < n → gI h' (M + 8) i = w i := by
  have c0 : x ≤ 0 ↔ x < 1 := by
    rw [Int32.le_iff_toInt_le, Int32.lt_iff_toInt_lt]
    have e0 : (0 : Int32).toInt = 0 := rfl
    have e1 : (1 : Int32).toInt = 1 := rfl
    omega
  by_cases c1 : x < 1
  · refine ⟨fun _ => ⟨h, ?_, Fgg.rf⟩, fun n w e => ?_⟩
    · unfold f7_read
      rw [if_pos (c0.mpr c1)]
    · unfold rdX at e
      rw [if_pos c1] at e; exact absurd e (by simp)
  · by_cases c2 : x < 268435456
    · have er : rdX s n1 x = rdS s n1 x 7 0 (fun _ => 0) := (if_neg c1).trans (if_pos c2)
      obtain ⟨X, rfl, X1, X2⟩ := rdX_in c1 c2
      obtain ⟨y1, y2⟩ := m_readLoop (M := M) (n3 := n3) (n4 := n4) wt X2 7 0 300 (fun _ => 0) h (by omega) (by omega) m (fun i hi => absurd hi (by omega)) (fun q => absurd q (by omega))
      have pre : f7_read h M (nI X) = f7_read_17 300 h M (nI X) (nI 0) (nI (4 * 7) - 4) := by
        unfold f7_read
        rw [if_neg fun q => c1 (c0.mp q), if_pos c2]
        rfl
      rw [er, pre]
      exact ⟨y1, y2⟩
    · refine ⟨fun _ => ⟨h, ?_, Fgg.rf⟩, fun n w e => ?_⟩
      · unfold f7_read
        rw [if_neg fun q => c1 (c0.mp q), if_neg c2]
      · unfold rdX at e
        rw [if_neg c1, if_neg c2] at e; exact absurd e (by simp)
