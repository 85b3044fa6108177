/-! PURE: mean as a call of both; what is said of doubles is a premise here -/
theorem ixOj {n j : Nat} (h : j < n) (hn : n < 2 ^ 31) : ¬ (nI j < 0 ∨ n ≤ j) := fun k => k.elim (nI_pos (by omega)) (by omega)
def gdD : Prop := ∀ (j : Int64) (x : Int32), x ≠ 0 → FP.ddiv (FP.l2d j) (FP.i2d x) &&& 0x7fffffffffffffff ≤ 0x7ff0000000000000
def gdE : Prop := ∀ (x : Int32) (j : Int64), j.toInt = x.toInt → FP.i2d x = FP.l2d j
def meV (s : Sg) (n4 : Nat) : UInt64 := if arr s = 0 then FP.dconst0 else FP.ddiv (FP.l2d (smL s n4)) (FP.i2d (arr s))
set_option maxRecDepth 8000 in
theorem p_meanLoop {a0 n1 n2 n3 n4 q : Nat} {g : g_H} {s : Sg} (I : ClI a0 g s n1 n2 n3 n4 q) (ha : arr s ≠ 0) (hG : gdD) :
    ∀ k i fuel : Nat, i + k = n4 → k < fuel → f6_mean_16 fuel g a0 (smL s i) (nI i) = some (FP.ddiv (FP.l2d (smL s n4)) (FP.i2d (arr s)), g) := by
  obtain ⟨s1, s2, s3, s4, s5, s6, s7, s8, s9, s10, s11, s12, s13, s14, s15⟩ := I.sh
  have b7 : gR g (a0 + 43) 2 = some (a0 + 43 + 32) := I.1.2.1.2.2.1.2.2.2.1
  have b9 : gS g (a0 + 43 + 32) = (17, 20) := I.1.2.1.2.2.1.2.2.2.2.2.1
  have r5 : gI g (a0 + 43) 6 = arr s := I.1.2.2.2.2.2.1
  intro k
  induction k with
  | zero =>
    intro i fuel h hf
    obtain ⟨fu, rfl⟩ : ∃ fu, fuel = fu + 1 := ⟨fuel - 1, by omega⟩
    have : i = n4 := by omega
    subst this
    show f6_mean_16b (f6_mean_16 fu) g a0 _ (nI i) = _
    unfold f6_mean_16b
    rw [if_pos s1, s3, ob_some, if_pos s7, s11, if_pos (Int32.le_refl _), ob_some, if_pos s7, r5, if_pos (hG _ _ ha)]
  | succ k ih =>
    intro i fuel h hf
    obtain ⟨fu, rfl⟩ : ∃ fu, fuel = fu + 1 := ⟨fuel - 1, by omega⟩
    obtain ⟨b10, b11⟩ := I.1.2.1.2.2.1.2.2.2.2.2.2.2 i (by omega)
    have d3 : gI g (a0 + 43 + 33 + i) 3 = s 5 i 3 := I.1.2.2.2.2.2.2 i (by omega) 3 (by omega)
    have ci : Int32.toNatClampNeg (nI i) = i := cl_nI (by omega)
    have hr := ih (i + 1) fu (by omega) (by omega)
    show f6_mean_16b (f6_mean_16 fu) g a0 _ (nI i) = _
    unfold f6_mean_16b f6_mean_58 f3_hasArrived
    rw [if_pos s1, s3, ob_some, if_pos s7, s11, if_neg (nI_ge (by omega) (by omega)), ob_some, if_pos s7, b7, ob_some, b9, if_pos rfl, if_pos (ixOk (by omega) (by omega)), ci, b10, ob_some, if_pos b11, if_pos b11, d3, nI_1]
    by_cases e : s 5 i 3 = -1
    · have e' : smL s (i + 1) = smL s i := if_pos e
      rw [e'] at hr
      rw [if_pos e, gB2_some, if_pos rfl]; exact hr
    · have e' : smL s (i + 1) = smL s i + Int32.toInt64 (s 5 i 3) := if_neg e
      rw [e'] at hr
      rw [if_neg e, gB2_some, if_neg n10, if_pos s1, s3, ob_some, if_pos s7, b7, ob_some, b9, if_pos rfl, if_pos (ixOj (by omega) (by omega)), b10, ob_some, if_pos b11, d3]; exact hr
set_option maxRecDepth 8000 in
theorem m_meanLoop {M n1 n2 n3 n4 : Nat} {h : g_H} {s : Sg} (m : MX M h s n1 n2 n3 n4) (h20 : n4 ≤ 20) (e4 : s 0 0 4 = nI n4) (hl : ∀ i, i < n4 → s 5 i 3 = -1 ∨ ∃ t, t < 2 ^ 26 ∧ s 5 i 3 = nI t) (hG : gdD) (hE : gdE) :
    ∀ k i fuel : Nat, i + k = n4 → k < fuel → f7_mean_11 fuel h M (smS s i) (arrF s i) (nI i) = some (if arrF s n4 = 0 then FP.dconst0 else FP.ddiv (FP.l2d (smL s n4)) (FP.i2d (arrF s n4)), h) := by
  intro k
  induction k with
  | zero =>
    intro i fuel h hf
    obtain ⟨fu, rfl⟩ : ∃ fu, fuel = fu + 1 := ⟨fuel - 1, by omega⟩
    have : i = n4 := by omega
    subst this
    obtain ⟨S, x1, x2, x3⟩ := sm_eq h20 hl i (Nat.le_refl _)
    have hb : S < 2 ^ 31 := Nat.lt_of_le_of_lt (Nat.le_trans x1 (Nat.mul_le_mul_right _ h20)) (by decide)
    have eq : FP.i2d (smS s i) = FP.l2d (smL s i) := hE _ _ (by rw [x2, nI_toInt hb, x3])
    show f7_mean_11b (f7_mean_11 fu) _ M _ _ (nI i) = _
    unfold f7_mean_11b
    rw [if_pos m.1.1, m.2.1.2.2.2, e4, if_pos (Int32.le_refl _), eq]
    by_cases a : arrF s i = 0
    · rw [if_pos a, if_pos a]
    · rw [if_neg a, if_neg a, if_pos (hG _ _ a)]
  | succ k ih =>
    intro i fuel h hf
    obtain ⟨fu, rfl⟩ : ∃ fu, fuel = fu + 1 := ⟨fuel - 1, by omega⟩
    have hr := ih (i + 1) fu (by omega) (by omega)
    have hs : smS s (i + 1) = smS s i + (if s 5 i 3 = -1 then 0 else s 5 i 3) := rfl
    have ha : arrF s (i + 1) = arrF s i + (if s 5 i 3 = -1 then 0 else 1) := rfl
    show f7_mean_11b (f7_mean_11 fu) _ M _ _ (nI i) = _
    unfold f7_mean_11b f7_mean_44
    rw [if_pos m.1.1, m.2.1.2.2.2, e4, if_neg (nI_ge (by omega) (by omega)), m_le (i := i) (k := 3) (y := (3 : Int32)) m h20 (by omega) (by omega) rfl rfl, gB2_some, nI_1]
    by_cases e : s 5 i 3 = -1
    · rw [if_pos e, Int32.add_zero] at hs ha
      rw [hs, ha] at hr
      rw [if_pos e]; exact hr
    · rw [if_neg e] at hs ha
      rw [hs, ha] at hr
      rw [if_neg e, if_pos m.1.1, m_le (i := i) (k := 3) (y := (3 : Int32)) m h20 (by omega) (by omega) rfl rfl, gB2_some]; exact hr
set_option maxRecDepth 8000 in
theorem o_mean {a0 n1 n2 n3 n4 q : Nat} {g : g_H} {s : Sg} (I : ClI a0 g s n1 n2 n3 n4 q) (hG : gdD) (hE : gdE) :
    f6_mean g a0 = some (meV s n4, g) ∧ ∀ h, MX (a0 + 153) h s n1 n2 n3 n4 → f7_mean h (a0 + 153) = some (meV s n4, gPI h (a0 + 153) 0 0) := by
  obtain ⟨s1, s2, s3, s4, s5, s6, s7, s8, s9, s10, s11, s12, s13, s14, s15⟩ := I.sh
  have r5 : gI g (a0 + 43) 6 = arr s := I.1.2.2.2.2.2.1
  have e4 := I.1.1.2.2.2.1
  have hl : ∀ i, i < n4 → s 5 i 3 = -1 ∨ ∃ t, t < 2 ^ 26 ∧ s 5 i 3 = nI t := fun i hi => (I.1.1.2.2.2.2.2.2.2.2 i hi).2.2.2.2.2
  refine ⟨?_, fun h m => ?_⟩
  · unfold f6_mean meV
    rw [if_pos s1, s3, ob_some, if_pos s7, r5]
    by_cases a : arr s = 0
    · rw [if_pos a, if_pos a]
    · rw [if_neg a, if_neg a]
      exact p_meanLoop I a hG n4 0 300 (by omega) (by omega)
  · unfold f7_mean meV
    rw [if_pos m.1.1, arr_def e4 s15]
    exact m_meanLoop (m.thr (v := 0)) s15 e4 hl hG hE n4 0 300 (by omega) (by omega)
