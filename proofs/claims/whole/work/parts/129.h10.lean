/-! PURE: the first heap: the town -/
theorem i_fillIn {T R x : Nat} {K62 : g_H → Nat → Int32 → Option g_H} (hx : x < 14) (hT : T ≠ R + 1 + x) :
    ∀ k y fuel : Nat, ∀ g : g_H, y + k = 14 → k < fuel → (gS g T).1 = 6 → gR g T 4 = some R → gS g R = (14, 14) → gR g R x = some (R + 1 + x) → gS g (R + 1 + x) = (11, 14) →
    ∃ h, f5_init_70 K62 fuel g T (nI x) (nI y) = K62 h T (nI (x + 1)) ∧ gS h = gS g ∧ gR h = gR g ∧ gZ h = gZ g ∧ (∀ a, a ≠ R + 1 + x → gI h a = gI g a) ∧ ∀ j, gI h (R + 1 + x) j = if y ≤ j ∧ j < 14 then (if x = j then 0 else 1000) else gI g (R + 1 + x) j := by
  intro k
  induction k with
  | zero =>
    intro y fuel g hy hf h1 h2 h3 h4 h5
    obtain ⟨fu, rfl⟩ : ∃ fu, fuel = fu + 1 := ⟨fuel - 1, by omega⟩
    have : y = 14 := by omega
    subst this
    refine ⟨g, ?_, rfl, rfl, rfl, fun _ _ => rfl, fun j => by rw [if_neg (by omega)]⟩
    show f5_init_70b K62 (f5_init_70 K62 fu) g T (nI x) (nI 14) = _
    unfold f5_init_70b
    rw [if_pos (by decide), nI_1]
  | succ k ih =>
    intro y fuel g hy hf h1 h2 h3 h4 h5
    obtain ⟨fu, rfl⟩ : ∃ fu, fuel = fu + 1 := ⟨fuel - 1, by omega⟩
    have cx : Int32.toNatClampNeg (nI x) = x := cl_nI (by omega)
    have cy : Int32.toNatClampNeg (nI y) = y := cl_nI (by omega)
    obtain ⟨v, hv⟩ : ∃ v : Int32, v = if x = y then 0 else 1000 := ⟨_, rfl⟩
    obtain ⟨h, x1, x2, x3, x4, x5, x6⟩ := ih (y + 1) fu (gPI g (R + 1 + x) y v) (by omega) (by omega) h1 h2 h3 h4 h5
    refine ⟨h, ?_, x2, x3, x4, fun a ha => (x5 a ha).trans (gU_o ha), fun j => ?_⟩
    · show f5_init_70b K62 (f5_init_70 K62 fu) g T (nI x) (nI y) = _
      unfold f5_init_70b f5_init_95
      rw [if_neg (show ¬ (14 : Int32) ≤ nI y from nI_ge (b := 14) (by omega) (by omega)), if_pos h1, h2, ob_some, h3, if_pos rfl, if_pos (ixOk (by omega) (by omega)), cx, h4, ob_some]
      by_cases e : x = y
      · rw [if_pos e] at hv
        rw [if_pos (show nI x = nI y by rw [e]), h5, if_pos rfl, if_pos (ixOk (by omega) (by omega)), cy, nI_1, ← hv]
        exact x1
      · rw [if_neg e] at hv
        rw [if_neg (show ¬ nI x = nI y from fun q => e (nI_inj (by omega) (by omega) q)), h5, if_pos rfl, if_pos (ixOk (by omega) (by omega)), cy, nI_1, ← hv]
        exact x1
    · rw [x6 j, gI_PI, if_pos rfl]
      by_cases e : j = y
      · subst e
        rw [if_neg (show ¬ (j + 1 ≤ j ∧ j < 14) by omega), if_pos rfl, if_pos (show j ≤ j ∧ j < 14 from ⟨Nat.le_refl _, by omega⟩), hv]
      · by_cases c : y + 1 ≤ j ∧ j < 14
        · rw [if_pos c, if_pos (show y ≤ j ∧ j < 14 from ⟨by omega, c.2⟩)]
        · rw [if_neg c, if_neg e, if_neg (show ¬ (y ≤ j ∧ j < 14) by omega)]
theorem i_fill {T R : Nat} (hT : T ≤ R) :
    ∀ k x fuel : Nat, ∀ g : g_H, x + k = 14 → k < fuel → (gS g T).1 = 6 → gR g T 4 = some R → gS g R = (14, 14) → (∀ x, x < 14 → gR g R x = some (R + 1 + x) ∧ gS g (R + 1 + x) = (11, 14)) →
    ∃ h, f5_init_62 fuel g T (nI x) = some h ∧ gS h = gS g ∧ gR h = gR g ∧ gZ h = gZ g ∧ (∀ a, ¬ (R + 1 + x ≤ a ∧ a < R + 15) → gI h a = gI g a) ∧ ∀ x', x ≤ x' → x' < 14 → ∀ j, j < 14 → gI h (R + 1 + x') j = if x' = j then 0 else 1000 := by
  intro k
  induction k with
  | zero =>
    intro x fuel g hx hf h1 h2 h3 h4
    obtain ⟨fu, rfl⟩ : ∃ fu, fuel = fu + 1 := ⟨fuel - 1, by omega⟩
    have : x = 14 := by omega
    subst this
    refine ⟨g, ?_, rfl, rfl, rfl, fun _ _ => rfl, fun x' h1 h2 => absurd h1 (by omega)⟩
    show f5_init_62b (f5_init_62 fu) g T (nI 14) = _
    unfold f5_init_62b
    rw [if_pos (by decide)]
  | succ k ih =>
    intro x fuel g hx hf h1 h2 h3 h4
    obtain ⟨fu, rfl⟩ : ∃ fu, fuel = fu + 1 := ⟨fuel - 1, by omega⟩
    obtain ⟨r1, r2⟩ := h4 x (by omega)
    obtain ⟨h, x1, x2, x3, x4, x5, x6⟩ := i_fillIn (K62 := f5_init_62 fu) (show x < 14 by omega) (show T ≠ R + 1 + x by omega) 14 0 300 g (by omega) (by omega) h1 h2 h3 r1 r2
    obtain ⟨h', y1, y2, y3, y4, y5, y6⟩ := ih (x + 1) fu h (by omega) (by omega) (by rw [x2]; exact h1) (by rw [x3]; exact h2) (by rw [x2]; exact h3) (fun x' hx' => by rw [x2, x3]; exact h4 x' hx')
    refine ⟨h', ?_, y2.trans x2, y3.trans x3, y4.trans x4, fun a ha => (y5 a (by omega)).trans (x5 a (by omega)), fun x' hx' hx2 j hj => ?_⟩
    · show f5_init_62b (f5_init_62 fu) g T (nI x) = _
      unfold f5_init_62b
      rw [if_neg (show ¬ (14 : Int32) ≤ nI x from nI_ge (b := 14) (by omega) (by omega))]
      exact x1.trans y1
    · by_cases e : x' = x
      · subst e
        rw [y5 _ (by omega), x6 j, if_pos ⟨by omega, hj⟩]
      · exact y6 x' (by omega) hx2 j hj
def Tz (a0 i : Nat) (g : g_H) : Prop := (gS g (a0 + 1)).1 = 6 ∧ gR g (a0 + 1) 2 = some (a0 + 2) ∧ gR g (a0 + 1) 3 = some (a0 + 3) ∧ gS g (a0 + 2) = (12, 14) ∧ gS g (a0 + 3) = (16, 24) ∧ (∀ j, j < i → gR g (a0 + 3) j = some (a0 + 4 + j) ∧ (gS g (a0 + 4 + j)).1 = 3) ∧ ∀ x, x < 14 → gI g (a0 + 2) x = 0
/-- what the town's constructor leaves -/
def Twz (a0 : Nat) (g h : g_H) : Prop := gZ h = a0 + 43 ∧ TL a0 h ∧ Ext (a0 + 1) g h ∧ gI h (a0 + 1) = gI g (a0 + 1) ∧ (∀ x, x < 14 → gI h (a0 + 2) x = 0) ∧ ∀ x y, x < 14 → y < 14 → gI h (a0 + 29 + x) y = if x = y then 0 else 1000
theorem i_lanes {a0 : Nat} : ∀ k i fuel : Nat, ∀ g : g_H, i + k = 24 → k < fuel → gZ g = a0 + 4 + i → Tz a0 i g → ∃ h, f5_init_23 fuel g (a0 + 1) (nI i) = some h ∧ Twz a0 g h := by
  intro k
  induction k with
  | zero =>
    intro i fuel g hi hf hz t
    obtain ⟨fu, rfl⟩ : ∃ fu, fuel = fu + 1 := ⟨fuel - 1, by omega⟩
    have : i = 24 := by omega
    subst this
    have hz : gZ g = a0 + 28 := hz
    obtain ⟨t1, t2, t3, t4, t5, t6, t7⟩ := t
    obtain ⟨A, hA⟩ : ∃ A, A = gM g 14 14 := ⟨_, rfl⟩
    obtain ⟨A', hA'⟩ : ∃ A', A' = gPR A (a0 + 1) 4 (some (a0 + 28)) := ⟨_, rfl⟩
    have eA : Ext (a0 + 28) g A := fun a ha => by
      rw [hA]
      exact ⟨if_pos (by omega), if_pos (by omega), if_neg (by omega)⟩
    have s28 : gS A (a0 + 28) = (14, 14) := by
      rw [hA]
      show (if a0 + 28 < gZ g then _ else if a0 + 28 = gZ g then _ else _) = _
      rw [if_neg (by omega), if_pos hz.symm]
    have r28 : ∀ x, x < 14 → gR A (a0 + 28) x = some (a0 + 29 + x) := fun x hx => by
      rw [hA]
      show (if a0 + 28 = gZ g then (fun j => if j < 14 then some (gZ g + 1 + j) else none) else gR g (a0 + 28)) x = _
      rw [if_pos hz.symm]
      show (if x < 14 then some (gZ g + 1 + x) else none) = _
      rw [if_pos hx, hz]
    have s29 : ∀ x, x < 14 → gS A (a0 + 29 + x) = (11, 14) := fun x hx => by
      rw [hA]
      show (if a0 + 29 + x < gZ g then _ else if a0 + 29 + x = gZ g then _ else if a0 + 29 + x < gZ g + 1 + 14 then _ else _) = _
      rw [if_neg (by omega), if_neg (by omega), if_pos (by omega)]
    have SA : gS A' = gS A := by rw [hA']; rfl
    have IA : gI A' = gI A := by rw [hA']; rfl
    have oA : ∀ a, a ≠ a0 + 1 → gR A' a = gR A a := fun a ha => by rw [hA']; exact gU_o ha
    have kA : (gS A (a0 + 1)).1 = 6 := by rw [(eA _ (by omega)).1]; exact t1
    obtain ⟨h, x1, x2, x3, x4, x5, x6⟩ := i_fill (T := a0 + 1) (R := a0 + 28) (by omega) 14 0 300 A' (by omega) (by omega) (by rw [SA]; exact kA) (by rw [hA', gR_PRs]) (by rw [SA]; exact s28) (fun x hx => ⟨by rw [oA _ (by omega)]; exact r28 x hx, by rw [SA]; exact s29 x hx⟩)
    have e1 : Ext (a0 + 1) A A' := by rw [hA']; exact Ext.pr (Nat.le_refl _)
    have e2 : Ext (a0 + 28) A' h := fun a ha => ⟨by rw [x2], x5 a (by omega), by rw [x3]⟩
    refine ⟨h, ?_, ?_, ⟨?_, ?_, ?_, ?_, ?_, ?_, ?_, fun i hi => ⟨?_, ?_⟩, fun x hx => ⟨?_, ?_⟩⟩, ((eA.le (by omega)).tr e1).tr (e2.le (by omega)), ?_, fun x hx => ?_, fun x y hx hy => ?_⟩
    · show f5_init_23b (f5_init_23 fu) g (a0 + 1) (nI 24) = _
      unfold f5_init_23b
      rw [if_pos (by decide), ← hA, if_pos kA, hz, ← hA']
      exact x1
    · rw [x4, hA', hA]; show gZ g + 1 + 14 = _; omega
    · rw [x2, SA]; exact kA
    · rw [x3, hA', gR_PRo (by omega), (eA _ (by omega)).2.2]; exact t2
    · rw [x3, hA', gR_PRo (by omega), (eA _ (by omega)).2.2]; exact t3
    · rw [x3, hA', gR_PRs]
    · rw [x2, SA, (eA _ (by omega)).1]; exact t4
    · rw [x2, SA, (eA _ (by omega)).1]; exact t5
    · rw [x2, SA]; exact s28
    · rw [x3, oA _ (by omega), (eA _ (by omega)).2.2]; exact (t6 i hi).1
    · rw [x2, SA, (eA _ (by omega)).1]; exact (t6 i hi).2
    · rw [x3, oA _ (by omega)]; exact r28 x hx
    · rw [x2, SA]; exact s29 x hx
    · rw [x5 _ (by omega), IA, (eA _ (by omega)).2.1]
    · rw [x5 _ (by omega), IA, (eA _ (by omega)).2.1]; exact t7 x hx
    · exact x6 x (by omega) hx y hy
  | succ k ih =>
    intro i fuel g hi hf hz t
    obtain ⟨fu, rfl⟩ : ∃ fu, fuel = fu + 1 := ⟨fuel - 1, by omega⟩
    have ci : Int32.toNatClampNeg (nI i) = i := cl_nI (by omega)
    obtain ⟨t1, t2, t3, t4, t5, t6, t7⟩ := t
    obtain ⟨A, hA⟩ : ∃ A, A = gN g 3 0 (fun _ => 0) := ⟨_, rfl⟩
    obtain ⟨A', hA'⟩ : ∃ A', A' = gPR A (a0 + 3) i (some (a0 + 4 + i)) := ⟨_, rfl⟩
    have eA : Ext (a0 + 4 + i) g A := by rw [hA]; exact Ext.gN (by omega)
    have eA' : Ext (a0 + 3) A A' := by rw [hA']; exact Ext.pr (Nat.le_refl _)
    have e1 : Ext (a0 + 3) g A' := (eA.le (by omega)).tr eA'
    have SA : gS A' = gS A := by rw [hA']; rfl
    have sA : gS A (a0 + 4 + i) = (3, 0) := by rw [hA]; exact gS_gN hz
    have s3 : gS A (a0 + 3) = (16, 24) := by rw [(eA _ (by omega)).1]; exact t5
    obtain ⟨h, x1, x2, x3, x4, x5, x6⟩ := ih (i + 1) fu A' (by omega) (by omega) (by rw [hA', hA]; show gZ g + 1 = _; omega) ⟨by rw [(e1 _ (by omega)).1]; exact t1, by rw [(e1 _ (by omega)).2.2]; exact t2, by rw [(e1 _ (by omega)).2.2]; exact t3, by rw [(e1 _ (by omega)).1]; exact t4, by rw [SA]; exact s3, fun j hj => by
      by_cases e : j = i
      · subst e
        exact ⟨by rw [hA', gR_PRs], by rw [SA, sA]⟩
      · obtain ⟨u1, u2⟩ := t6 j (by omega)
        exact ⟨by rw [hA', gR_PRo e, (eA (a0 + 3) (by omega)).2.2]; exact u1, by rw [SA, (eA (a0 + 4 + j) (by omega)).1]; exact u2⟩, fun x hx => by rw [(e1 _ (by omega)).2.1]; exact t7 x hx⟩
    refine ⟨h, ?_, x2, x3, (e1.le (by omega)).tr x4, x5.trans (by rw [(e1 _ (by omega)).2.1]), x6⟩
    show f5_init_23b (f5_init_23 fu) g (a0 + 1) (nI i) = _
    unfold f5_init_23b gNw f2_init
    rw [if_neg (show ¬ (24 : Int32) ≤ nI i from nI_ge (b := 24) (by omega) (by omega)), if_pos t1, t3, ob_some, ← hA]
    dsimp only
    rw [hz, ob_some, s3, if_pos rfl, if_pos (ixOk (by omega) (by omega)), if_pos (by rw [sA]), ci, ← hA', nI_1]
    exact x1
theorem i_town {g : g_H} {a0 : Nat} (h : (gS g (a0 + 1)).1 = 6) (hz : gZ g = a0 + 2) : ∃ h, f5_init g (a0 + 1) = some h ∧ Twz a0 g h := by
  obtain ⟨A, hA⟩ : ∃ A, A = gN g 12 14 (fun _ => 0) := ⟨_, rfl⟩
  obtain ⟨A', hA'⟩ : ∃ A', A' = gPR A (a0 + 1) 2 (some (a0 + 2)) := ⟨_, rfl⟩
  obtain ⟨B, hB⟩ : ∃ B, B = gN A' 16 24 (fun _ => 0) := ⟨_, rfl⟩
  obtain ⟨B', hB'⟩ : ∃ B', B' = gPR B (a0 + 1) 3 (some (a0 + 3)) := ⟨_, rfl⟩
  have zA' : gZ A' = a0 + 3 := by rw [hA', hA]; show gZ g + 1 = _; omega
  have zB' : gZ B' = a0 + 4 := by rw [hB', hB]; show gZ A' + 1 = _; omega
  have eA : Ext (a0 + 2) g A := by rw [hA]; exact Ext.gN (by omega)
  have eB : Ext (a0 + 3) A' B := by rw [hB]; exact Ext.gN (by omega)
  have SA : gS A' = gS A := by rw [hA']; rfl
  have SB : gS B' = gS B := by rw [hB']; rfl
  have IA : gI A' = gI A := by rw [hA']; rfl
  have IB : gI B' = gI B := by rw [hB']; rfl
  have sA : gS A (a0 + 2) = (12, 14) := by rw [hA]; exact gS_gN hz
  have iA : gI A (a0 + 2) = fun _ => 0 := by rw [hA]; exact gI_gN hz
  have sB : gS B (a0 + 3) = (16, 24) := by rw [hB]; exact gS_gN zA'
  have kA : (gS A (a0 + 1)).1 = 6 := by rw [(eA _ (by omega)).1]; exact h
  have kB : (gS B (a0 + 1)).1 = 6 := by rw [(eB _ (by omega)).1, SA]; exact kA
  obtain ⟨h', x1, x2, x3, x4, x5, x6⟩ := i_lanes (a0 := a0) 24 0 25 B' (by omega) (by omega) zB' ⟨by rw [SB]; exact kB, by rw [hB', gR_PRo (by omega), (eB _ (by omega)).2.2, hA', gR_PRs], by rw [hB', gR_PRs], by rw [SB, (eB _ (by omega)).1, SA]; exact sA, by rw [SB]; exact sB, fun j hj => absurd hj (by omega), fun x hx => by rw [IB, (eB _ (by omega)).2.1, IA, iA]⟩
  have e1 : Ext (a0 + 1) A A' := by rw [hA']; exact Ext.pr (Nat.le_refl _)
  have e2 : Ext (a0 + 1) B B' := by rw [hB']; exact Ext.pr (Nat.le_refl _)
  refine ⟨h', ?_, x2, x3, ((((eA.le (by omega)).tr e1).tr (eB.le (by omega))).tr e2).tr x4, x5.trans (by rw [IB, (eB _ (by omega)).2.1, IA, (eA _ (by omega)).2.1]), x6⟩
  unfold f5_init gNw
  rw [hz, ← hA]
  dsimp only
  rw [if_pos kA, ← hA', zA', ← hB, if_pos kB, ← hB']
  exact x1
