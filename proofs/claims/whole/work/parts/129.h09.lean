/-! PURE: the first heap: routes, bees, flights -/
def Ext (n : Nat) (g h : g_H) : Prop := ∀ a, a < n → gS h a = gS g a ∧ gI h a = gI g a ∧ gR h a = gR g a
theorem Ext.rf {n : Nat} {g : g_H} : Ext n g g := fun _ _ => ⟨rfl, rfl, rfl⟩
theorem Ext.tr {n : Nat} {g h k : g_H} (x : Ext n g h) (y : Ext n h k) : Ext n g k := fun a ha => ⟨(y a ha).1.trans (x a ha).1, (y a ha).2.1.trans (x a ha).2.1, (y a ha).2.2.trans (x a ha).2.2⟩
theorem Ext.le {n m : Nat} {g h : g_H} (x : Ext n g h) (hm : m ≤ n) : Ext m g h := fun a ha => x a (by omega)
theorem Ext.gN {n kd k : Nat} {g : g_H} {r : Nat → Int32} (h : n ≤ gZ g) : Ext n g (gN g kd k r) := fun a ha => by
  obtain ⟨o1, o2, o3⟩ := gN_o (g := g) (kd := kd) (n := k) (r := r) (a := a) (by omega)
  exact ⟨o1, o2, o3⟩
theorem Ext.pr {n a k : Nat} {g : g_H} {v : Option Nat} (h : n ≤ a) : Ext n g (gPR g a k v) := fun b hb => ⟨rfl, rfl, gU_o (by omega)⟩
theorem Ext.pi {n a k : Nat} {g : g_H} {v : Int32} (h : n ≤ a) : Ext n g (gPI g a k v) := fun b hb => ⟨rfl, gU_o (by omega), rfl⟩
theorem RtL.ext {r n : Nat} {g h : g_H} (t : RtL r g) (e : Ext n g h) (hn : r + 3 < n) : RtL r h := by
  obtain ⟨t1, t2, t3, t4, t5, t6, t7⟩ := t
  exact ⟨by rw [(e r (by omega)).1]; exact t1, by rw [(e r (by omega)).2.2]; exact t2, by rw [(e r (by omega)).2.2]; exact t3, by rw [(e r (by omega)).2.2]; exact t4, by rw [(e (r + 1) (by omega)).1]; exact t5, by rw [(e (r + 2) (by omega)).1]; exact t6, by rw [(e (r + 3) (by omega)).1]; exact t7⟩
theorem gR_PRs {g : g_H} {a k : Nat} {v : Option Nat} : gR (gPR g a k v) a k = v := by rw [gR_PR, if_pos rfl, if_pos rfl]
theorem gR_PRo {g : g_H} {a k j : Nat} {v : Option Nat} (h : j ≠ k) : gR (gPR g a k v) a j = gR g a j := by rw [gR_PR, if_pos rfl, if_neg h]
theorem i_route {g : g_H} {r : Nat} (h : (gS g r).1 = 5) (hz : gZ g = r + 1) : ∃ h, f4_init g r = some h ∧ gZ h = r + 4 ∧ RtL r h ∧ Ext r g h ∧ gI h r = gI g r := by
  obtain ⟨A, hA⟩ : ∃ A, A = gN g 11 7 (fun _ => 0) := ⟨_, rfl⟩
  obtain ⟨A', hA'⟩ : ∃ A', A' = gPR A r 1 (some (r + 1)) := ⟨_, rfl⟩
  obtain ⟨B, hB⟩ : ∃ B, B = gN A' 11 7 (fun _ => 0) := ⟨_, rfl⟩
  obtain ⟨B', hB'⟩ : ∃ B', B' = gPR B r 2 (some (r + 2)) := ⟨_, rfl⟩
  obtain ⟨C, hC⟩ : ∃ C, C = gN B' 11 14 (fun _ => 0) := ⟨_, rfl⟩
  obtain ⟨C', hC'⟩ : ∃ C', C' = gPR C r 3 (some (r + 3)) := ⟨_, rfl⟩
  have zA' : gZ A' = r + 2 := by rw [hA', hA]; show gZ g + 1 = _; omega
  have zB' : gZ B' = r + 3 := by rw [hB', hB]; show gZ A' + 1 = _; omega
  have zC' : gZ C' = r + 4 := by rw [hC', hC]; show gZ B' + 1 = _; omega
  have eA : Ext (r + 1) g A := by rw [hA]; exact Ext.gN (by omega)
  have eB : Ext (r + 2) A' B := by rw [hB]; exact Ext.gN (by omega)
  have eC : Ext (r + 3) B' C := by rw [hC]; exact Ext.gN (by omega)
  have SA : gS A' = gS A := by rw [hA']; rfl
  have SB : gS B' = gS B := by rw [hB']; rfl
  have SC : gS C' = gS C := by rw [hC']; rfl
  have sA : gS A (r + 1) = (11, 7) := by rw [hA]; exact gS_gN hz
  have sB : gS B (r + 2) = (11, 7) := by rw [hB]; exact gS_gN zA'
  have sC : gS C (r + 3) = (11, 14) := by rw [hC]; exact gS_gN zB'
  have kA : (gS A r).1 = 5 := by rw [(eA r (by omega)).1]; exact h
  have kB : (gS B r).1 = 5 := by rw [(eB r (by omega)).1, SA]; exact kA
  have kC : (gS C r).1 = 5 := by rw [(eC r (by omega)).1, SB]; exact kB
  have xA : Ext r A A' := by rw [hA']; exact Ext.pr (Nat.le_refl _)
  have xB : Ext r B B' := by rw [hB']; exact Ext.pr (Nat.le_refl _)
  have xC : Ext r C C' := by rw [hC']; exact Ext.pr (Nat.le_refl _)
  refine ⟨C', ?_, zC', ⟨by rw [SC]; exact kC, ?_, ?_, ?_, ?_, ?_, ?_⟩, ?_, ?_⟩
  · unfold f4_init gNw
    rw [hz, ← hA]
    dsimp only
    rw [if_pos kA, ← hA', zA', ← hB, if_pos kB, ← hB', zB', ← hC, if_pos kC, ← hC']
  · rw [hC', gR_PRo (by omega), (eC r (by omega)).2.2, hB', gR_PRo (by omega), (eB r (by omega)).2.2, hA', gR_PRs]
  · rw [hC', gR_PRo (by omega), (eC r (by omega)).2.2, hB', gR_PRs]
  · rw [hC', gR_PRs]
  · rw [SC, (eC _ (by omega)).1, SB, (eB _ (by omega)).1, SA, sA]
  · rw [SC, (eC _ (by omega)).1, SB, sB]
  · rw [SC, sC]
  · exact (((((eA.le (by omega)).tr xA).tr (eB.le (by omega))).tr xB).tr (eC.le (by omega))).tr xC
  · rw [hC', show gI (gPR C r 3 (some (r + 3))) r = gI C r from rfl, (eC r (by omega)).2.1, hB', show gI (gPR B r 2 (some (r + 2))) r = gI B r from rfl, (eB r (by omega)).2.1, hA', show gI (gPR A r 1 (some (r + 1))) r = gI A r from rfl, (eA r (by omega)).2.1]
theorem i_bee {g : g_H} {B : Nat} {x : Int32} (h : (gS g B).1 = 1) (hz : gZ g = B + 1) : ∃ h, f0_init g B x = some h ∧ gZ h = B + 5 ∧ (gS h B).1 = 1 ∧ gR h B 1 = some (B + 1) ∧ gI h B 0 = x ∧ RtL (B + 1) h ∧ Ext B g h := by
  obtain ⟨A, hA⟩ : ∃ A, A = gPI g B 0 x := ⟨_, rfl⟩
  obtain ⟨C, hC⟩ : ∃ C, C = gN A 5 0 (fun _ => 0) := ⟨_, rfl⟩
  have zA : gZ A = B + 1 := by rw [hA]; exact hz
  have zC : gZ C = B + 1 + 1 := by rw [hC]; show gZ A + 1 = _; omega
  have eC : Ext (B + 1) A C := by rw [hC]; exact Ext.gN (by omega)
  have sC : gS C (B + 1) = (5, 0) := by rw [hC]; exact gS_gN zA
  obtain ⟨D, x1, x2, x3, x4, x5⟩ := i_route (g := C) (r := B + 1) (by rw [sC]) zC
  obtain ⟨D', hD'⟩ : ∃ D', D' = gPR D B 1 (some (B + 1)) := ⟨_, rfl⟩
  have kD : (gS D B).1 = 1 := by
    rw [(x4 B (by omega)).1, (eC B (by omega)).1, hA]; exact h
  refine ⟨D', ?_, by rw [hD']; exact x2, by rw [hD']; exact kD, by rw [hD', gR_PRs], ?_, ?_, ?_⟩
  · unfold f0_init gNw
    rw [if_pos h, ← hA]
    dsimp only
    rw [zA, ← hC, x1, ob_some, if_pos kD, hD']
  · rw [hD', show gI (gPR D B 1 (some (B + 1))) B = gI D B from rfl, (x4 B (by omega)).2.1, (eC B (by omega)).2.1, hA, gI_PI, if_pos rfl, if_pos rfl]
  · obtain ⟨t1, t2, t3, t4, t5, t6, t7⟩ := x3
    have o : gR D' (B + 1) = gR D (B + 1) := by rw [hD']; exact gU_o (by omega)
    have s : gS D' = gS D := by rw [hD']; rfl
    exact ⟨by rw [s]; exact t1, by rw [o]; exact t2, by rw [o]; exact t3, by rw [o]; exact t4, by rw [s]; exact t5, by rw [s]; exact t6, by rw [s]; exact t7⟩
  · rw [hD']
    refine Ext.tr ?_ (Ext.pr (Nat.le_refl _))
    refine Ext.tr ?_ (x4.le (by omega))
    refine Ext.tr ?_ (eC.le (by omega))
    rw [hA]
    exact Ext.pi (Nat.le_refl _)
/-- the bees of a flight, the first b of them -/
def Bz (F b : Nat) (g : g_H) : Prop := (gS g F).1 = 2 ∧ gR g F 1 = some (F + 1) ∧ gS g (F + 1) = (15, 6) ∧ ∀ j, j < b → gR g (F + 1) j = some (F + 2 + 5 * j) ∧ (gS g (F + 2 + 5 * j)).1 = 1 ∧ gI g (F + 2 + 5 * j) 0 = nI j ∧ gR g (F + 2 + 5 * j) 1 = some (F + 3 + 5 * j) ∧ RtL (F + 3 + 5 * j) g
theorem Bz.ext {F b n : Nat} {g h : g_H} (t : Bz F b g) (e : Ext n g h) (hn : F + 2 + 5 * b ≤ n) : Bz F b h := by
  obtain ⟨t1, t2, t3, t4⟩ := t
  refine ⟨by rw [(e F (by omega)).1]; exact t1, by rw [(e F (by omega)).2.2]; exact t2, by rw [(e (F + 1) (by omega)).1]; exact t3, fun j hj => ?_⟩
  obtain ⟨u1, u2, u3, u4, u5⟩ := t4 j hj
  exact ⟨by rw [(e (F + 1) (by omega)).2.2]; exact u1, by rw [(e (F + 2 + 5 * j) (by omega)).1]; exact u2, by rw [(e (F + 2 + 5 * j) (by omega)).2.1]; exact u3, by rw [(e (F + 2 + 5 * j) (by omega)).2.2]; exact u4, u5.ext e (by omega)⟩
/-- what a flight's constructor leaves -/
def Flz (F : Nat) (g h : g_H) : Prop := gZ h = F + 53 ∧ Bz F 6 h ∧ gR h F 2 = some (F + 32) ∧ gS h (F + 32) = (17, 20) ∧ (∀ i, i < 20 → gR h (F + 32) i = some (F + 33 + i) ∧ (gS h (F + 33 + i)).1 = 4) ∧ Ext F g h ∧ gR h F 0 = gR g F 0 ∧ gI h F 7 = -1 ∧ ∀ k, k ≠ 7 → gI h F k = gI g F k
theorem i_lets {F : Nat} : ∀ k i fuel : Nat, ∀ g : g_H, i + k = 20 → k < fuel → gZ g = F + 33 + i → Bz F 6 g → gR g F 2 = some (F + 32) → gS g (F + 32) = (17, 20) → (∀ j, j < i → gR g (F + 32) j = some (F + 33 + j) ∧ (gS g (F + 33 + j)).1 = 4) →
    ∃ h, f1_init_57 fuel g F (nI i) = some h ∧ Flz F g h := by
  intro k
  induction k with
  | zero =>
    intro i fuel g hi hf hz b h2 hS hl
    obtain ⟨fu, rfl⟩ : ∃ fu, fuel = fu + 1 := ⟨fuel - 1, by omega⟩
    have : i = 20 := by omega
    subst this
    have e : Ext F g (gPI g F 7 (-1)) := Ext.pi (Nat.le_refl _)
    refine ⟨gPI g F 7 (-1), ?_, hz, ?_, h2, hS, hl, e, rfl, by rw [gI_PI, if_pos rfl, if_pos rfl], fun k hk => by rw [gI_PI, if_pos rfl, if_neg hk]⟩
    · show f1_init_57b (f1_init_57 fu) g F (nI 20) = _
      unfold f1_init_57b
      rw [if_pos (by decide), if_pos b.1]
    · obtain ⟨t1, t2, t3, t4⟩ := b
      refine ⟨t1, t2, t3, fun j hj => ?_⟩
      obtain ⟨u1, u2, u3, u4, u5⟩ := t4 j hj
      exact ⟨u1, u2, by rw [gI_PI, if_neg (by omega)]; exact u3, u4, u5⟩
  | succ k ih =>
    intro i fuel g hi hf hz b h2 hS hl
    obtain ⟨fu, rfl⟩ : ∃ fu, fuel = fu + 1 := ⟨fuel - 1, by omega⟩
    have ci : Int32.toNatClampNeg (nI i) = i := cl_nI (by omega)
    obtain ⟨A, hA⟩ : ∃ A, A = gN g 4 0 (fun _ => 0) := ⟨_, rfl⟩
    obtain ⟨A', hA'⟩ : ∃ A', A' = gPR A (F + 32) i (some (F + 33 + i)) := ⟨_, rfl⟩
    have eA : Ext (F + 33 + i) g A := by rw [hA]; exact Ext.gN (by omega)
    have eA' : Ext (F + 32) A A' := by rw [hA']; exact Ext.pr (Nat.le_refl _)
    have e1 : Ext (F + 32) g A' := (eA.le (by omega)).tr eA'
    have SA : gS A' = gS A := by rw [hA']; rfl
    have sA : gS A (F + 33 + i) = (4, 0) := by rw [hA]; exact gS_gN hz
    have s32 : gS A (F + 32) = (17, 20) := by rw [(eA _ (by omega)).1]; exact hS
    obtain ⟨h, x1, x2, x3, x4, x5, x6, x7, x8, x9, x10⟩ := ih (i + 1) fu A' (by omega) (by omega) (by rw [hA', hA]; show gZ g + 1 = _; omega) (b.ext e1 (by omega)) (by rw [(e1 F (by omega)).2.2]; exact h2) (by rw [SA]; exact s32) (fun j hj => by
      by_cases e : j = i
      · subst e
        exact ⟨by rw [hA', gR_PRs], by rw [SA, sA]⟩
      · obtain ⟨u1, u2⟩ := hl j (by omega)
        exact ⟨by rw [hA', gR_PRo e, (eA (F + 32) (by omega)).2.2]; exact u1, by rw [SA, (eA (F + 33 + j) (by omega)).1]; exact u2⟩)
    refine ⟨h, ?_, x2, x3, x4, x5, x6, (e1.le (by omega)).tr x7, x8.trans (by rw [(e1 F (by omega)).2.2]), x9, fun k hk => (x10 k hk).trans (by rw [(e1 F (by omega)).2.1])⟩
    show f1_init_57b (f1_init_57 fu) g F (nI i) = _
    unfold f1_init_57b gNw f3_init
    rw [if_neg (show ¬ (20 : Int32) ≤ nI i from nI_ge (b := 20) (by omega) (by omega)), if_pos b.1, h2, ob_some, ← hA]
    dsimp only
    rw [hz, ob_some, s32, if_pos rfl, if_pos (ixOk (by omega) (by omega)), if_pos (by rw [sA]), ci, ← hA', nI_1]
    exact x1
theorem i_bees {F : Nat} : ∀ k b fuel : Nat, ∀ g : g_H, b + k = 6 → k < fuel → gZ g = F + 2 + 5 * b → Bz F b g → ∃ h, f1_init_20 fuel g F (nI b) = some h ∧ Flz F g h := by
  intro k
  induction k with
  | zero =>
    intro b fuel g hb hf hz t
    obtain ⟨fu, rfl⟩ : ∃ fu, fuel = fu + 1 := ⟨fuel - 1, by omega⟩
    have : b = 6 := by omega
    subst this
    obtain ⟨A, hA⟩ : ∃ A, A = gN g 17 20 (fun _ => 0) := ⟨_, rfl⟩
    obtain ⟨A', hA'⟩ : ∃ A', A' = gPR A F 2 (some (F + 32)) := ⟨_, rfl⟩
    have hz : gZ g = F + 32 := hz
    have eA : Ext (F + 32) g A := by rw [hA]; exact Ext.gN (by omega)
    have SA : gS A' = gS A := by rw [hA']; rfl
    have sA : gS A (F + 32) = (17, 20) := by rw [hA]; exact gS_gN hz
    have bA : Bz F 6 A := t.ext eA (by omega)
    have bA' : Bz F 6 A' := by
      obtain ⟨t1, t2, t3, t4⟩ := bA
      have o : ∀ a, a ≠ F → gR A' a = gR A a := fun a ha => by rw [hA']; exact gU_o ha
      have i : gI A' = gI A := by rw [hA']; rfl
      refine ⟨by rw [SA]; exact t1, by rw [hA', gR_PRo (by omega)]; exact t2, by rw [SA]; exact t3, fun j hj => ?_⟩
      obtain ⟨u1, u2, u3, u4, ⟨v1, v2, v3, v4, v5, v6, v7⟩⟩ := t4 j hj
      refine ⟨by rw [o _ (by omega)]; exact u1, by rw [SA]; exact u2, by rw [i]; exact u3, by rw [o _ (by omega)]; exact u4, ?_⟩
      unfold RtL
      rw [SA, o _ (by omega)]
      exact ⟨v1, v2, v3, v4, v5, v6, v7⟩
    obtain ⟨h, x1, x2, x3, x4, x5, x6, x7, x8, x9, x10⟩ := i_lets (F := F) 20 0 21 A' (by omega) (by omega) (by rw [hA', hA]; show gZ g + 1 = _; omega) bA' (by rw [hA', gR_PRs]) (by rw [SA]; exact sA) (fun j hj => absurd hj (by omega))
    have e' : Ext F A A' := by rw [hA']; exact Ext.pr (Nat.le_refl _)
    refine ⟨h, ?_, x2, x3, x4, x5, x6, ((eA.le (by omega)).tr e').tr x7, x8.trans (by rw [hA', gR_PRo (by omega), (eA F (by omega)).2.2]), x9, fun k hk => (x10 k hk).trans (by rw [hA', show gI (gPR A F 2 (some (F + 32))) F = gI A F from rfl, (eA F (by omega)).2.1])⟩
    show f1_init_20b (f1_init_20 fu) g F (nI 6) = _
    unfold f1_init_20b gNw
    rw [if_pos (by decide), ← hA]
    dsimp only
    rw [if_pos bA.1, hz, ← hA']
    exact x1
  | succ k ih =>
    intro b fuel g hb hf hz t
    obtain ⟨fu, rfl⟩ : ∃ fu, fuel = fu + 1 := ⟨fuel - 1, by omega⟩
    have cb : Int32.toNatClampNeg (nI b) = b := cl_nI (by omega)
    obtain ⟨A, hA⟩ : ∃ A, A = gN g 1 0 (fun _ => 0) := ⟨_, rfl⟩
    have eA : Ext (F + 2 + 5 * b) g A := by rw [hA]; exact Ext.gN (by omega)
    have sA : gS A (F + 2 + 5 * b) = (1, 0) := by rw [hA]; exact gS_gN hz
    obtain ⟨C, y1, y2, y3, y4, y5, y6, y7⟩ := i_bee (g := A) (B := F + 2 + 5 * b) (x := nI b) (by rw [sA]) (by rw [hA]; show gZ g + 1 = _; omega)
    rw [show F + 2 + 5 * b + 1 = F + 3 + 5 * b by omega] at y4 y6
    have e1 : Ext (F + 2 + 5 * b) g C := eA.tr y7
    obtain ⟨C', hC'⟩ : ∃ C', C' = gPR C (F + 1) b (some (F + 2 + 5 * b)) := ⟨_, rfl⟩
    have SC : gS C' = gS C := by rw [hC']; rfl
    have IC : gI C' = gI C := by rw [hC']; rfl
    have oC : ∀ a, a ≠ F + 1 → gR C' a = gR C a := fun a ha => by rw [hC']; exact gU_o ha
    have bC : Bz F b C := t.ext e1 (by omega)
    have bC' : Bz F (b + 1) C' := by
      obtain ⟨t1, t2, t3, t4⟩ := bC
      refine ⟨by rw [SC]; exact t1, by rw [oC F (by omega)]; exact t2, by rw [SC]; exact t3, fun j hj => ?_⟩
      by_cases e : j = b
      · subst e
        refine ⟨by rw [hC', gR_PRs], by rw [SC]; exact y3, by rw [IC]; exact y5, by rw [oC _ (by omega)]; exact y4, ?_⟩
        unfold RtL
        rw [SC, oC _ (by omega)]
        exact y6
      · obtain ⟨u1, u2, u3, u4, u5⟩ := t4 j (by omega)
        refine ⟨by rw [hC', gR_PRo e]; exact u1, by rw [SC]; exact u2, by rw [IC]; exact u3, by rw [oC _ (by omega)]; exact u4, ?_⟩
        unfold RtL
        rw [SC, oC _ (by omega)]
        exact u5
    obtain ⟨h, x1, x2, x3, x4, x5, x6, x7, x8, x9, x10⟩ := ih (b + 1) fu C' (by omega) (by omega) (by rw [hC']; show gZ C = _; omega) bC'
    have e' : Ext (F + 1) C C' := by rw [hC']; exact Ext.pr (Nat.le_refl _)
    refine ⟨h, ?_, x2, x3, x4, x5, x6, ((e1.le (by omega)).tr (e'.le (by omega))).tr x7, x8.trans (by rw [oC F (by omega), (e1 F (by omega)).2.2]), x9, fun k hk => (x10 k hk).trans (by rw [IC, (e1 F (by omega)).2.1])⟩
    show f1_init_20b (f1_init_20 fu) g F (nI b) = _
    unfold f1_init_20b gNw
    rw [if_neg (show ¬ (6 : Int32) ≤ nI b from nI_ge (b := 6) (by omega) (by omega)), if_pos t.1, t.2.1, ob_some, ← hA]
    dsimp only
    rw [hz, y1, ob_some, bC.2.2.1, if_pos rfl, if_pos (ixOk (by omega) (by omega)), if_pos y3, cb, ← hC', nI_1]
    exact x1
theorem i_flight {g : g_H} {F T : Nat} (h : (gS g F).1 = 2) (hz : gZ g = F + 1) : ∃ h, f1_init g F T = some h ∧ gZ h = F + 53 ∧ Bz F 6 h ∧ gR h F 2 = some (F + 32) ∧ gS h (F + 32) = (17, 20) ∧ (∀ i, i < 20 → gR h (F + 32) i = some (F + 33 + i) ∧ (gS h (F + 33 + i)).1 = 4) ∧ Ext F g h ∧ gR h F 0 = some T ∧ gI h F 7 = -1 ∧ ∀ k, k ≠ 7 → gI h F k = gI g F k := by
  obtain ⟨A, hA⟩ : ∃ A, A = gPR g F 0 (some T) := ⟨_, rfl⟩
  obtain ⟨B, hB⟩ : ∃ B, B = gN A 15 6 (fun _ => 0) := ⟨_, rfl⟩
  obtain ⟨B', hB'⟩ : ∃ B', B' = gPR B F 1 (some (F + 1)) := ⟨_, rfl⟩
  have zA : gZ A = F + 1 := by rw [hA]; exact hz
  have eB : Ext (F + 1) A B := by rw [hB]; exact Ext.gN (by omega)
  have sB : gS B (F + 1) = (15, 6) := by rw [hB]; exact gS_gN zA
  have kB : (gS B F).1 = 2 := by rw [(eB F (by omega)).1, hA]; exact h
  have SB : gS B' = gS B := by rw [hB']; rfl
  obtain ⟨h', x1, x2, x3, x4, x5, x6, x7, x8, x9, x10⟩ := i_bees (F := F) 6 0 7 B' (by omega) (by omega) (by rw [hB', hB]; show gZ A + 1 = _; omega) ⟨by rw [SB]; exact kB, by rw [hB', gR_PRs], by rw [SB]; exact sB, fun j hj => absurd hj (by omega)⟩
  have eA : Ext F g A := by rw [hA]; exact Ext.pr (Nat.le_refl _)
  have eB' : Ext F B B' := by rw [hB']; exact Ext.pr (Nat.le_refl _)
  refine ⟨h', ?_, x2, x3, x4, x5, x6, ((eA.tr (eB.le (by omega))).tr eB').tr x7, x8.trans (by rw [hB', gR_PRo (by omega), (eB F (by omega)).2.2, hA, gR_PRs]), x9, fun k hk => (x10 k hk).trans (by rw [hB', show gI (gPR B F 1 (some (F + 1))) F = gI B F from rfl, (eB F (by omega)).2.1, hA]; rfl)⟩
  unfold f1_init gNw
  rw [if_pos h, ← hA]
  dsimp only
  rw [zA, ← hB, if_pos kB, ← hB']
  exact x1
