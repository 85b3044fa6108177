/-! PURE: the first heap: the object and the model -/
def Ew (lo n : Nat) (g h : g_H) : Prop := ∀ a, lo ≤ a → a < n → gS h a = gS g a ∧ gI h a = gI g a ∧ gR h a = gR g a
theorem Ext.ew {lo n : Nat} {g h : g_H} (x : Ext n g h) : Ew lo n g h := fun a _ ha => x a ha
theorem Ew.tr {lo n : Nat} {g h k : g_H} (x : Ew lo n g h) (y : Ew lo n h k) : Ew lo n g k := fun a h1 h2 => ⟨(y a h1 h2).1.trans (x a h1 h2).1, (y a h1 h2).2.1.trans (x a h1 h2).2.1, (y a h1 h2).2.2.trans (x a h1 h2).2.2⟩
theorem Ew.le {lo l2 n m : Nat} {g h : g_H} (x : Ew lo n g h) (hm : m ≤ n) (hl : lo ≤ l2) : Ew l2 m g h := fun a h1 h2 => x a (by omega) (by omega)
theorem Ew.pr {lo n a k : Nat} {g : g_H} {v : Option Nat} (h : a < lo ∨ n ≤ a) : Ew lo n g (gPR g a k v) := fun b h1 h2 => ⟨rfl, rfl, gU_o (by omega)⟩
theorem Ew.gN {lo n kd k : Nat} {g : g_H} {r : Nat → Int32} (h : n ≤ gZ g) : Ew lo n g (gN g kd k r) := (Ext.gN h).ew
theorem RtL.ew {r lo n : Nat} {g h : g_H} (t : RtL r g) (e : Ew lo n g h) (hn : lo ≤ r) (h3 : r + 3 < n) : RtL r h := by
  obtain ⟨t1, t2, t3, t4, t5, t6, t7⟩ := t
  exact ⟨by rw [(e r (by omega) (by omega)).1]; exact t1, by rw [(e r (by omega) (by omega)).2.2]; exact t2, by rw [(e r (by omega) (by omega)).2.2]; exact t3, by rw [(e r (by omega) (by omega)).2.2]; exact t4, by rw [(e (r + 1) (by omega) (by omega)).1]; exact t5, by rw [(e (r + 2) (by omega) (by omega)).1]; exact t6, by rw [(e (r + 3) (by omega) (by omega)).1]; exact t7⟩
theorem TL.ew {a0 n : Nat} {g h : g_H} (t : TL a0 g) (e : Ew (a0 + 1) n g h) (hh : a0 + 43 ≤ n) : TL a0 h := by
  obtain ⟨t1, t2, t3, t4, t5, t6, t7, t8, t9⟩ := t
  refine ⟨?_, ?_, ?_, ?_, ?_, ?_, ?_, fun i hi => ⟨?_, ?_⟩, fun x hx => ⟨?_, ?_⟩⟩
  · rw [(e _ (by omega) (by omega)).1]; exact t1
  · rw [(e _ (by omega) (by omega)).2.2]; exact t2
  · rw [(e _ (by omega) (by omega)).2.2]; exact t3
  · rw [(e _ (by omega) (by omega)).2.2]; exact t4
  · rw [(e _ (by omega) (by omega)).1]; exact t5
  · rw [(e _ (by omega) (by omega)).1]; exact t6
  · rw [(e _ (by omega) (by omega)).1]; exact t7
  · rw [(e _ (by omega) (by omega)).2.2]; exact (t8 i hi).1
  · rw [(e _ (by omega) (by omega)).1]; exact (t8 i hi).2
  · rw [(e _ (by omega) (by omega)).2.2]; exact (t9 x hx).1
  · rw [(e _ (by omega) (by omega)).1]; exact (t9 x hx).2
/-- a flight as its constructor leaves it -/
def Fz (a0 F : Nat) (g : g_H) : Prop := Bz F 6 g ∧ gR g F 2 = some (F + 32) ∧ gS g (F + 32) = (17, 20) ∧ (∀ i, i < 20 → gR g (F + 32) i = some (F + 33 + i) ∧ (gS g (F + 33 + i)).1 = 4) ∧ gR g F 0 = some (a0 + 1) ∧ gI g F 7 = -1 ∧ ∀ k, k ≠ 7 → gI g F k = 0
theorem Fz.ew {a0 F lo n : Nat} {g h : g_H} (t : Fz a0 F g) (e : Ew lo n g h) (h1 : lo ≤ F) (h2 : F + 53 ≤ n) : Fz a0 F h := by
  obtain ⟨⟨b1, b2, b3, b4⟩, t2, t3, t4, t5, t6, t7⟩ := t
  refine ⟨⟨by rw [(e F (by omega) (by omega)).1]; exact b1, by rw [(e F (by omega) (by omega)).2.2]; exact b2, by rw [(e (F + 1) (by omega) (by omega)).1]; exact b3, fun j hj => ?_⟩, by rw [(e F (by omega) (by omega)).2.2]; exact t2, by rw [(e (F + 32) (by omega) (by omega)).1]; exact t3, fun i hi => ⟨by rw [(e (F + 32) (by omega) (by omega)).2.2]; exact (t4 i hi).1, by rw [(e (F + 33 + i) (by omega) (by omega)).1]; exact (t4 i hi).2⟩, by rw [(e F (by omega) (by omega)).2.2]; exact t5, by rw [(e F (by omega) (by omega)).2.1]; exact t6, fun k hk => by rw [(e F (by omega) (by omega)).2.1]; exact t7 k hk⟩
  obtain ⟨u1, u2, u3, u4, u5⟩ := b4 j hj
  exact ⟨by rw [(e (F + 1) (by omega) (by omega)).2.2]; exact u1, by rw [(e (F + 2 + 5 * j) (by omega) (by omega)).1]; exact u2, by rw [(e (F + 2 + 5 * j) (by omega) (by omega)).2.1]; exact u3, by rw [(e (F + 2 + 5 * j) (by omega) (by omega)).2.2]; exact u4, u5.ew e (by omega) (by omega)⟩
theorem Fz.fl {a0 F : Nat} {g : g_H} (t : Fz a0 F g) : FL a0 F g := by
  obtain ⟨⟨b1, b2, b3, b4⟩, t2, t3, t4, t5, t6, t7⟩ := t
  exact ⟨b1, t5, b2, t2, b3, t3, fun b hb => ⟨(b4 b hb).1, (b4 b hb).2.1⟩, t4⟩
/-- the table of a new object -/
def sz : Sg := fun t x y => if t = 6 then (if x = y then 0 else 1000) else 0
theorem sz_o {t i k : Nat} (h : t ≠ 6) : sz t i k = 0 := if_neg h
theorem sz_car {b : Nat} : car sz b = 0 := by
  rw [car_def (n4 := 0) (sz_o (by omega)) (by omega)]
  rfl
theorem sz_arr : arr sz = 0 := by
  rw [arr_def (n4 := 0) (sz_o (by omega)) (by omega)]
  rfl
theorem sz_WF : WF sz 0 0 0 0 0 := by
  refine ⟨⟨sz_o (by omega), by omega, sz_o (by omega), by omega, fun i hi => absurd hi (by omega), fun h hh => Or.inl (sz_o (by omega)), fun x y hx => absurd hx (by omega)⟩, sz_o (by omega), by omega, sz_o (by omega), by omega, sz_o (by omega), by decide, fun b hb => absurd hb (by omega), fun i hi => absurd hi (by omega)⟩
theorem sz_Ws : Ws sz 0 0 := by
  refine ⟨fun x y => if x = y then 0 else 1000, fun _ _ => 0, fun x y hx hy => ?_, fun i hi => absurd hi (by omega), fun i hi => absurd hi (by omega), fun i hi => absurd hi (by omega), ⟨fun x hx => absurd hx (by omega), fun x z y l hx => absurd hx (by omega), fun x y hx => absurd hx (by omega), fun x y hx => absurd hx (by omega)⟩, fun x hx => if_pos rfl, fun x y hx hy hne _ => if_neg hne⟩
  show (if (6 : Nat) = 6 then (if x = y then (0 : Int32) else 1000) else 0) = nI (if x = y then 0 else 1000) ∧ (if x = y then 0 else 1000) ≤ 1000
  rw [if_pos rfl]
  by_cases e : x = y
  · rw [if_pos e, if_pos e]; exact ⟨rfl, by omega⟩
  · rw [if_neg e, if_neg e]; exact ⟨rfl, by omega⟩
theorem i_obj {g : g_H} {a0 : Nat} (h : (gS g a0).1 = 7) (hz : gZ g = a0 + 1) : ∃ h, f6_init g a0 = some h ∧ gZ h = a0 + 153 ∧ ClI a0 h sz 0 0 0 0 0 := by
  obtain ⟨A, hA⟩ : ∃ A, A = gN g 6 0 (fun _ => 0) := ⟨_, rfl⟩
  have zA : gZ A = a0 + 2 := by rw [hA]; show gZ g + 1 = _; omega
  have eA : Ext (a0 + 1) g A := by rw [hA]; exact Ext.gN (by omega)
  have sA : gS A (a0 + 1) = (6, 0) := by rw [hA]; exact gS_gN hz
  have iA : gI A (a0 + 1) = fun _ => 0 := by rw [hA]; exact gI_gN hz
  obtain ⟨B, b1, b2, b3, b4, b5, b6, b7⟩ := i_town (g := A) (a0 := a0) (by rw [sA]) zA
  obtain ⟨B', hB'⟩ : ∃ B', B' = gPR B a0 0 (some (a0 + 1)) := ⟨_, rfl⟩
  have kB : (gS B a0).1 = 7 := by rw [(b4 a0 (by omega)).1, (eA a0 (by omega)).1]; exact h
  have zB' : gZ B' = a0 + 43 := by rw [hB']; exact b2
  have wB : Ew (a0 + 1) (a0 + 43) B B' := by rw [hB']; exact Ew.pr (Or.inl (by omega))
  obtain ⟨C, hC⟩ : ∃ C, C = gN B' 2 0 (fun _ => 0) := ⟨_, rfl⟩
  have zC : gZ C = a0 + 43 + 1 := by rw [hC]; show gZ B' + 1 = _; omega
  have eC : Ext (a0 + 43) B' C := by rw [hC]; exact Ext.gN (by omega)
  have sC : gS C (a0 + 43) = (2, 0) := by rw [hC]; exact gS_gN zB'
  have iC : gI C (a0 + 43) = fun _ => 0 := by rw [hC]; exact gI_gN zB'
  obtain ⟨D, d1, d2, d3, d4, d5, d6, d7, d8, d9, d10⟩ := i_flight (g := C) (F := a0 + 43) (T := a0 + 1) (by rw [sC]) zC
  have fD : Fz a0 (a0 + 43) D := ⟨d3, d4, d5, d6, d8, d9, fun k hk => (d10 k hk).trans (by rw [iC])⟩
  obtain ⟨D', hD'⟩ : ∃ D', D' = gPR D a0 1 (some (a0 + 43)) := ⟨_, rfl⟩
  have kC : (gS C a0).1 = 7 := by rw [(eC a0 (by omega)).1, hB']; exact kB
  have kD : (gS D a0).1 = 7 := by rw [(d7 a0 (by omega)).1]; exact kC
  have zD' : gZ D' = a0 + 96 := by rw [hD']; exact d2
  obtain ⟨E, hE⟩ : ∃ E, E = gN D' 2 0 (fun _ => 0) := ⟨_, rfl⟩
  have zE : gZ E = a0 + 96 + 1 := by rw [hE]; show gZ D' + 1 = _; omega
  have eE : Ext (a0 + 96) D' E := by rw [hE]; exact Ext.gN (by omega)
  have sE : gS E (a0 + 96) = (2, 0) := by rw [hE]; exact gS_gN zD'
  have iE : gI E (a0 + 96) = fun _ => 0 := by rw [hE]; exact gI_gN zD'
  obtain ⟨G, g1, g2, g3, g4, g5, g6, g7, g8, g9, g10⟩ := i_flight (g := E) (F := a0 + 96) (T := a0 + 1) (by rw [sE]) zE
  have fG : Fz a0 (a0 + 96) G := ⟨g3, g4, g5, g6, g8, g9, fun k hk => (g10 k hk).trans (by rw [iE])⟩
  obtain ⟨G', hG'⟩ : ∃ G', G' = gPR G a0 2 (some (a0 + 96)) := ⟨_, rfl⟩
  have kE : (gS E a0).1 = 7 := by rw [(eE a0 (by omega)).1, hD']; exact kD
  have kG : (gS G a0).1 = 7 := by rw [(g7 a0 (by omega)).1]; exact kE
  have zG' : gZ G' = a0 + 149 := by rw [hG']; exact g2
  obtain ⟨K, hK⟩ : ∃ K, K = gN G' 5 0 (fun _ => 0) := ⟨_, rfl⟩
  have zK : gZ K = a0 + 149 + 1 := by rw [hK]; show gZ G' + 1 = _; omega
  have eK : Ext (a0 + 149) G' K := by rw [hK]; exact Ext.gN (by omega)
  have sK : gS K (a0 + 149) = (5, 0) := by rw [hK]; exact gS_gN zG'
  obtain ⟨L, l1, l2, l3, l4, l5⟩ := i_route (g := K) (r := a0 + 149) (by rw [sK]) zK
  obtain ⟨L', hL'⟩ : ∃ L', L' = gPR L a0 3 (some (a0 + 149)) := ⟨_, rfl⟩
  have kK : (gS K a0).1 = 7 := by rw [(eK a0 (by omega)).1, hG']; exact kG
  have kL : (gS L a0).1 = 7 := by rw [(l4 a0 (by omega)).1]; exact kK
  -- from each step to the end
  have wL : Ew (a0 + 1) (a0 + 149) L L' := by rw [hL']; exact Ew.pr (Or.inl (by omega))
  have wL' : Ew (a0 + 1) (a0 + 153) L L' := by rw [hL']; exact Ew.pr (Or.inl (by omega))
  have wG : Ew (a0 + 1) (a0 + 149) G L' := by
    have w1 : Ew (a0 + 1) (a0 + 149) G G' := by rw [hG']; exact Ew.pr (Or.inl (by omega))
    exact ((w1.tr eK.ew).tr l4.ew).tr wL
  have wD : Ew (a0 + 1) (a0 + 96) D L' := by
    have w1 : Ew (a0 + 1) (a0 + 96) D D' := by rw [hD']; exact Ew.pr (Or.inl (by omega))
    exact ((w1.tr eE.ew).tr g7.ew).tr (wG.le (by omega) (Nat.le_refl _))
  have wBL : Ew (a0 + 1) (a0 + 43) B L' := ((wB.tr eC.ew).tr d7.ew).tr (wD.le (by omega) (Nat.le_refl _))
  have fF : Fz a0 (a0 + 43) L' := fD.ew wD (by omega) (by omega)
  have fA : Fz a0 (a0 + 96) L' := fG.ew wG (by omega) (by omega)
  have tF : TL a0 L' := b3.ew wBL (by omega)
  have i1 : gI L' (a0 + 1) = fun _ => 0 := by rw [(wBL _ (by omega) (by omega)).2.1, b5, iA]
  have rK : gR L' a0 3 = some (a0 + 149) := by rw [hL', gR_PRs]
  have rL : ∀ k, k ≠ 3 → gR L' a0 k = gR K a0 k := fun k hk => by rw [hL', gR_PRo hk, (l4 a0 (by omega)).2.2]
  have rG : ∀ k, gR K a0 k = gR G' a0 k := fun k => by rw [(eK a0 (by omega)).2.2]
  have rE : ∀ k, gR G a0 k = gR D' a0 k := fun k => by rw [(g7 a0 (by omega)).2.2, (eE a0 (by omega)).2.2]
  have rC : ∀ k, gR D a0 k = gR B' a0 k := fun k => by rw [(d7 a0 (by omega)).2.2, (eC a0 (by omega)).2.2]
  refine ⟨L', ?_, by rw [hL']; exact l2, ⟨sz_WF, ⟨Or.inl rfl, tF, fF.fl, fun b hb => ?_, ⟨?_, ?_, fun x hx => ?_, fun i hi => absurd hi (by omega), fun x y hx hy => ?_⟩, fun b hb => absurd hb (by omega)⟩, ⟨⟨?_, ?_, ?_⟩, fun b hb => absurd hb (by omega), fun b hb => absurd hb (by omega), ?_, fun i hi => absurd hi (by omega)⟩⟩, ⟨?_, ?_, ?_, ?_, rK, fA.fl, l3.ew wL' (by omega) (by omega), fun b hb => ⟨?_, ?_, ?_⟩⟩, fF.2.2.2.2.2.1, sz_Ws⟩
  · unfold f6_init gNw
    rw [hz, ← hA]
    dsimp only
    rw [b1, ob_some, if_pos kB, ← hB', zB', ← hC, if_pos kC, show gR C a0 0 = some (a0 + 1) by rw [(eC a0 (by omega)).2.2, hB', gR_PRs], ob_some, d1, ob_some, if_pos kD, ← hD', zD', ← hE, if_pos kE, show gR E a0 0 = some (a0 + 1) by rw [(eE a0 (by omega)).2.2, hD', gR_PRo (by omega), rC, hB', gR_PRs], ob_some, g1, ob_some, if_pos kG, ← hG', zG', ← hK, l1, ob_some, if_pos kL, ← hL']
  · have := (fF.1.2.2.2 b hb).2.2.2.2
    rw [show a0 + 43 + 3 + 5 * b = a0 + 46 + 5 * b by omega] at this
    exact this
  · rw [i1, sz_o (by omega)]
  · rw [i1, sz_o (by omega)]
  · rw [(wBL _ (by omega) (by omega)).2.1, b6 x hx, sz_o (by omega)]
  · rw [(wBL _ (by omega) (by omega)).2.1, b7 x y hx hy]
    exact (if_pos rfl).symm
  · rw [fF.2.2.2.2.2.2 3 (by omega), sz_o (by omega)]
  · rw [fF.2.2.2.2.2.2 4 (by omega), sz_o (by omega)]
  · rw [fF.2.2.2.2.2.2 5 (by omega), sz_o (by omega)]
  · unfold R5; rw [fF.2.2.2.2.2.2 6 (by omega), sz_arr]
  · rw [hL']; exact kL
  · rw [rL 0 (by omega), rG, hG', gR_PRo (by omega), rE, hD', gR_PRo (by omega), rC, hB', gR_PRs]
  · rw [rL 1 (by omega), rG, hG', gR_PRo (by omega), rE, hD', gR_PRs]
  · rw [rL 2 (by omega), rG, hG', gR_PRs]
  · have := (fF.1.2.2.2 b hb).2.2.2.1
    rw [show a0 + 43 + 3 + 5 * b = a0 + 46 + 5 * b by omega] at this
    exact this
  · exact (fF.1.2.2.2 b hb).2.2.1
  · exact (fA.1.2.2.2 b hb).2.2.1
theorem i_model {g : g_H} {M : Nat} (h : (gS g M).1 = 8) (hz : gZ g = M + 1) (h0 : ∀ k, gI g M k = 0) : ∃ h, f7_init g M = some h ∧ gZ h = M + 9 ∧ Ext M g h ∧ MX M h sz 0 0 0 0 := by
  obtain ⟨A1, hA1⟩ : ∃ A, A = gN g 12 14 (fun _ => 0) := ⟨_, rfl⟩
  obtain ⟨B1, hB1⟩ : ∃ A, A = gPR A1 M 2 (some (M + 1)) := ⟨_, rfl⟩
  obtain ⟨A2, hA2⟩ : ∃ A, A = gN B1 11 120 (fun _ => 0) := ⟨_, rfl⟩
  obtain ⟨B2, hB2⟩ : ∃ A, A = gPR A2 M 4 (some (M + 2)) := ⟨_, rfl⟩
  obtain ⟨A3, hA3⟩ : ∃ A, A = gN B2 11 196 (fun _ => 0) := ⟨_, rfl⟩
  obtain ⟨B3, hB3⟩ : ∃ A, A = gPR A3 M 5 (some (M + 3)) := ⟨_, rfl⟩
  obtain ⟨A4, hA4⟩ : ∃ A, A = gN B3 11 48 (fun _ => 0) := ⟨_, rfl⟩
  obtain ⟨B4, hB4⟩ : ∃ A, A = gPR A4 M 7 (some (M + 4)) := ⟨_, rfl⟩
  obtain ⟨A5, hA5⟩ : ∃ A, A = gN B4 11 42 (fun _ => 0) := ⟨_, rfl⟩
  obtain ⟨B5, hB5⟩ : ∃ A, A = gPR A5 M 8 (some (M + 5)) := ⟨_, rfl⟩
  obtain ⟨A6, hA6⟩ : ∃ A, A = gN B5 11 100 (fun _ => 0) := ⟨_, rfl⟩
  obtain ⟨B6, hB6⟩ : ∃ A, A = gPR A6 M 10 (some (M + 6)) := ⟨_, rfl⟩
  obtain ⟨A7, hA7⟩ : ∃ A, A = gN B6 11 1 (fun _ => 0) := ⟨_, rfl⟩
  obtain ⟨P7, hP7⟩ : ∃ A, A = gPI A7 (M + 7) 0 0 := ⟨_, rfl⟩
  obtain ⟨B7, hB7⟩ : ∃ A, A = gPR P7 M 11 (some (M + 7)) := ⟨_, rfl⟩
  obtain ⟨A8, hA8⟩ : ∃ A, A = gN B7 11 7 (fun _ => 0) := ⟨_, rfl⟩
  obtain ⟨B8, hB8⟩ : ∃ A, A = gPR A8 M 12 (some (M + 8)) := ⟨_, rfl⟩
  have z1 : gZ B1 = M + 2 := by rw [hB1, hA1]; show gZ g + 1 = _; omega
  have z2 : gZ B2 = M + 3 := by rw [hB2, hA2]; show gZ B1 + 1 = _; omega
  have z3 : gZ B3 = M + 4 := by rw [hB3, hA3]; show gZ B2 + 1 = _; omega
  have z4 : gZ B4 = M + 5 := by rw [hB4, hA4]; show gZ B3 + 1 = _; omega
  have z5 : gZ B5 = M + 6 := by rw [hB5, hA5]; show gZ B4 + 1 = _; omega
  have z6 : gZ B6 = M + 7 := by rw [hB6, hA6]; show gZ B5 + 1 = _; omega
  have z7 : gZ B7 = M + 8 := by rw [hB7, hP7, hA7]; show gZ B6 + 1 = _; omega
  have z8 : gZ B8 = M + 9 := by rw [hB8, hA8]; show gZ B7 + 1 = _; omega
  -- each step keeps what lies below
  have st : ∀ (X Y Z : g_H) (kd n k : Nat) (v : Option Nat) (r : Nat → Int32), Y = gN X kd n r → Z = gPR Y M k v → (∀ a, a < gZ X → gS Z a = gS X a ∧ gI Z a = gI X a) ∧ (∀ a, a < gZ X → a ≠ M → gR Z a = gR X a) ∧ (M < gZ X → (gR Z M k = v ∧ ∀ j, j ≠ k → gR Z M j = gR X M j)) ∧ gS Z (gZ X) = (kd, n) ∧ gI Z (gZ X) = r := by
    intro X Y Z kd n k v r hY hZ
    subst hY; subst hZ
    refine ⟨fun a ha => ?_, fun a ha hne => ?_, fun hM => ⟨gR_PRs, fun j hj => ?_⟩, gS_gN (g := X) (r := r) rfl, gI_gN (g := X) (kd := kd) (n := n) rfl⟩
    · obtain ⟨o1, o2, o3⟩ := gN_o (g := X) (kd := kd) (n := n) (r := r) (a := a) (by omega)
      exact ⟨o1, o2⟩
    · obtain ⟨o1, o2, o3⟩ := gN_o (g := X) (kd := kd) (n := n) (r := r) (a := a) (by omega)
      exact (gU_o hne).trans o3
    · obtain ⟨o1, o2, o3⟩ := gN_o (g := X) (kd := kd) (n := n) (r := r) (a := M) (by omega)
      rw [gR_PRo hj, o3]
  obtain ⟨a1, r1, m1, k1, c1⟩ := st g A1 B1 12 14 2 _ _ hA1 hB1
  obtain ⟨a2, r2, m2, k2, c2⟩ := st B1 A2 B2 11 120 4 _ _ hA2 hB2
  obtain ⟨a3, r3, m3, k3, c3⟩ := st B2 A3 B3 11 196 5 _ _ hA3 hB3
  obtain ⟨a4, r4, m4, k4, c4⟩ := st B3 A4 B4 11 48 7 _ _ hA4 hB4
  obtain ⟨a5, r5, m5, k5, c5⟩ := st B4 A5 B5 11 42 8 _ _ hA5 hB5
  obtain ⟨a6, r6, m6, k6, c6⟩ := st B5 A6 B6 11 100 10 _ _ hA6 hB6
  have hP7e : P7 = A7 := by
    rw [hP7]
    refine Prod.ext rfl (Prod.ext ?_ rfl)
    show gU (gI A7) (M + 7) 0 0 = gI A7
    funext b j
    show (if b = M + 7 then (if j = 0 then 0 else gI A7 b j) else gI A7 b j) = gI A7 b j
    by_cases e : b = M + 7
    · rw [if_pos e]
      by_cases e2 : j = 0
      · rw [if_pos e2, e, e2, hA7, show gI (gN B6 11 1 (fun _ => 0)) (M + 7) = fun _ => 0 from gI_gN z6]
      · rw [if_neg e2]
    · rw [if_neg e]
  obtain ⟨a7, r7, m7, k7, c7⟩ := st B6 A7 B7 11 1 11 _ _ hA7 (by rw [hB7, hP7e])
  obtain ⟨a8, r8, m8, k8, c8⟩ := st B7 A8 B8 11 7 12 _ _ hA8 hB8
  rw [hz] at a1 r1 m1 k1 c1
  rw [z1] at a2 r2 m2 k2 c2
  rw [z2] at a3 r3 m3 k3 c3
  rw [z3] at a4 r4 m4 k4 c4
  rw [z4] at a5 r5 m5 k5 c5
  rw [z5] at a6 r6 m6 k6 c6
  rw [z6] at a7 r7 m7 k7 c7
  rw [z7] at a8 r8 m8 k8 c8
  obtain ⟨m1, n1⟩ := m1 (by omega)
  obtain ⟨m2, n2⟩ := m2 (by omega)
  obtain ⟨m3, n3⟩ := m3 (by omega)
  obtain ⟨m4, n4⟩ := m4 (by omega)
  obtain ⟨m5, n5⟩ := m5 (by omega)
  obtain ⟨m6, n6⟩ := m6 (by omega)
  obtain ⟨m7, n7⟩ := m7 (by omega)
  obtain ⟨m8, n8⟩ := m8 (by omega)
  have kM : ∀ X : g_H, gS X M = gS g M → (gS X M).1 = 8 := fun X e => by rw [e]; exact h
  have q1 : gS B1 M = gS g M := (a1 M (by omega)).1
  have q2 : gS B2 M = gS g M := (a2 M (by omega)).1.trans q1
  have q3 : gS B3 M = gS g M := (a3 M (by omega)).1.trans q2
  have q4 : gS B4 M = gS g M := (a4 M (by omega)).1.trans q3
  have q5 : gS B5 M = gS g M := (a5 M (by omega)).1.trans q4
  have q6 : gS B6 M = gS g M := (a6 M (by omega)).1.trans q5
  have q7 : gS B7 M = gS g M := (a7 M (by omega)).1.trans q6
  have q8 : gS B8 M = gS g M := (a8 M (by omega)).1.trans q7
  have zero : ∀ k, gI B8 M k = 0 := fun k => by
    rw [(a8 M (by omega)).2, (a7 M (by omega)).2, (a6 M (by omega)).2, (a5 M (by omega)).2, (a4 M (by omega)).2, (a3 M (by omega)).2, (a2 M (by omega)).2, (a1 M (by omega)).2]
    exact h0 k
  refine ⟨B8, ?_, z8, fun a ha => ⟨?_, ?_, ?_⟩, ⟨kM B8 q8, ⟨?_, ?_, ?_, ?_, ?_, ?_, ?_, m8⟩, ?_, ?_, ?_, ?_, ?_, ?_, ?_, k8⟩, ⟨?_, ?_, ?_, ?_⟩, ⟨fun x hx => ?_, fun i hi => absurd hi (by omega), fun x y hx => absurd hx (by omega), fun b hb => absurd hb (by omega)⟩, ⟨fun b hb => absurd hb (by omega), fun i hi => absurd hi (by omega), ?_⟩⟩
  · have eA : ∀ X Y : g_H, (∃ k v, Y = gPR X M k v) → gS X = gS Y := fun X Y ⟨k, v, e⟩ => by rw [e]; rfl
    have s1 : (gS A1 M).1 = 8 := by rw [eA A1 B1 ⟨_, _, hB1⟩]; exact kM _ q1
    have s2 : (gS A2 M).1 = 8 := by rw [eA A2 B2 ⟨_, _, hB2⟩]; exact kM _ q2
    have s3 : (gS A3 M).1 = 8 := by rw [eA A3 B3 ⟨_, _, hB3⟩]; exact kM _ q3
    have s4 : (gS A4 M).1 = 8 := by rw [eA A4 B4 ⟨_, _, hB4⟩]; exact kM _ q4
    have s5 : (gS A5 M).1 = 8 := by rw [eA A5 B5 ⟨_, _, hB5⟩]; exact kM _ q5
    have s6 : (gS A6 M).1 = 8 := by rw [eA A6 B6 ⟨_, _, hB6⟩]; exact kM _ q6
    have e7 : gS A7 = gS B7 := by rw [hB7, hP7e]; rfl
    have s7 : (gS A7 M).1 = 8 := by rw [e7]; exact kM _ q7
    have s8 : (gS A8 M).1 = 8 := by rw [eA A8 B8 ⟨_, _, hB8⟩]; exact kM _ q8
    have k7' : gS A7 (M + 7) = (11, 1) := by rw [e7]; exact k7
    unfold f7_init gNw
    rw [hz, ← hA1]
    dsimp only
    rw [if_pos s1, ← hB1, z1, ← hA2, if_pos s2, ← hB2, z2, ← hA3, if_pos s3, ← hB3, z3, ← hA4, if_pos s4, ← hB4, z4, ← hA5, if_pos s5, ← hB5, z5, ← hA6, if_pos s6, ← hB6, z6, ← hA7, k7', if_pos (by decide), if_pos s7, show Int32.toNatClampNeg (0 : Int32) = 0 from rfl, ← hP7, ← hB7, z7, ← hA8, if_pos s8, ← hB8]
  · rw [(a8 a (by omega)).1, (a7 a (by omega)).1, (a6 a (by omega)).1, (a5 a (by omega)).1, (a4 a (by omega)).1, (a3 a (by omega)).1, (a2 a (by omega)).1, (a1 a (by omega)).1]
  · rw [(a8 a (by omega)).2, (a7 a (by omega)).2, (a6 a (by omega)).2, (a5 a (by omega)).2, (a4 a (by omega)).2, (a3 a (by omega)).2, (a2 a (by omega)).2, (a1 a (by omega)).2]
  · rw [r8 a (by omega) (by omega), r7 a (by omega) (by omega), r6 a (by omega) (by omega), r5 a (by omega) (by omega), r4 a (by omega) (by omega), r3 a (by omega) (by omega), r2 a (by omega) (by omega), r1 a (by omega) (by omega)]
  · rw [n8 2 (by omega), n7 2 (by omega), n6 2 (by omega), n5 2 (by omega), n4 2 (by omega), n3 2 (by omega), n2 2 (by omega), m1]
  · rw [n8 4 (by omega), n7 4 (by omega), n6 4 (by omega), n5 4 (by omega), n4 4 (by omega), n3 4 (by omega), m2]
  · rw [n8 5 (by omega), n7 5 (by omega), n6 5 (by omega), n5 5 (by omega), n4 5 (by omega), m3]
  · rw [n8 7 (by omega), n7 7 (by omega), n6 7 (by omega), n5 7 (by omega), m4]
  · rw [n8 8 (by omega), n7 8 (by omega), n6 8 (by omega), m5]
  · rw [n8 10 (by omega), n7 10 (by omega), m6]
  · rw [n8 11 (by omega), m7]
  · rw [(a8 (M + 1) (by omega)).1, (a7 (M + 1) (by omega)).1, (a6 (M + 1) (by omega)).1, (a5 (M + 1) (by omega)).1, (a4 (M + 1) (by omega)).1, (a3 (M + 1) (by omega)).1, (a2 (M + 1) (by omega)).1, k1]
  · rw [(a8 (M + 2) (by omega)).1, (a7 (M + 2) (by omega)).1, (a6 (M + 2) (by omega)).1, (a5 (M + 2) (by omega)).1, (a4 (M + 2) (by omega)).1, (a3 (M + 2) (by omega)).1, k2]
  · rw [(a8 (M + 3) (by omega)).1, (a7 (M + 3) (by omega)).1, (a6 (M + 3) (by omega)).1, (a5 (M + 3) (by omega)).1, (a4 (M + 3) (by omega)).1, k3]
  · rw [(a8 (M + 4) (by omega)).1, (a7 (M + 4) (by omega)).1, (a6 (M + 4) (by omega)).1, (a5 (M + 4) (by omega)).1, k4]
  · rw [(a8 (M + 5) (by omega)).1, (a7 (M + 5) (by omega)).1, (a6 (M + 5) (by omega)).1, k5]
  · rw [(a8 (M + 6) (by omega)).1, (a7 (M + 6) (by omega)).1, k6]
  · rw [(a8 (M + 7) (by omega)).1, k7]
  · rw [zero, sz_o (by omega)]
  · rw [zero, sz_o (by omega)]
  · rw [zero, sz_o (by omega)]
  · rw [zero, sz_o (by omega)]
  · rw [(a8 (M + 1) (by omega)).2, (a7 (M + 1) (by omega)).2, (a6 (M + 1) (by omega)).2, (a5 (M + 1) (by omega)).2, (a4 (M + 1) (by omega)).2, (a3 (M + 1) (by omega)).2, (a2 (M + 1) (by omega)).2, c1, sz_o (by omega)]
  · rw [(a8 (M + 7) (by omega)).2, c7, sz_o (by omega)]
