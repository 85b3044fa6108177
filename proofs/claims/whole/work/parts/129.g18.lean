/-! PURE: advise, the class -/
theorem ClI.ax {a0 n1 n2 n3 n4 q : Nat} {g h : g_H} {s : Sg} (I : ClI a0 g s n1 n2 n3 n4 q) (hS : gS h = gS g) (hR : gR h = gR g) (hI : ∀ a, a0 ≤ a → a ≤ a0 + 95 → gI h a = gI g a) (h0 : ∀ a, gI h a 0 = gI g a 0) : ClI a0 h s n1 n2 n3 n4 q := by
  have ag : Ag a0 (a0 + 95) g h := fun a h1 h2 => ⟨by rw [hS], by rw [hR], hI a h1 h2⟩
  obtain ⟨w1, w2, w3, w4⟩ := I
  refine ⟨w1.ag ag (by omega) (by omega), ?_, by rw [(ag (a0 + 43) (by omega) (by omega)).2.2]; exact w3, w4⟩
  obtain ⟨t1, t2, t3, t4, t5, t6, t7, t8⟩ := w2
  refine ⟨by rw [hS]; exact t1, by rw [hR]; exact t2, by rw [hR]; exact t3, by rw [hR]; exact t4, by rw [hR]; exact t5, ?_, ?_, fun b hb => ?_⟩
  · unfold FL; rw [hS, hR]; exact t6
  · unfold RtL; rw [hS, hR]; exact t7
  · rw [hR, h0, h0]; exact t8 b hb
theorem ClI.ah {a0 n1 n2 n3 n4 q : Nat} {g h : g_H} {s : Sg} (I : ClI a0 g s n1 n2 n3 n4 q) (f : Fr (a0 + 96) g h) : ClI a0 h s n1 n2 n3 n4 q :=
  I.ax f.1 f.2.1 (fun a h1 h2 => f.2.2.2.2.2 a (by
    intro hc
    rcases hc with h | ⟨b, hb, h⟩ | ⟨i, hi, h⟩ <;> omega)) f.2.2.2.2.1.2
theorem WF.gt {s : Sg} {n1 n2 n3 n4 q l : Nat} (w : WF s n1 n2 n3 n4 q) : WF (gtS s l 0 24) n1 n2 n3 n4 q := by
  obtain ⟨w1, w2, w3, w4, w5, w6, w7, w8, w9⟩ := w
  have T : ∀ k, k ≠ 2 → gtS s l 0 24 k = s k := fun k hk => gt_T hk
  refine ⟨gt_WT (f := 0) (t := 24) w1 (by omega) (by omega) (by omega), by rw [T 0 (by omega)]; exact w2, w3, by rw [T 0 (by omega)]; exact w4, w5, by rw [T 0 (by omega)]; exact w6, w7, fun b hb => ⟨?_, by rw [car_5 (T 5 (by omega)) (T 0 (by omega))]; exact (w8 b hb).2⟩, fun i hi => by unfold WL; rw [T 5 (by omega)]; exact w9 i hi⟩
  obtain ⟨z, p, l', st, ho, e1, e2, e3, e4, e5, e6, e7, e8, e9, e10, e11, e12, e13, e14, e15⟩ := (w8 b hb).1
  refine ⟨z, p, l', st, ho, by rw [T 3 (by omega)]; exact e1, e2, e3, by rw [T 3 (by omega)]; exact e4, e5, by rw [T 3 (by omega)]; exact e6, e7, by rw [T 3 (by omega)]; exact e8, e9, by rw [T 3 (by omega)]; exact e10, e11, by rw [T 3 (by omega)]; exact e12, by rw [T 3 (by omega)]; exact e13, by rw [T 4 (by omega)]; exact e14, fun k hk => ?_⟩
  rw [T 4 (by omega), gt_sl]
  exact e15 k hk
theorem CI.gt {a0 F n1 n2 n3 n4 q l : Nat} {g : g_H} {s : Sg} (c : CI a0 F g s n1 n2 n3 n4 q) (h7 : gI g F 7 = -1) (hl : l < n2) : CI a0 F (gPI g F 7 (nI l)) (gtS s l 0 24) n1 n2 n3 n4 q := by
  obtain ⟨w, ⟨r0, r1, r2, r3, r4, r5⟩, ⟨d1, d2, d3, d4, d5⟩⟩ := c
  have hn3 := w.2.2.1
  have hn2 := w.1.2.2.2.1
  have hn4 := w.2.2.2.2.1
  have T : ∀ k, k ≠ 2 → gtS s l 0 24 k = s k := fun k hk => gt_T hk
  have o : ∀ a, a ≠ F → gI (gPI g F 7 (nI l)) a = gI g a := fun a ha => gU_o ha
  have oF : ∀ k, k ≠ 7 → gI (gPI g F 7 (nI l)) F k = gI g F k := fun k hk => by rw [gI_PI, if_pos rfl, if_neg hk]
  refine ⟨w.gt, ⟨r0, r1, r2, r3, ?_, fun b hb => ?_⟩, ⟨?_, fun b hb => ?_, fun b hb => ?_, ?_, fun i hi k hk => ?_⟩⟩
  · obtain ⟨q1, q2, q3, q4, q5⟩ := r4
    refine ⟨?_, ?_, fun x hx => ?_, fun i hi => ?_, fun x y hx hy => ?_⟩
    · rw [o _ (by omega), T 0 (by omega)]; exact q1
    · rw [o _ (by omega), T 0 (by omega)]; exact q2
    · rw [o _ (by omega), T 1 (by omega)]; exact q3 x hx
    · rw [o (a0 + 4 + i) (by omega), show gI (gPI g F 7 (nI l)) F 7 = nI l by simp [gI_PI]]
      obtain ⟨x1, x2, x3⟩ := q4 i hi
      refine ⟨fun k hk => by rw [gt_k hk]; exact x1 k hk, fun e => ?_, fun e => ?_⟩
      · have : i = l := nI_inj (by omega) (by omega) e
        rw [this, gt_3, gt_4]
        exact ⟨rfl, rfl⟩
      · have : i ≠ l := fun w => e (by rw [w])
        rw [gt_o this, gt_o this]
        exact x3 (by rw [h7]; exact nI_m1 (by omega))
    · rw [o _ (by omega), T 6 (by omega)]; exact q5 x y hx hy
  · obtain ⟨x1, x2, x3, x4⟩ := r5 b hb
    rw [T 3 (by omega), T 4 (by omega), o (a0 + 46 + 5 * b) (by omega), o (a0 + 47 + 5 * b) (by omega), o (a0 + 48 + 5 * b) (by omega), o (a0 + 49 + 5 * b) (by omega)]
    refine ⟨x1, x2, fun k hk => by rw [gt_sl]; exact x3 k hk, fun x hx => by rw [gt_tg]; exact x4 x hx⟩
  · unfold R2; rw [oF 3 (by omega), oF 4 (by omega), oF 5 (by omega), T 0 (by omega)]; exact d1
  · rw [o (F + 2 + 5 * b) (by omega), T 3 (by omega)]; exact d2 b hb
  · rw [o (F + 2 + 5 * b) (by omega), car_5 (T 5 (by omega)) (T 0 (by omega))]; exact d3 b hb
  · unfold R5; rw [oF 6 (by omega), arr_5 (T 5 (by omega)) (T 0 (by omega))]; exact d4
  · rw [o (F + 33 + i) (by omega), T 5 (by omega)]; exact d5 i hi k hk
theorem gt_arr {s : Sg} {l : Nat} {f t : Int32} : arr (gtS s l f t) = arr s := arr_5 (gt_T (by omega)) (gt_T (by omega))
/-- how many come, with the gate of a lane open always -/
def av (s : Sg) (N l : Nat) : Int32 := arr (quF (gtS s l 0 24) N) - arr s
def av0 (s : Sg) (N : Nat) : Int32 := arr (quF s N) - arr s
theorem p_ahead {a0 n1 n2 n3 n4 q N : Nat} {g : g_H} {s : Sg} {x v : Int32} (I : ClI a0 g s n1 n2 n3 n4 q) (hN : N ≤ 120) (hq : q + 120 < 2 ^ 26) (hx : (x = -1 ∧ v = av0 s N) ∨ ∃ l, l < n2 ∧ x = nI l ∧ v = av s N l) :
    ∃ g', f6_arrivalsAhead g a0 (nI N) x = some (v, g') ∧ Fc a0 g g' ∧ ClI a0 g' s n1 n2 n3 n4 q := by
  obtain ⟨s1, s2, s3, s4, s5, s6, s7, s8, s9, s10, s11, s12, s13, s14, s15⟩ := I.sh
  obtain ⟨g1, p1, p2, p3, p4, p5⟩ := p_copy I
  obtain ⟨u1, u2, u3, u4, -⟩ := p3.sh
  have fp : Fc a0 g1 (gPI g1 (a0 + 96) 7 x) := Fc.put ⟨by omega, by omega⟩
  have I2 : ClI a0 (gPI g1 (a0 + 96) 7 x) s n1 n2 n3 n4 q := p3.ax rfl rfl (fun a h1 h2 => gU_o (by omega)) (fun a => by
    rw [gI_PI]
    split
    · rw [if_neg (by omega)]
    · rfl)
  have main : ∃ g', f1_passQuarters (gPI g1 (a0 + 96) 7 x) (a0 + 96) (nI N) = some (v, g') ∧ Fr (a0 + 96) (gPI g1 (a0 + 96) 7 x) g' := by
    rcases hx with ⟨h1, h2⟩ | ⟨l, hl, h1, h2⟩
    · have e : CI a0 (a0 + 96) (gPI g1 (a0 + 96) 7 x) s n1 n2 n3 n4 q := by
        have : gI (gPI g1 (a0 + 96) 7 x) = gI g1 := by
          funext a j
          rw [gI_PI]
          by_cases c : a = a0 + 96
          · rw [if_pos c]
            by_cases d : j = 7
            · rw [if_pos d, c, d, p5, h1]
            · rw [if_neg d]
          · rw [if_neg c]
        exact p4.ag (hi := a0 + 152) (fun a _ _ => ⟨rfl, rfl, by rw [this]⟩) (by omega) (by omega)
      obtain ⟨g', x1, x2, -⟩ := p_quarters e (show N < 300 by omega) (by omega)
      exact ⟨g', by rw [x1, h2]; rfl, x2⟩
    · have e := p4.gt p5 hl
      rw [← h1] at e
      obtain ⟨g', x1, x2, -⟩ := p_quarters e (show N < 300 by omega) (by omega)
      refine ⟨g', ?_, x2⟩
      rw [x1, h2, gt_arr]
      rfl
  obtain ⟨g', x1, x2⟩ := main
  refine ⟨g', ?_, (p2.tr fp).tr (x2.fc (Or.inr rfl)), I2.ah x2⟩
  unfold f6_arrivalsAhead
  rw [if_pos s1, s4, ob_some, s3, ob_some, if_pos I.2.1.2.2.2.2.2.1.1, p1, ob_some, if_pos u1, u4, ob_some, if_pos p4.kF, gR_PI, u4, ob_some, if_pos (show (gS g1 (a0 + 96)).fst = 2 from p4.kF), x1, gB2_some]
/-- the best lane of the first i, and how many come by it -/
def bs (s : Sg) (N : Nat) : Nat → Int32 × Int32
  | 0 => (-1, av0 s N)
  | i + 1 => if (bs s N i).2 < av s N i then (nI i, av s N i) else bs s N i
theorem bs_ge {s : Sg} {N i : Nat} : av0 s N ≤ (bs s N i).2 := by
  induction i with
  | zero => exact Int32.le_refl _
  | succ i ih =>
    unfold bs
    by_cases c : (bs s N i).2 < av s N i
    · rw [if_pos c]
      exact Int32.le_of_lt (Int32.lt_of_le_of_lt ih c)
    · rw [if_neg c]; exact ih
theorem p_advLoop {a0 n1 n2 n3 n4 q N : Nat} {s : Sg} (hN : N ≤ 120) (hq : q + 120 < 2 ^ 26) :
    ∀ k i fuel : Nat, ∀ g : g_H, i + k = n2 → k < fuel → ClI a0 g s n1 n2 n3 n4 q →
    ∃ g', f6_advise_33 fuel g a0 (nI N) (bs s N i).1 (bs s N i).2 (nI i) = some ((0, (bs s N n2).1), g') ∧ Fc a0 g g' ∧ ClI a0 g' s n1 n2 n3 n4 q := by
  intro k
  induction k with
  | zero =>
    intro i fuel g h hf I
    obtain ⟨fu, rfl⟩ : ∃ fu, fuel = fu + 1 := ⟨fuel - 1, by omega⟩
    obtain ⟨s1, s2, s3, s4, s5, s6, s7, s8, s9, -⟩ := I.sh
    have : i = n2 := by omega
    subst this
    refine ⟨g, ?_, Fc.rf, I⟩
    show f6_advise_33b _ g a0 (nI N) _ _ (nI i) = _
    unfold f6_advise_33b
    rw [if_pos s1, s2, ob_some, if_pos s6, s9, if_pos (Int32.le_refl _)]
  | succ k ih =>
    intro i fuel g h hf I
    obtain ⟨fu, rfl⟩ : ∃ fu, fuel = fu + 1 := ⟨fuel - 1, by omega⟩
    obtain ⟨s1, s2, s3, s4, s5, s6, s7, s8, s9, s10, s11, s12, s13, s14, s15⟩ := I.sh
    obtain ⟨l1, l2, l3, l4, l5, l6, l7, l8⟩ := p_lane I.1 (show i < n2 by omega)
    have ci : Int32.toNatClampNeg (nI i) = i := cl_nI (by omega)
    obtain ⟨g3, g4⟩ := (I.1.2.1.2.2.2.2.1.2.2.2.1 i (by omega)).2.2 (by rw [I.2.2.1]; exact nI_m1 (by omega))
    have hbs : bs s N (i + 1) = if (bs s N i).2 < av s N i then (nI i, av s N i) else bs s N i := rfl
    show ∃ g', f6_advise_33b (f6_advise_33 fu) g a0 (nI N) _ _ (nI i) = _ ∧ _
    unfold f6_advise_33b f6_advise_82 f2_isOpenAlways
    rw [if_pos s1, s2, ob_some, if_pos s6, s9, if_neg (nI_ge (by omega) (by omega)), ob_some, if_pos s6, l1, ob_some, l2, if_pos rfl, if_pos (ixOk (by omega) (by omega)), ci, l3, ob_some, if_pos l4, if_pos l4, g3, g4, nI_1]
    have go : ∃ g', (if (gS g a0).1 = 7 then gB2 (f6_arrivalsAhead g a0 (nI N) (nI i)) fun v29 g28 => if v29 ≤ (bs s N i).2 then f6_advise_33 fu g28 a0 (nI N) (bs s N i).1 (bs s N i).2 (nI (i + 1)) else f6_advise_33 fu g28 a0 (nI N) (nI i) v29 (nI (i + 1)) else none) = some ((0, (bs s N n2).1), g') ∧ Fc a0 g g' ∧ ClI a0 g' s n1 n2 n3 n4 q := by
      obtain ⟨g1, a1, a2, a3⟩ := p_ahead I hN hq (Or.inr ⟨i, by omega, rfl, rfl⟩)
      obtain ⟨g2, b1, b2, b3⟩ := ih (i + 1) fu g1 (by omega) (by omega) a3
      rw [hbs] at b1
      refine ⟨g2, ?_, a2.tr b2, b3⟩
      rw [if_pos s1, a1, gB2_some]
      by_cases c : av s N i ≤ (bs s N i).2
      · rw [if_pos c]
        rw [if_neg (Int32.not_lt.mpr c)] at b1
        exact b1
      · rw [if_neg c]
        rw [if_pos (Int32.not_le.mp c)] at b1
        exact b1
    by_cases c1 : s 2 i 3 = 0
    · rw [if_pos c1]
      by_cases c2 : s 2 i 4 = (24 : Int32)
      · rw [if_pos c2, gB2_some, if_neg n10]
        obtain ⟨g2, b1, b2, b3⟩ := ih (i + 1) fu g (by omega) (by omega) I
        have e : gtS s i 0 24 = s := by
          unfold gtS
          rw [← c1, su_self, ← c2, su_self]
        have ea : av s N i = av0 s N := by unfold av av0; rw [e]
        rw [hbs, ea, if_neg (Int32.not_lt.mpr bs_ge)] at b1
        exact ⟨g2, b1, b2, b3⟩
      · rw [if_neg c2, gB2_some, if_pos rfl]
        exact go
    · rw [if_neg c1, gB2_some, if_pos rfl]
      exact go
