/-! PURE: calls that change the town -/
theorem gPI_PI {g : g_H} {a k : Nat} {v w : Int32} : gPI (gPI g a k v) a k w = gPI g a k w := by
  have : gU (gU (gI g) a k v) a k w = gU (gI g) a k w := by
    funext b j
    unfold gU
    split
    · split <;> rfl
    · rfl
  show (gS g, gU (gU (gI g) a k v) a k w, gR g, gJ g, gZ g) = _
  rw [this]
  rfl
theorem inR_mono {n n' : Nat} {x : Int32} (h : inR (nI n) x) (hn : n ≤ n') (h14 : n' < 2 ^ 31) : inR (nI n') x := by
  obtain ⟨j, hj, rfl⟩ := inR_nat (by omega) h
  exact inR_of h14 (by omega)
def Ft (a0 : Nat) (g h : g_H) : Prop := gS h = gS g ∧ gR h = gR g ∧ gJ h = gJ g ∧ gZ h = gZ g ∧ ∀ a, ¬ (a0 + 1 ≤ a ∧ a ≤ a0 + 42) → gI h a = gI g a
theorem Ft.rf {a0 : Nat} {g : g_H} : Ft a0 g g := ⟨rfl, rfl, rfl, rfl, fun _ _ => rfl⟩
theorem Ft.tr {a0 : Nat} {g h k : g_H} (x : Ft a0 g h) (y : Ft a0 h k) : Ft a0 g k := ⟨y.1.trans x.1, y.2.1.trans x.2.1, y.2.2.1.trans x.2.2.1, y.2.2.2.1.trans x.2.2.2.1, fun a ha => (y.2.2.2.2 a ha).trans (x.2.2.2.2 a ha)⟩
theorem Ft.put {a0 a k : Nat} {g : g_H} {v : Int32} (h : a0 + 1 ≤ a ∧ a ≤ a0 + 42) : Ft a0 g (gPI g a k v) := ⟨rfl, rfl, rfl, rfl, fun b hb => gU_o fun q => hb (q ▸ h)⟩
theorem Fw.ft {a0 : Nat} {g h : g_H} (f : Fw a0 g h) : Ft a0 g h := ⟨f.1, f.2.1, f.2.2.1, f.2.2.2.1, fun a ha => f.2.2.2.2 a (by omega)⟩
theorem Ft.fc {a0 : Nat} {g h : g_H} (f : Ft a0 g h) : Fc a0 g h := ⟨f.2.2.2.1, f.1, f.2.2.1, fun a ha => ⟨f.2.2.2.2 a (by omega), by rw [f.2.1]⟩⟩
theorem ClI.st {a0 n1 n2 n3 n4 q n1' n2' : Nat} {g h : g_H} {s t : Sg} (I : ClI a0 g s n1 n2 n3 n4 q) (f : Ft a0 g h) (wt : WT t n1' n2') (hn : n1 ≤ n1') (h3 : t 3 = s 3) (h4 : t 4 = s 4) (h5 : t 5 = s 5) (h03 : t 0 0 3 = s 0 0 3) (h04 : t 0 0 4 = s 0 0 4) (h00 : t 0 0 0 = s 0 0 0)
    (hsl : ∀ b, b < n3 → ∀ x y, sl t x y = sl s x y) (htg : ∀ b, b < n3 → ∀ x, x < 14 → tg t b (nI x) = tg s b (nI x)) (r1 : R1 a0 (a0 + 43) h t n2') (ws : Ws t n1' n2') : ClI a0 h t n1' n2' n3 n4 q := by
  obtain ⟨⟨⟨w1, w2, w3, w4, w5, w6, w7, w8, w9⟩, ⟨p0, p1, p2, p3, p4, p5⟩, ⟨d1, d2, d3, d4, d5⟩⟩, sh, i7, -⟩ := I
  obtain ⟨f1, f2, f3, f4, f5⟩ := f
  have hcar : ∀ b, car t b = car s b := fun b => by
    unfold car
    rw [h04]; exact carF_5 h5
  have harr : arr t = arr s := arr_keep h04 fun i => by rw [h5]
  have n14 := wt.2.1
  have iF : gI h (a0 + 43) = gI g (a0 + 43) := f5 _ (by omega)
  refine ⟨⟨⟨wt, h03.trans w2, w3, h04.trans w4, w5, h00.trans w6, w7, fun b hb => ⟨?_, by rw [hcar]; exact (w8 b hb).2⟩, fun i hi => ?_⟩, ⟨p0, ?_, ?_, fun b hb => ?_, r1, fun b hb => ?_⟩, ⟨?_, fun b hb => ?_, fun b hb => ?_, ?_, fun i hi k hk => ?_⟩⟩, ?_, by rw [iF]; exact i7, ws⟩
  · obtain ⟨z, p, l, st, ho, e1, e2, e3, e4, e5, e6, e7, e8, e9, e10, e11, e12, e13, e14, e15⟩ := (w8 b hb).1
    refine ⟨z, p, l, st, ho, by rw [h3]; exact e1, e2, e3, by rw [h3]; exact e4, e5, by rw [h3]; exact e6, e7, by rw [h3]; exact e8, e9, by rw [h3]; exact e10, e11, by rw [h3]; exact e12, by rw [h3]; exact e13, fun k hk => ?_, fun k hk => ?_⟩
    · rw [h4]; exact inR_mono (e14 k hk) hn (by omega)
    · rw [h4, hsl b hb]; exact e15 k hk
  · obtain ⟨l1, l2, l3, l4, l5⟩ := w9 i hi
    unfold WL
    rw [h5]
    exact ⟨inR_mono l1 hn (by omega), l2.imp id fun k => inR_mono k hn (by omega), l3, l4, l5⟩
  · unfold TL; rw [f1, f2]; exact p1
  · unfold FL; rw [f1, f2]; exact p2
  · unfold RtL; rw [f1, f2]; exact p3 b hb
  · obtain ⟨q1, q2, q3, q4⟩ := p5 b hb
    rw [h3, h4]
    refine ⟨?_, fun k hk => ?_, fun k hk => ?_, fun x hx => ?_⟩
    · rw [f5 _ (by omega)]; exact q1
    · rw [f5 _ (by omega)]; exact q2 k hk
    · rw [f5 _ (by omega), hsl b hb]; exact q3 k hk
    · rw [f5 _ (by omega), htg b hb x hx]; exact q4 x hx
  · unfold R2; rw [iF, h03, h04, h00]; exact d1
  · rw [f5 (a0 + 43 + 2 + 5 * b) (by omega), f2, h3]; exact d2 b hb
  · rw [f5 (a0 + 43 + 2 + 5 * b) (by omega), hcar]; exact d3 b hb
  · unfold R5; rw [iF, harr]; exact d4
  · rw [f5 (a0 + 43 + 33 + i) (by omega), h5]; exact d5 i hi k hk
  · obtain ⟨t1, t2, t3, t4, t5, t6, t7, t8⟩ := sh
    refine ⟨by rw [f1]; exact t1, by rw [f2]; exact t2, by rw [f2]; exact t3, by rw [f2]; exact t4, by rw [f2]; exact t5, ?_, ?_, fun b hb => ?_⟩
    · unfold FL; rw [f1, f2]; exact t6
    · unfold RtL; rw [f1, f2]; exact t7
    · rw [f2, f5 (a0 + 43 + 2 + 5 * b) (by omega), f5 (a0 + 96 + 2 + 5 * b) (by omega)]; exact t8 b hb
theorem o_setHive {a0 n1 n2 n3 n4 q : Nat} {g : g_H} {s : Sg} (I : ClI a0 g s n1 n2 n3 n4 q) (x y : Int32) (hy : y = 0 ∨ y = 1) : OpR a0 g s n1 n2 n3 n4 q (f6_setHive g a0 x y) (fun h => f7_setHive h (a0 + 153) x y) c1 := by
  obtain ⟨s1, s2, s3, s4, s5, s6, s7, s8, s9, s10, s11, s12, s13, s14, s15⟩ := I.sh
  have e1 := I.1.1.1.1
  by_cases hx : inR (nI n1) x
  · obtain ⟨j, hj, rfl⟩ := inR_nat (by omega) hx
    have cj : Int32.toNatClampNeg (nI j) = j := cl_nI (by omega)
    obtain ⟨t1, t2, t3, t4, t5, -⟩ := I.1.2.1.2.1
    have wt := I.1.1.1
    have hb01 := wt.2.2.2.2.2.1 j (by omega)
    have hb : (if s 1 (cl (nI j)) 0 = 0 then (0 : Int32) else 1) = s 1 j 0 := by
      rw [show cl (nI j) = j from cl_nI (by omega)]
      rcases hb01 with k | k
      · rw [if_pos k, k]
      · rw [if_neg (by rw [k]; exact n10), k]
    have T : ∀ k, k ≠ 1 → (su s 1 j 0 y) k = s k := fun k hk => su_T hk
    have wt' : WT (su s 1 j 0 y) n1 n2 := by
      obtain ⟨w1, w2, w3, w4, w5, w6, w7⟩ := wt
      refine ⟨by rw [T 0 (by omega)]; exact w1, w2, by rw [T 0 (by omega)]; exact w3, w4, by rw [T 2 (by omega)]; exact w5, fun k hk => ?_, by rw [T 6 (by omega)]; exact w7⟩
      by_cases e : k = j
      · rw [e, su_s]; exact hy
      · rw [su_i e]; exact w6 k hk
    have hwy : ∀ u v, wy (su s 1 j 0 y) u v = wy s u v := fun u v => by unfold wy; rw [T 0 (by omega), T 6 (by omega)]
    have htgF : ∀ b to k, tgF (su s 1 j 0 y) b to k = tgF s b to k := fun b to k => by
      induction k with
      | zero => rfl
      | succ k ih =>
        show (if _ then _ else _) = (if _ then _ else _)
        rw [ih, hwy, T 4 (by omega)]
    have hslF : ∀ u v k, slF (su s 1 j 0 y) u v k = slF s u v k := fun u v k => by
      induction k with
      | zero => rfl
      | succ k ih =>
        show (if _ then _ else _) = (if _ then _ else _)
        rw [ih, T 2 (by omega)]
    have r1' : R1 a0 (a0 + 43) (gPI g (a0 + 2) j y) (su s 1 j 0 y) n2 := by
      obtain ⟨q1, q2, q3, q4, q5⟩ := I.1.2.1.2.2.2.2.1
      refine ⟨?_, ?_, fun k hk => ?_, fun i hi => ?_, fun u v hu hv => ?_⟩
      · rw [gI_PI, if_neg (by omega), T 0 (by omega)]; exact q1
      · rw [gI_PI, if_neg (by omega), T 0 (by omega)]; exact q2
      · rw [gI_PI, if_pos rfl]
        by_cases e : k = j
        · rw [e, if_pos rfl, su_s]
        · rw [if_neg e, su_i e]; exact q3 k hk
      · rw [T 2 (by omega), show gI (gPI g (a0 + 2) j y) (a0 + 4 + i) = gI g (a0 + 4 + i) from gU_o (by omega), show gI (gPI g (a0 + 2) j y) (a0 + 43) = gI g (a0 + 43) from gU_o (by omega)]
        exact q4 i hi
      · rw [gI_PI, if_neg (by omega), T 6 (by omega)]; exact q5 u v hu hv
    have ws' : Ws (su s 1 j 0 y) n1 n2 := by
      obtain ⟨C, la, u1, u2, u3⟩ := I.2.2.2
      exact ⟨C, la, by rw [T 6 (by omega)]; exact u1, by rw [T 2 (by omega)]; exact u2, u3⟩
    have I' : ClI a0 (gPI g (a0 + 2) j y) (su s 1 j 0 y) n1 n2 n3 n4 q := I.st (Ft.put ⟨by omega, by omega⟩) wt' (Nat.le_refl _) (T 3 (by omega)) (T 4 (by omega)) (T 5 (by omega)) (by rw [T 0 (by omega)]) (by rw [T 0 (by omega)]) (by rw [T 0 (by omega)]) (fun b hb u v => by unfold sl; rw [hslF, T 0 (by omega)]) (fun b hb u hu => by unfold tg; rw [htgF, T 3 (by omega)]) r1' ws'
    refine ⟨0, s 1 j 0, _, _, n1, n2, n3, n4, q, ?_, by omega, (Ft.put ⟨by omega, by omega⟩ : Ft a0 g (gPI g (a0 + 2) j y)).fc, I', by omega, fun h m hZ => ?_⟩
    · unfold f6_setHive
      rw [if_pos s1, p_checkHouse I, gB2_some, if_pos hx, if_pos n0e, if_pos s1, s2, ob_some, if_pos s6, p_hasHive I.1 hx, gB2_some, if_pos s1, s2, ob_some, if_pos s6, t2, ob_some, t5, if_pos rfl, if_pos (ixOk (by omega) (by omega)), if_pos hy, hb, if_pos hb01, cj]
    · have m' := m.thr (v := 0)
      have hh : gI (gPI h (a0 + 153) 0 0) (a0 + 153 + 1) j = s 1 j 0 := m'.2.2.1.1 j (by omega)
      have m2 : MX (a0 + 153) (gPI (gPI h (a0 + 153) 0 0) (a0 + 153 + 1) j y) (su s 1 j 0 y) n1 n2 n3 n4 := by
        obtain ⟨l, z0, ⟨z1, z2, z3, z4⟩, z5⟩ := m'
        have off : ∀ k, k ≠ 1 → gI (gPI (gPI h (a0 + 153) 0 0) (a0 + 153 + 1) j y) (a0 + 153 + k) = gI (gPI h (a0 + 153) 0 0) (a0 + 153 + k) := fun k hk => gU_o (by omega)
        refine ⟨l, ?_, ⟨fun k hk => ?_, ?_, ?_, ?_⟩, ?_⟩
        · have := off 0 (by omega)
          rw [Nat.add_zero] at this
          unfold M0; rw [this, T 0 (by omega)]; exact z0
        · rw [gI_PI, if_pos rfl]
          by_cases e : k = j
          · rw [e, if_pos rfl, su_s]
          · rw [if_neg e, su_i e]; exact z1 k hk
        · rw [off 2 (by omega), T 2 (by omega)]; exact z2
        · rw [off 3 (by omega), T 6 (by omega)]; exact z3
        · rw [off 5 (by omega), T 3 (by omega), T 4 (by omega)]; exact z4
        · unfold M2; rw [off 4 (by omega), off 6 (by omega), off 7 (by omega), T 3 (by omega), T 5 (by omega), T 0 (by omega)]; exact z5
      refine ⟨s 1 j 0, _, ?_, (Fmm.put ⟨by omega, by omega⟩).tr (Fmm.put (a := a0 + 153 + 1) ⟨by omega, by omega⟩), m2, ?_, fun _ => rfl⟩
      · show f7_setHive h (a0 + 153) (nI j) y = _
        unfold f7_setHive f7_setHive_14
        rw [if_pos m.1.1, m_isHouse m e1 s12, gB2_some, if_pos hx, if_neg n10, if_pos m.1.1, if_pos m.1.1]
        rw [show gI (gPI h (a0 + 153) 0 0) (a0 + 153) 0 = 0 by simp [gI_PI], if_pos rfl, show gR (gPI h (a0 + 153) 0 0) (a0 + 153) 2 = some (a0 + 153 + 1) from m'.1.2.1.1, ob_some, m.1.2.2.1, if_pos rfl, if_pos (ixOk (by omega) (by omega)), ob_some, m.1.2.2.1, if_pos rfl, if_pos (ixOk (by omega) (by omega)), if_pos hy, cj, hh, if_pos hb01]
      · simp [gI_PI]
        rfl
  · refine OpR.thr I 1 (by omega) (by omega) ?_ fun h m => ?_
    · unfold f6_setHive
      rw [if_pos s1, p_checkHouse I, gB2_some, if_neg hx, if_neg n1e]
    · rw [gPI_PI]
      unfold f7_setHive f7_setHive_14
      rw [if_pos m.1.1, m_isHouse m e1 s12, gB2_some, if_neg hx, if_pos rfl, if_pos m.1.1, if_pos m.1.1]
      rw [show gI (gPI h (a0 + 153) 0 1) (a0 + 153) 0 = 1 by simp [gI_PI], if_neg n10]
      rfl
