/-! PURE: write -/
theorem cnt_slF {s : Sg} {k : Nat} {v x y : Int32} (n : Nat) : slF (su s 0 0 k v) x y n = slF s x y n := by
  induction n with
  | zero => rfl
  | succ n ih =>
    show (if _ then _ else _) = (if _ then _ else _)
    rw [ih, su_T (by omega)]
theorem cnt_sl {s : Sg} {k : Nat} {v x y : Int32} (h : k ≠ 2) : sl (su s 0 0 k v) x y = sl s x y := by
  unfold sl
  rw [cnt_slF, su_k (Ne.symm h)]
theorem cnt_tg {s : Sg} {k : Nat} {v : Int32} (h : k ≠ 1) (b : Nat) (to : Int32) : tg (su s 0 0 k v) b to = tg s b to := by
  have hwy : ∀ x y, wy (su s 0 0 k v) x y = wy s x y := fun x y => by unfold wy; rw [su_k (Ne.symm h), su_T (by omega)]
  have hF : ∀ n, tgF (su s 0 0 k v) b to n = tgF s b to n := fun n => by
    induction n with
    | zero => rfl
    | succ n ih =>
      show (if _ then _ else _) = (if _ then _ else _)
      rw [ih, hwy, su_T (by omega)]
  unfold tg
  rw [hF, su_T (by omega)]
theorem WT.cnt {s : Sg} {n1 n2 k : Nat} {v : Int32} (w : WT s n1 n2) (h1 : k ≠ 1) (h2 : k ≠ 2) : WT (su s 0 0 k v) n1 n2 := by
  obtain ⟨w1, w2, w3, w4, w5, w6, w7⟩ := w
  exact ⟨(su_k (Ne.symm h1)).trans w1, w2, (su_k (Ne.symm h2)).trans w3, w4, by rw [su_T (by omega)]; exact w5, by rw [su_T (by omega)]; exact w6, by rw [su_T (by omega)]; exact w7⟩
theorem WB.cnt {s : Sg} {n1 b k : Nat} {v : Int32} (w : WB s n1 b) (h2 : k ≠ 2) : WB (su s 0 0 k v) n1 b := by
  obtain ⟨z, p, l, st, ho, e1, e2, e3, e4, e5, e6, e7, e8, e9, e10, e11, e12, e13, e14, e15⟩ := w
  refine ⟨z, p, l, st, ho, by rw [su_T (by omega)]; exact e1, e2, e3, by rw [su_T (by omega)]; exact e4, e5, by rw [su_T (by omega)]; exact e6, e7, by rw [su_T (by omega)]; exact e8, e9, by rw [su_T (by omega)]; exact e10, e11, by rw [su_T (by omega)]; exact e12, by rw [su_T (by omega)]; exact e13, by rw [su_T (by omega)]; exact e14, fun j hj => ?_⟩
  rw [su_T (by omega), cnt_sl h2]
  exact e15 j hj
theorem RS.cnt {a0 F n2 n3 k : Nat} {g : g_H} {s : Sg} {v : Int32} (r : RS a0 F g s n2 n3) (h1 : k ≠ 1) (h2 : k ≠ 2) : RS a0 F g (su s 0 0 k v) n2 n3 := by
  obtain ⟨r0, r1, r2, r3, ⟨q1, q2, q3, q4, q5⟩, r5⟩ := r
  refine ⟨r0, r1, r2, r3, ⟨?_, ?_, ?_, ?_, ?_⟩, fun b hb => ?_⟩
  · rw [su_k (Ne.symm h1)]; exact q1
  · rw [su_k (Ne.symm h2)]; exact q2
  · rw [su_T (by omega)]; exact q3
  · rw [su_T (by omega)]; exact q4
  · rw [su_T (by omega)]; exact q5
  · obtain ⟨x1, x2, x3, x4⟩ := r5 b hb
    rw [su_T (show 3 ≠ 0 by omega), su_T (show 4 ≠ 0 by omega)]
    refine ⟨x1, x2, fun j hj => ?_, fun x hx => ?_⟩
    · rw [cnt_sl h2]; exact x3 j hj
    · rw [cnt_tg h1]; exact x4 x hx
def ltS (s : Sg) (i : Nat) (a b : Int32) : Sg := su (su (su (su (su s 5 i 0 b) 5 i 1 a) 5 i 2 (-1)) 5 i 3 (-1)) 5 i 4 0
theorem lt_same {s : Sg} {i : Nat} {a b : Int32} : Same s (ltS s i a b) := (((Same.l.tr Same.l).tr Same.l).tr Same.l).tr Same.l
theorem lt_o {s : Sg} {i j k : Nat} {a b : Int32} (h : j ≠ i) : ltS s i a b 5 j k = s 5 j k := by
  unfold ltS
  rw [su_i h, su_i h, su_i h, su_i h, su_i h]
theorem lt_n {s : Sg} {i : Nat} {a b : Int32} : ltS s i a b 5 i 0 = b ∧ ltS s i a b 5 i 1 = a ∧ ltS s i a b 5 i 2 = -1 ∧ ltS s i a b 5 i 3 = -1 ∧ ltS s i a b 5 i 4 = 0 := by
  unfold ltS
  simp [su]
theorem lt_T {s : Sg} {i k : Nat} {a b : Int32} (h : k ≠ 5) : ltS s i a b k = s k := ((((su_T h).trans (su_T h)).trans (su_T h)).trans (su_T h)).trans (su_T h)
def wrS (s : Sg) (i : Nat) (a b : Int32) : Sg := ltS (su s 0 0 4 (nI (i + 1))) i a b
theorem o_write {a0 n1 n2 n3 n4 q : Nat} {g : g_H} {s : Sg} (I : ClI a0 g s n1 n2 n3 n4 q) (x y : Int32) : OpR a0 g s n1 n2 n3 n4 q (f6_write g a0 x y) (fun h => f7_write h (a0 + 153) x y) c3 := by
  obtain ⟨s1, s2, s3, s4, s5, s6, s7, s8, s9, s10, s11, s12, s13, s14, s15⟩ := I.sh
  have e1 := I.1.1.1.1
  have e4 := I.1.1.2.2.2.1
  have no : (¬ inR (nI n1) x ∨ ¬ inR (nI n1) y) → OpR a0 g s n1 n2 n3 n4 q (f6_write g a0 x y) (fun h => f7_write h (a0 + 153) x y) c3 := by
    intro hb
    refine OpR.thr I 1 (by omega) (by omega) ?_ fun h m => ?_
    · unfold f6_write
      rw [if_pos s1, p_checkHouse I, gB2_some]
      by_cases hx : inR (nI n1) x
      · rw [if_pos hx, if_pos n0e, if_pos s1, p_checkHouse I, gB2_some, if_neg (hb.resolve_left fun k => k hx), if_neg n1e]
      · rw [if_neg hx, if_neg n1e]
    · have m' := m.thr (v := 0)
      unfold f7_write f7_write_21
      rw [if_pos m.1.1, m_isHouse m' e1 s12, gB2_some]
      by_cases hx : inR (nI n1) x
      · rw [if_pos hx, if_neg n10, if_pos m'.1.1, m_isHouse m' e1 s12, gB2_some, if_neg (hb.resolve_left fun k => k hx), if_pos rfl, if_pos m'.1.1, m_fail m'.1.1, gB2_some]
        rfl
      · rw [if_neg hx, if_pos rfl, if_pos m'.1.1, m_fail m'.1.1, gB2_some]
        rfl
  by_cases hx : inR (nI n1) x
  · by_cases hy : inR (nI n1) y
    · by_cases c : x = y
      · refine OpR.thr I 2 (by omega) (by omega) ?_ fun h m => ?_
        · unfold f6_write
          rw [if_pos s1, p_checkHouse I, gB2_some, if_pos hx, if_pos n0e, if_pos s1, p_checkHouse I, gB2_some, if_pos hy, if_pos n0e, if_pos c]
        · have m' := m.thr (v := 0)
          unfold f7_write
          rw [if_pos m.1.1, m_isHouse m' e1 s12, gB2_some, if_pos hx, if_neg n10, if_pos m'.1.1, m_isHouse m' e1 s12, gB2_some, if_pos hy, if_neg n10, if_pos c, if_pos m'.1.1, m_fail m'.1.1, gB2_some]
          rfl
      · have h20 : (nI n4 < (20 : Int32)) ↔ n4 < 20 := nI_ltI (b := 20) (by omega) (by omega)
        have q20 : (nI n4 = (20 : Int32)) ↔ n4 = 20 := nI_eq (b := 20) (by omega) (by omega)
        by_cases k : n4 < 20
        · obtain ⟨w1, w2, w3, w4, w5, w6, w7, w8, w9⟩ := I.1.1
          have c4 : Int32.toNatClampNeg (nI n4) = n4 := cl_nI (by omega)
          have b7 : gR g (a0 + 43) 2 = some (a0 + 43 + 32) := I.1.2.1.2.2.1.2.2.2.1
          have b9 : gS g (a0 + 43 + 32) = (17, 20) := I.1.2.1.2.2.1.2.2.2.2.2.1
          obtain ⟨b10, b11⟩ := I.1.2.1.2.2.1.2.2.2.2.2.2.2 n4 k
          obtain ⟨k0, k1, k2, k3, k4⟩ := lt_n (s := su s 0 0 4 (nI (n4 + 1))) (i := n4) (a := x) (b := y)
          have hS := lt_same (s := su s 0 0 4 (nI (n4 + 1))) (i := n4) (a := x) (b := y)
          have oS : ∀ j k, j ≠ n4 → wrS s n4 x y 5 j k = s 5 j k := fun j k hj => (lt_o hj).trans (su_t (by omega))
          have t04 : wrS s n4 x y 0 0 4 = nI (n4 + 1) := (hS.1 4 (by omega)).trans su_s
          have t0 : ∀ k, k ≠ 0 → k ≠ 4 → wrS s n4 x y 0 0 k = s 0 0 k := fun k h1 h2 => (hS.1 k h1).trans (su_k h2)
          have t00 : wrS s n4 x y 0 0 0 = s 0 0 0 := by
            show ltS _ n4 x y 0 0 0 = _
            rw [lt_T (by omega), su_k (by omega)]
          have tT : ∀ k, k ≠ 0 → k ≠ 5 → wrS s n4 x y k = s k := fun k h1 h2 => (lt_T h2).trans (su_T h1)
          have hcar : ∀ b, b < 6 → car (wrS s n4 x y) b = car s b := fun b hb => by
            rw [car_def t04 (by omega), car_def w4 w5]
            show carF _ b n4 + _ = _
            rw [if_neg (by rw [show wrS s n4 x y 5 n4 2 = -1 from k2]; exact fun q => nI_m1 (by omega) q.symm), Int32.add_zero]
            exact carF_keep fun i hi => oS i 2 (by omega)
          have harr : arr (wrS s n4 x y) = arr s := by
            rw [arr_def t04 (by omega), arr_def w4 w5]
            show arrF _ n4 + _ = _
            rw [if_pos (show wrS s n4 x y 5 n4 3 = -1 from k3), Int32.add_zero]
            exact arrF_keep fun i hi => oS i 3 (by omega)
          have wf : WF (wrS s n4 x y) n1 n2 n3 (n4 + 1) q := by
            refine ⟨(w1.cnt (by omega) (by omega)).same hS, (t0 3 (by omega) (by omega)).trans w2, w3, t04, by omega, t00.trans w6, w7, fun b hb => ⟨?_, by rw [hcar b (by omega)]; exact (w8 b hb).2⟩, fun i hi => ?_⟩
            · have wb := (w8 b hb).1.cnt (k := 4) (v := nI (n4 + 1)) (by omega)
              have h3 : wrS s n4 x y 3 = su s 0 0 4 (nI (n4 + 1)) 3 := lt_T (by omega)
              obtain ⟨z, p, l, st, ho, e1, e2, e3, e4, e5, e6, e7, e8, e9, e10, e11, e12, e13, e14, e15⟩ := wb
              exact WB.keep hS ⟨z, p, l, st, ho, e1, e2, e3, e4, e5, e6, e7, e8, e9, e10, e11, e12, e13, e14, e15⟩ (by rw [h3]) (by rw [h3]) ⟨st, e9, by rw [h3]; exact e8⟩ ⟨ho, e11, by rw [h3]; exact e10⟩ (by rw [h3]; exact e12) (by rw [h3]; exact e13)
            · by_cases e : i = n4
              · subst e
                unfold WL wrS
                rw [k0, k1, k2, k3]
                exact ⟨hy, Or.inr hx, Or.inl rfl, fun q => absurd rfl q, fun q => absurd rfl q, Or.inl rfl⟩
              · unfold WL
                rw [oS i 0 e, oS i 1 e, oS i 2 e, oS i 3 e]
                exact w9 i (by omega)
          obtain ⟨g5, hg5⟩ : ∃ g5, g5 = gPI (gPI (gPI (gPI (gPI g (a0 + 43 + 33 + n4) 0 y) (a0 + 43 + 33 + n4) 1 x) (a0 + 43 + 33 + n4) 2 (-1)) (a0 + 43 + 33 + n4) 3 (-1)) (a0 + 43 + 33 + n4) 4 0 := ⟨_, rfl⟩
          have o5 : ∀ a, a ≠ a0 + 43 + 33 + n4 → gI g5 a = gI g a := fun a ha => by
            rw [hg5]
            exact ((((gU_o ha).trans (gU_o ha)).trans (gU_o ha)).trans (gU_o ha)).trans (gU_o ha)
          have oF : ∀ a, a ≠ a0 + 43 + 33 + n4 → a ≠ a0 + 43 → gI (gPI g5 (a0 + 43) 4 (nI (n4 + 1))) a = gI g a := fun a h1 h2 => (show gI (gPI g5 (a0 + 43) 4 (nI (n4 + 1))) a = gI g5 a from gU_o h2).trans (o5 a h1)
          have gS5 : gS g5 = gS g := by rw [hg5]; rfl
          have gR5 : gR g5 = gR g := by rw [hg5]; rfl
          have gJ5 : gJ g5 = gJ g := by rw [hg5]; rfl
          have gZ5 : gZ g5 = gZ g := by rw [hg5]; rfl
          obtain ⟨d1, d2, d3, d4, d5⟩ := I.1.2.2
          have ci : CI a0 (a0 + 43) (gPI g5 (a0 + 43) 4 (nI (n4 + 1))) (wrS s n4 x y) n1 n2 n3 (n4 + 1) q := by
            have rs : RS a0 (a0 + 43) (gPI g5 (a0 + 43) 4 (nI (n4 + 1))) (su s 0 0 4 (nI (n4 + 1))) n2 n3 := by
              obtain ⟨r0, r1, r2, r3, ⟨q1, q2, q3, q4, q5⟩, r5⟩ := I.1.2.1.cnt (k := 4) (v := nI (n4 + 1)) (by omega) (by omega)
              refine ⟨r0, ?_, ?_, fun b hb => ?_, ⟨?_, ?_, fun h hh => ?_, fun i hi => ?_, fun u v hu hv => ?_⟩, fun b hb => ?_⟩
              · unfold TL; rw [gS_PI, gR_PI, gS5, gR5]; exact r1
              · unfold FL; rw [gS_PI, gR_PI, gS5, gR5]; exact r2
              · unfold RtL; rw [gS_PI, gR_PI, gS5, gR5]; exact r3 b hb
              · rw [oF _ (by omega) (by omega)]; exact q1
              · rw [oF _ (by omega) (by omega)]; exact q2
              · rw [oF _ (by omega) (by omega)]; exact q3 h hh
              · rw [oF (a0 + 4 + i) (by omega) (by omega), show gI (gPI g5 (a0 + 43) 4 (nI (n4 + 1))) (a0 + 43) 7 = gI g (a0 + 43) 7 by rw [gI_PI, if_pos rfl, if_neg (by omega), o5 _ (by omega)]]
                exact q4 i hi
              · rw [oF _ (by omega) (by omega)]; exact q5 u v hu hv
              · rw [oF (a0 + 46 + 5 * b) (by omega) (by omega), oF (a0 + 47 + 5 * b) (by omega) (by omega), oF (a0 + 48 + 5 * b) (by omega) (by omega), oF (a0 + 49 + 5 * b) (by omega) (by omega)]
                exact r5 b hb
            refine ⟨wf, rs.fr Fr.rf hS w3 w1.2.2.2.1, ⟨?_, ?_, ?_⟩, fun b hb => ?_, fun b hb => ?_, ?_, fun i hi k' hk' => ?_⟩
            · rw [t0 3 (by omega) (by omega), gI_PI, if_pos rfl, if_neg (by omega), o5 _ (by omega)]; exact d1.1
            · rw [t04, gI_PI, if_pos rfl, if_pos rfl]
            · rw [t00, gI_PI, if_pos rfl, if_neg (by omega), o5 _ (by omega)]; exact d1.2.2
            · rw [oF (a0 + 43 + 2 + 5 * b) (by omega) (by omega), tT 3 (by omega) (by omega), gR_PI, gR5]; exact d2 b hb
            · rw [oF (a0 + 43 + 2 + 5 * b) (by omega) (by omega), hcar b (by omega)]; exact d3 b hb
            · unfold R5; rw [harr, gI_PI, if_pos rfl, if_neg (by omega), o5 _ (by omega)]; exact d4
            · rw [show gI (gPI g5 (a0 + 43) 4 (nI (n4 + 1))) (a0 + 43 + 33 + i) = gI g5 (a0 + 43 + 33 + i) from gU_o (by omega)]
              by_cases e : i = n4
              · subst e
                rw [hg5]
                match k', hk' with
                | 0, _ => rw [show wrS s i x y 5 i 0 = y from k0]; simp [gI_PI]
                | 1, _ => rw [show wrS s i x y 5 i 1 = x from k1]; simp [gI_PI]
                | 2, _ => rw [show wrS s i x y 5 i 2 = -1 from k2]; simp [gI_PI]
                | 3, _ => rw [show wrS s i x y 5 i 3 = -1 from k3]; simp [gI_PI]
                | 4, _ => rw [show wrS s i x y 5 i 4 = 0 from k4]; simp [gI_PI]
              · rw [o5 _ (by omega), oS i k' e]; exact d5 i (by omega) k' hk'
          have sh : Sh a0 (gPI g5 (a0 + 43) 4 (nI (n4 + 1))) := by
            obtain ⟨t1, t2, t3, t4, t5, t6, t7, t8⟩ := I.2.1
            refine ⟨by rw [gS_PI, gS5]; exact t1, by rw [gR_PI, gR5]; exact t2, by rw [gR_PI, gR5]; exact t3, by rw [gR_PI, gR5]; exact t4, by rw [gR_PI, gR5]; exact t5, ?_, ?_, fun b hb => ?_⟩
            · unfold FL; rw [gS_PI, gR_PI, gS5, gR5]; exact t6
            · unfold RtL; rw [gS_PI, gR_PI, gS5, gR5]; exact t7
            · rw [gR_PI, gR5, oF (a0 + 43 + 2 + 5 * b) (by omega) (by omega), oF (a0 + 96 + 2 + 5 * b) (by omega) (by omega)]; exact t8 b hb
          have I' : ClI a0 (gPI g5 (a0 + 43) 4 (nI (n4 + 1))) (wrS s n4 x y) n1 n2 n3 (n4 + 1) q := by
            refine ⟨ci, sh, by rw [gI_PI, if_pos rfl, if_neg (by omega), o5 _ (by omega)]; exact I.2.2.1, ?_⟩
            obtain ⟨C, la, u1, u2, u3⟩ := I.2.2.2
            exact ⟨C, la, by rw [tT 6 (by omega) (by omega)]; exact u1, by rw [tT 2 (by omega) (by omega)]; exact u2, u3⟩
          refine ⟨0, nI n4, _, _, n1, n2, n3, n4 + 1, q, ?_, by omega, ⟨by show gZ g5 = _; exact gZ5, by rw [gS_PI, gS5], by show gJ g5 = _; exact gJ5, fun a ha => ⟨oF a (by omega) (by omega), by rw [gR_PI, gR5]⟩⟩, I', by omega, fun h m hZ => ?_⟩
          · unfold f6_write f3_begin gLt
            rw [if_pos s1, p_checkHouse I, gB2_some, if_pos hx, if_pos n0e, if_pos s1, p_checkHouse I, gB2_some, if_pos hy, if_pos n0e, if_neg c, if_pos s1, s3, ob_some, if_pos s7, s11, if_pos (h20.mpr k), ob_some, if_pos s7, b7, ob_some, ob_some, if_pos s7, b9, if_pos rfl, s11, if_pos (ixOk (by omega) (by omega)), c4, b10, ob_some, if_pos b11, if_pos b11, ob_some, ← hg5]
            have e43 : gI g5 (a0 + 43) 4 = nI n4 := by rw [o5 _ (by omega)]; exact s11
            rw [if_pos (show (gS g5 a0).fst = 7 by rw [gS5]; exact s1), gR5, s3, ob_some, if_pos (show (gS g5 (a0 + 43)).fst = 2 by rw [gS5]; exact s7)]
            dsimp only
            rw [e43, nI_1]
          · have m' := m.thr (v := 0)
            obtain ⟨zz, hzz⟩ : ∃ zz, zz = gZ (gPI h (a0 + 153) 0 0) := ⟨_, rfl⟩
            have hzM : a0 + 153 + 8 < zz := by rw [hzz]; show _ < gZ h; omega
            obtain ⟨H, hH⟩ : ∃ H, H = gN (gPI h (a0 + 153) 0 0) 11 5 (fun _ => 0) := ⟨_, rfl⟩
            have S : gS H zz = (11, 5) := by rw [hH, hzz]; exact gS_gN rfl
            have mH : MX (a0 + 153) H s n1 n2 n3 n4 := by rw [hH]; exact m'.gN (by rw [← hzz]; exact hzM)
            obtain ⟨H4, hH4⟩ : ∃ H4, H4 = gPI (gPI (gPI (gPI H zz 0 y) zz 1 x) zz 2 (-1)) zz 3 (-1) := ⟨_, rfl⟩
            obtain ⟨H5, hH5⟩ : ∃ H5, H5 = gPI H4 zz 4 0 := ⟨_, rfl⟩
            have S4 : gS H4 = gS H := by rw [hH4]; rfl
            have S5 : gS H5 = gS H := by rw [hH5, gS_PI, S4]
            have m4 : MX (a0 + 153) H4 s n1 n2 n3 n4 := by rw [hH4]; exact (((mH.off hzM).off hzM).off hzM).off hzM
            have m5 : MX (a0 + 153) H5 s n1 n2 n3 n4 := by rw [hH5]; exact m4.off hzM
            have v0 : gI H5 zz 0 = y := by rw [hH5, hH4]; simp [gI_PI]
            have v1 : gI H5 zz 1 = x := by rw [hH5, hH4]; simp [gI_PI]
            have v2 : gI H5 zz 2 = -1 := by rw [hH5, hH4]; simp [gI_PI]
            have v3 : gI H5 zz 3 = -1 := by rw [hH5, hH4]; simp [gI_PI]
            have v4 : gI H5 zz 4 = 0 := by rw [hH5]; simp [gI_PI]
            have g0 : gI H5 (a0 + 153) 0 = 0 := by
              have e : ∀ (g : g_H) (k : Nat) (v : Int32), gI (gPI g zz k v) (a0 + 153) 0 = gI g (a0 + 153) 0 := fun g k v => by rw [gI_PI, if_neg (by omega)]
              rw [hH5, hH4, e, e, e, e, e, hH, show gI (gN (gPI h (a0 + 153) 0 0) 11 5 (fun _ => 0)) (a0 + 153) = gI (gPI h (a0 + 153) 0 0) (a0 + 153) from gW_o (by rw [← hzz]; omega)]
              simp [gI_PI]
            have f1 : Fmm (a0 + 153) h H5 := by
              rw [hH5, hH4]
              have f0 : Fmm (a0 + 153) h H := by rw [hH]; exact (Fmm.put (a := a0 + 153) ⟨by omega, by omega⟩).tr Fmm.gN
              have fz : gZ h ≤ zz := by rw [hzz]; exact Nat.le_refl _
              exact ((((f0.up fz).up fz).up fz).up fz).up fz
            obtain ⟨HW, hHW⟩ : ∃ HW, HW = gPW H5 (a0 + 153 + 6) (va_cpy (gI H5 zz) (gI H5 (a0 + 153 + 6)) 0 (5 * n4) 5) := ⟨_, rfl⟩
            have f2 : Fmm (a0 + 153) H5 HW := by rw [hHW]; exact ⟨Nat.le_refl _, fun a _ => ⟨rfl, rfl, rfl, fun ha => gW_o (by omega)⟩⟩
            have eW : gI HW (a0 + 153) = gI H5 (a0 + 153) := by rw [hHW]; exact gW_o (by omega)
            have mf : MX (a0 + 153) (gPI HW (a0 + 153) 9 (nI (n4 + 1))) (wrS s n4 x y) n1 n2 n3 (n4 + 1) := by
              obtain ⟨L, ⟨y1, y2, y3, y4⟩, ⟨z1, z2, z3, z4⟩, ⟨p1, p2, p3⟩⟩ := m5
              have e : ∀ k, k ≠ 0 → k ≠ 6 → gI (gPI HW (a0 + 153) 9 (nI (n4 + 1))) (a0 + 153 + k) = gI H5 (a0 + 153 + k) := fun k hk hk2 => by
                rw [hHW]
                exact (show _ = gI (gPW H5 (a0 + 153 + 6) _) (a0 + 153 + k) from gU_o (by omega)).trans (gW_o (by omega))
              have eM : ∀ k, k ≠ 9 → gI (gPI HW (a0 + 153) 9 (nI (n4 + 1))) (a0 + 153) k = gI H5 (a0 + 153) k := fun k hk => by
                rw [gI_PI, if_pos rfl, if_neg hk, eW]
              have gSW : gS HW = gS H5 := by rw [hHW]; rfl
              have gRW : gR HW = gR H5 := by rw [hHW]; rfl
              refine ⟨by unfold ML; rw [gS_PI, gR_PI, gSW, gRW]; exact L, ⟨?_, ?_, ?_, ?_⟩, ⟨?_, ?_, ?_, ?_⟩, ?_, fun i hi kk hk => ?_, ?_⟩
              · rw [eM 1 (by omega), t0 1 (by omega) (by omega)]; exact y1
              · rw [eM 3 (by omega), t0 2 (by omega) (by omega)]; exact y2
              · rw [eM 6 (by omega), t0 3 (by omega) (by omega)]; exact y3
              · rw [t04, gI_PI, if_pos rfl, if_pos rfl]
              · rw [e 1 (by omega) (by omega), tT 1 (by omega) (by omega)]; exact z1
              · rw [e 2 (by omega) (by omega), tT 2 (by omega) (by omega)]; exact z2
              · rw [e 3 (by omega) (by omega), tT 6 (by omega) (by omega)]; exact z3
              · rw [e 5 (by omega) (by omega), tT 3 (by omega) (by omega), tT 4 (by omega) (by omega)]; exact z4
              · rw [e 4 (by omega) (by omega), tT 3 (by omega) (by omega)]; exact p1
              · rw [gI_PI, if_neg (by omega), hHW, gI_PW, if_pos rfl]
                unfold va_cpy
                by_cases c : i = n4
                · subst c
                  rw [if_pos (by omega), show 0 + (5 * i + kk - 5 * i) = kk by omega]
                  match kk, hk with
                  | 0, _ => rw [v0]; exact k0.symm
                  | 1, _ => rw [v1]; exact k1.symm
                  | 2, _ => rw [v2]; exact k2.symm
                  | 3, _ => rw [v3]; exact k3.symm
                  | 4, _ => rw [v4]; exact k4.symm
                · rw [if_neg (by omega), oS i kk c]
                  exact p2 i (by omega) kk hk
              · rw [e 7 (by omega) (by omega), t00]; exact p3
            have cc : ¬ (0 : Int32) < 0 ∧ ¬ (5 : Int32) * nI n4 < 0 ∧ ¬ (5 : Int32) < 0 ∧ 0 + Int32.toNatClampNeg (5 : Int32) ≤ 5 ∧ Int32.toNatClampNeg ((5 : Int32) * nI n4) + Int32.toNatClampNeg (5 : Int32) ≤ 100 := by
              rw [show (5 : Int32) * nI n4 = nI (5 * n4) from pk_mul 5 n4, cl_nI (show 5 * n4 < 2 ^ 31 by omega)]
              refine ⟨by decide, nI_pos (by omega), by decide, by decide, ?_⟩
              rw [show Int32.toNatClampNeg (5 : Int32) = 5 from rfl]
              omega
            refine ⟨nI n4, _, ?_, (f1.tr f2).tr (Fmm.put (a := a0 + 153) ⟨by omega, by omega⟩), mf, ?_, fun _ => rfl⟩
            · show f7_write h (a0 + 153) x y = _
              unfold f7_write gNw gLt
              rw [if_pos m.1.1, m_isHouse m' e1 s12, gB2_some, if_pos hx, if_neg n10, if_pos m'.1.1, m_isHouse m' e1 s12, gB2_some, if_pos hy, if_neg n10, if_neg c, if_pos m'.1.1, m'.2.1.2.2.2, e4, if_neg fun w => absurd (q20.mp w) (by omega)]
              rw [← hzz, ← hH]
              dsimp only
              rw [S, if_pos (by decide), if_pos (by decide), if_pos (by decide), if_pos (by decide)]
              rw [show Int32.toNatClampNeg (0 : Int32) = 0 from rfl, show Int32.toNatClampNeg (1 : Int32) = 1 from rfl, show Int32.toNatClampNeg (2 : Int32) = 2 from rfl, show Int32.toNatClampNeg (3 : Int32) = 3 from rfl, show Int32.toNatClampNeg (4 : Int32) = 4 from rfl, ← hH4, S4, S, if_pos (by decide), ← hH5]
              rw [if_pos mH.1.1, m5.1.2.1.2.2.2.2.2.1, ob_some, mH.1.2.2.2.2.2.2.2.1, if_pos rfl, m5.2.1.2.2.2, e4, if_pos cc]
              rw [show (5 : Int32) * nI n4 = nI (5 * n4) from pk_mul 5 n4, cl_nI (show 5 * n4 < 2 ^ 31 by omega), show Int32.toNatClampNeg (5 : Int32) = 5 from rfl, ← hHW, eW, m5.2.1.2.2.2, e4, nI_1, mf.2.1.2.2.2, t04, nI_pred]
            · rw [gI_PI, if_pos rfl, if_neg (by omega), eW, g0]
              rfl
        · refine OpR.thr I 3 (by omega) (by omega) ?_ fun h m => ?_
          · unfold f6_write
            rw [if_pos s1, p_checkHouse I, gB2_some, if_pos hx, if_pos n0e, if_pos s1, p_checkHouse I, gB2_some, if_pos hy, if_pos n0e, if_neg c, if_pos s1, s3, ob_some, if_pos s7, s11, if_neg fun w => k (h20.mp w)]
          · have m' := m.thr (v := 0)
            unfold f7_write
            rw [if_pos m.1.1, m_isHouse m' e1 s12, gB2_some, if_pos hx, if_neg n10, if_pos m'.1.1, m_isHouse m' e1 s12, gB2_some, if_pos hy, if_neg n10, if_neg c, if_pos m'.1.1, m'.2.1.2.2.2, e4, if_pos (q20.mpr (by omega)), m_fail m'.1.1, gB2_some]
            rfl
    · exact no (Or.inr hy)
  · exact no (Or.inl hx)
