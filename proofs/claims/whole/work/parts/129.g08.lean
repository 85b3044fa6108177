/-! PURE: addLane -/
def laU (la : Nat → Nat → Nat) (m a b l : Nat) : Nat → Nat → Nat := fun i k => if i = m then (if k = 0 then a else if k = 1 then b else l) else la i k
theorem jn.ext {la lb : Nat → Nat → Nat} {m z y l : Nat} (h : ∀ i, i < m → ∀ k, k < 3 → lb i k = la i k) (j : jn la m z y l) : jn lb m z y l := by
  obtain ⟨i, h1, h2, h3⟩ := j
  refine ⟨i, h1, by rw [h i h1 2 (by omega)]; exact h2, by rw [h i h1 0 (by omega), h i h1 1 (by omega)]; exact h3⟩
theorem Wk.ext {la lb : Nat → Nat → Nat} {m k x y d : Nat} (h : ∀ i, i < m → ∀ k, k < 3 → lb i k = la i k) (w : Wk la m k x y d) : Wk lb m k x y d := by
  induction k generalizing y d with
  | zero => exact w
  | succ k ih =>
    obtain ⟨z, l, e, h1, h2, h3⟩ := w
    exact ⟨z, l, e, h1.ext h, h2, ih h3⟩
theorem Val.ext {la lb : Nat → Nat → Nat} {m n far : Nat} {D : Nat → Nat → Nat} (h : ∀ i, i < m → ∀ k, k < 3 → lb i k = la i k) (v : Val la m n far D) : Val lb m n far D :=
  ⟨v.1, fun x z y l hx hj => v.2.1 x z y l hx (hj.ext fun i hi k hk => (h i hi k hk).symm), v.2.2.1, fun x y hx hy hf => by
    obtain ⟨k, hk⟩ := v.2.2.2 x y hx hy hf
    exact ⟨k, hk.ext h⟩⟩
def alS (s : Sg) (C : Nat → Nat → Nat) (m : Nat) (a b l : Int32) : Sg := fun k => if k = 6 then fun x y => nI (C x y) else su (su (su (su (su (su s 2 m 0 a) 2 m 1 b) 2 m 2 l) 2 m 3 0) 2 m 4 24) 0 0 2 (nI (m + 1)) k
theorem al_6 {s : Sg} {C : Nat → Nat → Nat} {m : Nat} {a b l : Int32} : alS s C m a b l 6 = fun x y => nI (C x y) := if_pos rfl
theorem al_T {s : Sg} {C : Nat → Nat → Nat} {m k : Nat} {a b l : Int32} (h6 : k ≠ 6) (h2 : k ≠ 2) (h0 : k ≠ 0) : alS s C m a b l k = s k := by
  unfold alS
  rw [if_neg h6, su_T h0, su_T h2, su_T h2, su_T h2, su_T h2, su_T h2]
theorem al_0 {s : Sg} {C : Nat → Nat → Nat} {m k : Nat} {a b l : Int32} (h : k ≠ 2) : alS s C m a b l 0 0 k = s 0 0 k := by
  unfold alS
  rw [if_neg (by omega), su_k h, su_T (by omega), su_T (by omega), su_T (by omega), su_T (by omega), su_T (by omega)]
theorem al_02 {s : Sg} {C : Nat → Nat → Nat} {m : Nat} {a b l : Int32} : alS s C m a b l 0 0 2 = nI (m + 1) := by
  unfold alS
  rw [if_neg (by omega), su_s]
theorem al_o {s : Sg} {C : Nat → Nat → Nat} {m i k : Nat} {a b l : Int32} (h : i ≠ m) : alS s C m a b l 2 i k = s 2 i k := by
  unfold alS
  rw [if_neg (by omega), su_t (by omega), su_i h, su_i h, su_i h, su_i h, su_i h]
theorem al_n {s : Sg} {C : Nat → Nat → Nat} {m : Nat} {a b l : Int32} : alS s C m a b l 2 m 0 = a ∧ alS s C m a b l 2 m 1 = b ∧ alS s C m a b l 2 m 2 = l ∧ alS s C m a b l 2 m 3 = 0 ∧ alS s C m a b l 2 m 4 = 24 := by
  unfold alS
  simp [su]
theorem p_join {a0 n1 n2 n3 n4 q a b l : Nat} {g : g_H} {s : Sg} (I : ClI a0 g s n1 n2 n3 n4 q) (h0 : n3 = 0) (h24 : n2 < 24) (ha : a < n1) (hb : b < n1) (hab : a ≠ b) (hl1 : 1 ≤ l) (hl6 : l ≤ 6) :
    ∃ C la g', f5_join g (a0 + 1) (nI a) (nI b) (nI l) = some (nI n2, g') ∧ Ft a0 g g' ∧ ClI a0 g' (alS s C n2 (nI a) (nI b) (nI l)) n1 (n2 + 1) n3 n4 q ∧ Val la (n2 + 1) n1 1000 C ∧ Hl la (n2 + 1) n1 ∧ (∀ i, i < n2 + 1 → la i 0 ≠ la i 1) ∧ (∀ i, i < n2 + 1 → ∀ k, k < 3 → alS s C n2 (nI a) (nI b) (nI l) 2 i k = nI (la i k)) ∧ ∀ x y, x < 14 → y < 14 → C x y ≤ 1000 := by
  obtain ⟨s1, s2, s3, s4, s5, s6, s7, s8, s9, s10, s11, s12, s13, s14, s15⟩ := I.sh
  obtain ⟨C0, la0, u1, u2, u3, u4, u5, u6, u7⟩ := I.2.2.2
  have hext : ∀ i, i < n2 → ∀ k, k < 3 → laU la0 n2 a b l i k = la0 i k := fun i hi k hk => if_neg (by omega)
  have e0 : laU la0 n2 a b l n2 0 = a := by unfold laU; rw [if_pos rfl, if_pos rfl]
  have e1 : laU la0 n2 a b l n2 1 = b := by unfold laU; rw [if_pos rfl, if_neg (by omega), if_pos rfl]
  have e2 : laU la0 n2 a b l n2 2 = l := by unfold laU; rw [if_pos rfl, if_neg (by omega), if_neg (by omega)]
  have hl : Hl (laU la0 n2 a b l) (n2 + 1) n1 := fun i hi => by
    by_cases e : i = n2
    · subst e
      rw [e0, e1, e2]
      exact ⟨ha, hb, hl1, hl6⟩
    · rw [hext i (by omega) 0 (by omega), hext i (by omega) 1 (by omega), hext i (by omega) 2 (by omega)]
      exact u3 i (by omega)
  have hne : ∀ i, i < n2 + 1 → laU la0 n2 a b l i 0 ≠ laU la0 n2 a b l i 1 := fun i hi => by
    by_cases e : i = n2
    · subst e
      rw [e0, e1]
      exact hab
    · rw [hext i (by omega) 0 (by omega), hext i (by omega) 1 (by omega)]
      exact u4 i (by omega)
  have v := u5.ext hext
  obtain ⟨t1, t2, t3, t4, t5, t6, t7, t8, t9⟩ := I.1.2.1.2.1
  have r1 := I.1.2.1.2.2.2.2.1
  have cn2 : Int32.toNatClampNeg (nI n2) = n2 := cl_nI (by omega)
  obtain ⟨g10, hg10⟩ : ∃ h, h = gPI (gPI (gPI (gPI (gPI g (a0 + 4 + n2) 0 (nI a)) (a0 + 4 + n2) 1 (nI b)) (a0 + 4 + n2) 2 (nI l)) (a0 + 4 + n2) 3 0) (a0 + 4 + n2) 4 24 := ⟨_, rfl⟩
  have fL : ∀ (g : g_H) (k : Nat) (v : Int32), Ft a0 g (gPI g (a0 + 4 + n2) k v) := fun g k v => Ft.put ⟨by omega, by omega⟩
  have f10 : Ft a0 g g10 := by
    rw [hg10]
    exact ((((fL _ _ _).tr (fL _ _ _)).tr (fL _ _ _)).tr (fL _ _ _)).tr (fL _ _ _)
  have o10 : ∀ x, x ≠ a0 + 4 + n2 → gI g10 x = gI g x := fun x hx => by
    rw [hg10]
    exact ((((gU_o hx).trans (gU_o hx)).trans (gU_o hx)).trans (gU_o hx)).trans (gU_o hx)
  have tl10 : TL a0 g10 := by unfold TL; rw [f10.1, f10.2.1]; exact ⟨t1, t2, t3, t4, t5, t6, t7, t8, t9⟩
  have wc0 : WC a0 g C0 := fun x y hx hy => (r1.2.2.2.2 x y hx hy).trans (u1 x y hx hy).1
  have wc : WC a0 g10 C0 := fun x y hx hy => by rw [o10 _ (by omega)]; exact wc0 x y hx hy
  obtain ⟨g', C, j1, j2, j3, j4⟩ := p_jLoop v hl s12 n1 0 300 g10 C0 (by omega) (by omega) tl10 (by rw [o10 _ (by omega)]; exact s8) wc (Jv.init v)
  rw [e0, e1, e2, o10 _ (by omega), s9, nI_1] at j1
  have hval := Jv.fin v hl j4
  have hC : ∀ x y, x < 14 → y < 14 → C x y ≤ 1000 := fun x y hx hy => by
    have := j4.1 x y
    have := (u1 x y hx hy).2
    omega
  have fF : Ft a0 g (gPI g' (a0 + 1) 1 (nI (n2 + 1))) := (f10.tr j2.ft).tr (Ft.put ⟨by omega, by omega⟩)
  have oF : ∀ x, ¬ (a0 + 29 ≤ x ∧ x ≤ a0 + 42) → x ≠ a0 + 1 → gI (gPI g' (a0 + 1) 1 (nI (n2 + 1))) x = gI g10 x := fun x h1 h2 => (show gI (gPI g' (a0 + 1) 1 (nI (n2 + 1))) x = gI g' x from gU_o h2).trans (j2.2.2.2.2 x h1)
  have wt := I.1.1.1
  obtain ⟨n0', n1', n2', n3', n4'⟩ := al_n (s := s) (C := C) (m := n2) (a := nI a) (b := nI b) (l := nI l)
  have wt' : WT (alS s C n2 (nI a) (nI b) (nI l)) n1 (n2 + 1) := by
    obtain ⟨w1, w2, w3, w4, w5, w6, w7⟩ := wt
    refine ⟨(al_0 (by omega)).trans w1, w2, al_02, by omega, fun i hi => ?_, by rw [al_T (by omega) (by omega) (by omega)]; exact w6, fun x y hx hy => ⟨C x y, hC x y (by omega) (by omega), by rw [al_6]⟩⟩
    by_cases e : i = n2
    · subst e
      rw [n0', n1', n2', n3', n4']
      exact ⟨inR_of (by omega) ha, inR_of (by omega) hb, fun k => hab (nI_inj (by omega) (by omega) k), ⟨l, hl1, hl6, rfl⟩, 0, 24, by omega, by omega, by omega, rfl, rfl⟩
    · rw [al_o e, al_o e, al_o e, al_o e, al_o e]
      exact w5 i (by omega)
  have h2 : ∀ i, i < n2 + 1 → ∀ k, k < 3 → alS s C n2 (nI a) (nI b) (nI l) 2 i k = nI (laU la0 n2 a b l i k) := fun i hi k hk => by
    by_cases e : i = n2
    · subst e
      match k, hk with
      | 0, _ => rw [n0', e0]
      | 1, _ => rw [n1', e1]
      | 2, _ => rw [n2', e2]
    · rw [al_o e, hext i (by omega) k hk]
      exact u2 i (by omega) k hk
  have ws' : Ws (alS s C n2 (nI a) (nI b) (nI l)) n1 (n2 + 1) := by
    refine ⟨C, laU la0 n2 a b l, fun x y hx hy => ⟨by rw [al_6], hC x y hx hy⟩, h2, hl, hne, hval, fun x hx => ?_, fun x y hx hy hxy hh => ?_⟩
    · by_cases e : x < n1
      · exact j4.2.1 x e
      · rw [j4.2.2.2.2 x x (by omega)]; exact u6 x hx
    · rw [j4.2.2.2.2 x y (by omega)]; exact u7 x y hx hy hxy hh
  have r1' : R1 a0 (a0 + 43) (gPI g' (a0 + 1) 1 (nI (n2 + 1))) (alS s C n2 (nI a) (nI b) (nI l)) (n2 + 1) := by
    obtain ⟨q1, q2, q3, q4, q5⟩ := r1
    have e43 : gI (gPI g' (a0 + 1) 1 (nI (n2 + 1))) (a0 + 43) = gI g (a0 + 43) := (oF _ (by omega) (by omega)).trans (o10 _ (by omega))
    refine ⟨?_, ?_, fun k hk => ?_, fun i hi => ?_, fun x y hx hy => ?_⟩
    · rw [al_0 (by omega), gI_PI, if_pos rfl, if_neg (by omega), j2.2.2.2.2 _ (by omega), o10 _ (by omega)]; exact q1
    · rw [al_02, gI_PI, if_pos rfl, if_pos rfl]
    · rw [oF _ (by omega) (by omega), o10 _ (by omega), al_T (by omega) (by omega) (by omega)]; exact q3 k hk
    · rw [e43, I.2.2.1, oF (a0 + 4 + i) (by omega) (by omega)]
      refine ⟨fun k hk => ?_, fun k => absurd k (nI_m1 (by omega)), fun _ => ?_⟩
      · by_cases e : i = n2
        · subst e
          rw [hg10]
          match k, hk with
          | 0, _ => rw [n0']; simp [gI_PI]
          | 1, _ => rw [n1']; simp [gI_PI]
          | 2, _ => rw [n2']; simp [gI_PI]
        · rw [o10 _ (by omega), al_o e]; exact (q4 i (by omega)).1 k hk
      · by_cases e : i = n2
        · subst e
          rw [hg10, n3', n4']
          simp [gI_PI]
        · rw [o10 _ (by omega), al_o e, al_o e]
          exact (q4 i (by omega)).2.2 (by rw [I.2.2.1]; exact nI_m1 (by omega))
    · rw [al_6, gI_PI, if_neg (by omega)]
      exact j3 x y hx hy
  refine ⟨C, laU la0 n2 a b l, _, ?_, fF, I.st fF wt' (Nat.le_refl _) (al_T (by omega) (by omega) (by omega)) (al_T (by omega) (by omega) (by omega)) (al_T (by omega) (by omega) (by omega)) (al_0 (by omega)) (al_0 (by omega)) (al_0 (by omega)) (fun b hb => absurd hb (by omega)) (fun b hb => absurd hb (by omega)) r1' ws', hval, hl, hne, h2, hC⟩
  unfold f5_join f2_build
  rw [if_pos t1, t3, ob_some, t6, if_pos rfl, s9, if_pos (ixOk (by omega) (by omega)), cn2, (t8 n2 (by omega)).1, ob_some, if_pos (t8 n2 (by omega)).2, if_pos (t8 n2 (by omega)).2, ob_some, ← hg10]
  exact j1
