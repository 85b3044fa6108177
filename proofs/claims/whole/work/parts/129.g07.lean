/-! PURE: addHouse -/
theorem Val.grow {la : Nat → Nat → Nat} {m n : Nat} {C : Nat → Nat → Nat} (v : Val la m n 1000 C) (hl : Hl la m n) (h14 : n < 14) (hd : ∀ x, x < 14 → C x x = 0) (hC : ∀ x y, x < 14 → y < 14 → C x y ≤ 1000) (hf : ∀ x y, x < 14 → y < 14 → x ≠ y → (n ≤ x ∨ n ≤ y) → C x y = 1000) : Val la m (n + 1) 1000 C := by
  refine ⟨fun x hx => hd x (by omega), fun x z y l hx hj => ?_, fun x y hx hy => hC x y (by omega) (by omega), fun x y hx hy h => ?_⟩
  · obtain ⟨hz, hy, -, -⟩ := hj.lt hl
    by_cases e : x < n
    · exact v.2.1 x z y l e hj
    · have h1 := hf x z (by omega) (by omega) (by omega) (by omega)
      have h2 := hC x y (by omega) (by omega)
      omega
  · by_cases e : x < n ∧ y < n
    · exact v.2.2.2 x y e.1 e.2 h
    · by_cases e2 : x = y
      · subst e2
        exact ⟨0, rfl, hd x (by omega)⟩
      · have := hf x y (by omega) (by omega) e2 (by omega)
        omega
theorem Hl.mono {la : Nat → Nat → Nat} {m n n' : Nat} (h : Hl la m n) (hn : n ≤ n') : Hl la m n' := fun i hi => by
  obtain ⟨a, b, c, d⟩ := h i hi
  exact ⟨by omega, by omega, c, d⟩
theorem fi_nI {C : Nat} (h : C ≤ 1000) : nI (if C = 1000 then 9999 else C) = fi (nI C) := by
  unfold fi
  by_cases e : C = 1000
  · rw [if_pos e, if_pos (show nI C = (1000 : Int32) by rw [e]; rfl)]
    rfl
  · have kn : ¬ nI C = (1000 : Int32) := fun k => e ((nI_eq (b := 1000) (by omega) (by omega)).mp k)
    rw [if_neg e, if_neg kn]
/-- the model's matrix after a reckoning -/
theorem MX.reck {M n1 n2 n3 n4 : Nat} {g g' : g_H} {s t : Sg} {C la : Nat → Nat → Nat} (m : MX M g s n1 n2 n3 n4) (f : Fk M g g') {D : Nat → Nat → Nat} (wm : WM M g' n1 D) (v : Val la n2 n1 9999 D) (c : Val la n2 n1 1000 C) (hl : Hl la n2 n1) (h14 : n1 ≤ 14)
    (h6 : ∀ x y, x < 14 → y < 14 → t 6 x y = nI (C x y) ∧ C x y ≤ 1000) (ho : ∀ k, k ≠ 6 → t k = s k) : MX M g' t n1 n2 n3 n4 := by
  obtain ⟨l, z0, ⟨z1, z2, z3, z4⟩, z5⟩ := m
  obtain ⟨f1, f2, f3, f4, f5⟩ := f
  refine ⟨by unfold ML; rw [f1, f2]; exact l, ?_, ⟨?_, ?_, fun x y hx hy => ?_, ?_⟩, ?_⟩
  · unfold M0; rw [f5 _ (by omega), ho 0 (by omega)]; exact z0
  · rw [f5 _ (by omega), ho 1 (by omega)]; exact z1
  · rw [f5 _ (by omega), ho 2 (by omega)]; exact z2
  · obtain ⟨q1, q2⟩ := h6 x y (by omega) (by omega)
    rw [wm x y hx hy, q1, c.uni v hl h14 hx hy, fi_nI q2]
  · rw [f5 _ (by omega), ho 3 (by omega), ho 4 (by omega)]; exact z4
  · unfold M2; rw [f5 _ (by omega), f5 _ (by omega), f5 _ (by omega), ho 3 (by omega), ho 5 (by omega), ho 0 (by omega)]; exact z5
theorem Fk.mm {M : Nat} {g h : g_H} (f : Fk M g h) : Fmm M g h := ⟨Nat.le_of_eq f.2.2.2.1.symm, fun a _ => ⟨by rw [f.1], by rw [f.2.2.1], by rw [f.2.1], fun ha => f.2.2.2.2 a (by omega)⟩⟩
def ahS (s : Sg) (n1 : Nat) : Sg := su s 0 0 1 (nI (n1 + 1))
theorem ah_T {s : Sg} {n1 k : Nat} (h : k ≠ 0) : ahS s n1 k = s k := su_T h
theorem ah_0 {s : Sg} {n1 k : Nat} (h : k ≠ 1) : ahS s n1 0 0 k = s 0 0 k := su_k h
theorem ah_1 {s : Sg} {n1 : Nat} : ahS s n1 0 0 1 = nI (n1 + 1) := su_s
theorem o_addHouse {a0 n1 n2 n3 n4 q : Nat} {g : g_H} {s : Sg} (I : ClI a0 g s n1 n2 n3 n4 q) : OpR a0 g s n1 n2 n3 n4 q (f6_addHouse g a0) (fun h => f7_addHouse h (a0 + 153)) c1 := by
  obtain ⟨s1, s2, s3, s4, s5, s6, s7, s8, s9, s10, s11, s12, s13, s14, s15⟩ := I.sh
  have e1 := I.1.1.1.1
  have h14 : ∀ n, n ≤ 14 → ((nI n < (14 : Int32)) ↔ n < 14) := fun n hn => nI_ltI (b := 14) (by omega) (by omega)
  have q14 : ∀ n, n ≤ 14 → ((nI n = (14 : Int32)) ↔ n = 14) := fun n hn => nI_eq (b := 14) (by omega) (by omega)
  by_cases hx : n1 < 14
  · obtain ⟨C, la, u1, u2, u3, u4, u5, u6, u7⟩ := I.2.2.2
    have hv := u5.grow u3 hx u6 (fun x y a b => (u1 x y a b).2) u7
    have hl := u3.mono (Nat.le_succ n1)
    have wt := I.1.1.1
    have hsl : ∀ x y, sl (ahS s n1) x y = sl s x y := fun x y => by
      have h : ∀ k, slF (ahS s n1) x y k = slF s x y k := fun k => by
        induction k with
        | zero => rfl
        | succ k ih =>
          show (if _ then _ else _) = (if _ then _ else _)
          rw [ih, ah_T (by omega)]
      unfold sl
      rw [h, ah_0 (by omega)]
    have wt' : WT (ahS s n1) (n1 + 1) n2 := by
      obtain ⟨w1, w2, w3, w4, w5, w6, w7⟩ := wt
      refine ⟨ah_1, by omega, by rw [ah_0 (by omega)]; exact w3, w4, fun i hi => ?_, by rw [ah_T (by omega)]; exact w6, fun x y hx hy => ?_⟩
      · rw [ah_T (by omega)]
        obtain ⟨a, b, c⟩ := w5 i hi
        exact ⟨inR_mono a (by omega) (by omega), inR_mono b (by omega) (by omega), c⟩
      · rw [ah_T (by omega)]
        obtain ⟨p1, p2⟩ := u1 x y (by omega) (by omega)
        exact ⟨C x y, p2, p1⟩
    have htg : ∀ b, b < n3 → ∀ x, x < 14 → tg (ahS s n1) b (nI x) = tg s b (nI x) := by
      intro b hb x hx'
      obtain ⟨z, p, l, st, ho, e1', e2, e3, e4, e5, e6, e7, e8, e9, e10, e11, e12, e13, e14, e15⟩ := I.1.wb hb
      have cz : cl (nI z) = z := cl_nI (by omega)
      have hwy : ∀ k, k < z → wy (ahS s n1) (s 4 b k) (nI x) = wy s (s 4 b k) (nI x) := by
        intro k hk
        obtain ⟨j, hj, hj2⟩ := inR_nat (by omega) (e14 k hk)
        have cj : cl (nI j) = j := cl_nI (by omega)
        have cx : cl (nI x) = x := cl_nI (by omega)
        unfold wy
        rw [ah_1, e1, ah_T (by omega), hj2, cj, cx]
        by_cases c : x < n1
        · rw [if_pos ⟨inR_of (by omega) (by omega), inR_of (by omega) (by omega)⟩, if_pos ⟨inR_of (by omega) hj, inR_of (by omega) c⟩]
        · rw [if_neg (c := inR (nI n1) (nI j) ∧ inR (nI n1) (nI x)) (fun k => k.2.2 (nI_le (by omega) (by omega)))]
          by_cases d : x < n1 + 1
          · rw [if_pos ⟨inR_of (by omega) (by omega), inR_of (by omega) d⟩, (u1 j x (by omega) hx').1, u7 j x (by omega) hx' (by omega) (by omega)]
            rfl
          · rw [if_neg fun k => k.2.2 (nI_le (by omega) (by omega))]
      have hF : ∀ k, k ≤ z → tgF (ahS s n1) b (nI x) k = tgF s b (nI x) k := fun k hk => by
        induction k with
        | zero => rfl
        | succ k ih =>
          show (if _ then _ else _) = (if _ then _ else _)
          rw [ih (by omega), ah_T (by omega), hwy k (by omega)]
      unfold tg
      rw [ah_T (by omega), e1', cz, hF z (Nat.le_refl _)]
    have r1' : R1 a0 (a0 + 43) (gPI g (a0 + 1) 0 (nI (n1 + 1))) (ahS s n1) n2 := by
      obtain ⟨q1, q2, q3, q4, q5⟩ := I.1.2.1.2.2.2.2.1
      refine ⟨?_, ?_, fun k hk => ?_, fun i hi => ?_, fun u v hu hv => ?_⟩
      · rw [ah_1]; simp [gI_PI]
      · rw [ah_0 (by omega), gI_PI, if_pos rfl, if_neg (by omega)]; exact q2
      · rw [gI_PI, if_neg (by omega), ah_T (by omega)]; exact q3 k hk
      · rw [ah_T (by omega), show gI (gPI g (a0 + 1) 0 (nI (n1 + 1))) (a0 + 4 + i) = gI g (a0 + 4 + i) from gU_o (by omega), show gI (gPI g (a0 + 1) 0 (nI (n1 + 1))) (a0 + 43) = gI g (a0 + 43) from gU_o (by omega)]
        exact q4 i hi
      · rw [gI_PI, if_neg (by omega), ah_T (by omega)]; exact q5 u v hu hv
    have ws' : Ws (ahS s n1) (n1 + 1) n2 := ⟨C, la, by rw [ah_T (by omega)]; exact u1, by rw [ah_T (by omega)]; exact u2, hl, u4, hv, u6, fun x y a b c d => u7 x y a b c (by omega)⟩
    have ft : Ft a0 g (gPI g (a0 + 1) 0 (nI (n1 + 1))) := Ft.put ⟨by omega, by omega⟩
    have I' := I.st ft wt' (by omega) (ah_T (by omega)) (ah_T (by omega)) (ah_T (by omega)) (ah_0 (by omega)) (ah_0 (by omega)) (ah_0 (by omega)) (fun b hb => hsl) htg r1' ws'
    refine ⟨0, nI n1, _, _, n1 + 1, n2, n3, n4, q, ?_, by omega, ft.fc, I', by omega, fun h m hZ => ?_⟩
    · unfold f6_addHouse
      rw [if_pos s1, s2, ob_some, if_pos s6, s8, if_pos ((h14 n1 (by omega)).mpr hx), ob_some, if_pos s6, s8, nI_1]
    · have m' := m.thr (v := 0)
      have g1 : gI (gPI h (a0 + 153) 0 0) (a0 + 153) 1 = nI n1 := m'.2.1.1.trans e1
      -- one house more, the ways not yet
      have m2 : MX (a0 + 153) (gPI (gPI h (a0 + 153) 0 0) (a0 + 153) 1 (nI (n1 + 1))) (ahS s n1) 0 n2 n3 n4 := by
        obtain ⟨l, ⟨y1, y2, y3, y4⟩, ⟨z1, z2, z3, z4⟩, ⟨p1, p2, p3⟩⟩ := m'
        have e : ∀ k, k ≠ 0 → gI (gPI (gPI h (a0 + 153) 0 0) (a0 + 153) 1 (nI (n1 + 1))) (a0 + 153 + k) = gI (gPI h (a0 + 153) 0 0) (a0 + 153 + k) := fun k hk => gU_o (by omega)
        refine ⟨l, ⟨?_, ?_, ?_, ?_⟩, ⟨?_, ?_, fun x y hx hy => by omega, ?_⟩, ?_⟩
        · rw [ah_1]; simp [gI_PI]
        · rw [ah_0 (by omega), gI_PI, if_pos rfl, if_neg (by omega)]; exact y2
        · rw [ah_0 (by omega), gI_PI, if_pos rfl, if_neg (by omega)]; exact y3
        · rw [ah_0 (by omega), gI_PI, if_pos rfl, if_neg (by omega)]; exact y4
        · rw [e 1 (by omega), ah_T (by omega)]; exact z1
        · rw [e 2 (by omega), ah_T (by omega)]; exact z2
        · rw [e 5 (by omega), ah_T (by omega), ah_T (by omega)]; exact z4
        · unfold M2; rw [e 4 (by omega), e 6 (by omega), e 7 (by omega), ah_T (by omega), ah_T (by omega), ah_0 (by omega)]; exact ⟨p1, p2, p3⟩
      have rk : RkI (a0 + 153) (gPI (gPI h (a0 + 153) 0 0) (a0 + 153) 1 (nI (n1 + 1))) (n1 + 1) n2 la :=
        ⟨m2.1, m2.2.1.1.trans ah_1, m2.2.1.2.1.trans ((ah_0 (by omega)).trans wt.2.2.1), by omega, s13, fun i hi k hk => by rw [m2.2.2.1.2.1 i hi k (by omega), ah_T (by omega)]; exact u2 i hi k hk⟩
      obtain ⟨g', D, r1, r2, r3, r4⟩ := r_reckon hl u4 rk
      have m3 : MX (a0 + 153) g' (ahS s n1) (n1 + 1) n2 n3 n4 := by
        have m2' : MX (a0 + 153) g' (ahS s n1) 0 n2 n3 n4 := by
          obtain ⟨l, z0, ⟨z1, z2, z3, z4⟩, z5⟩ := m2
          obtain ⟨f1, f2, f3, f4, f5⟩ := r2
          refine ⟨by unfold ML; rw [f1, f2]; exact l, ?_, ⟨?_, ?_, fun x y hx hy => by omega, ?_⟩, ?_⟩
          · unfold M0; rw [f5 _ (by omega)]; exact z0
          · rw [f5 _ (by omega)]; exact z1
          · rw [f5 _ (by omega)]; exact z2
          · rw [f5 _ (by omega)]; exact z4
          · unfold M2; rw [f5 _ (by omega), f5 _ (by omega), f5 _ (by omega)]; exact z5
        refine ⟨m2'.1, m2'.2.1, ⟨m2'.2.2.1.1, m2'.2.2.1.2.1, fun x y hx hy => ?_, m2'.2.2.1.2.2.2⟩, m2'.2.2.2⟩
        obtain ⟨q1, q2⟩ := u1 x y (by omega) (by omega)
        rw [r3 x y hx hy, ah_T (by omega), q1, hv.uni r4 hl (by omega) hx hy, fi_nI q2]
      refine ⟨nI n1, g', ?_, ?_, m3, ?_, fun _ => rfl⟩
      · show f7_addHouse h (a0 + 153) = _
        unfold f7_addHouse gLt
        rw [if_pos m.1.1, g1, if_neg fun k => absurd ((q14 n1 (by omega)).mp k) (by omega)]
        dsimp only
        rw [nI_1, r1, ob_some, if_pos m3.1.1, m3.2.1.1, ah_1, nI_pred]
      · exact ((Fmm.put (a := a0 + 153) ⟨by omega, by omega⟩).tr (Fmm.put (a := a0 + 153) ⟨by omega, by omega⟩)).tr r2.mm
      · rw [r2.2.2.2.2 _ (by omega)]
        simp [gI_PI]
        rfl
  · refine OpR.thr I 3 (by omega) (by omega) ?_ fun h m => ?_
    · unfold f6_addHouse
      rw [if_pos s1, s2, ob_some, if_pos s6, s8, if_neg fun k => hx ((h14 n1 s12).mp k)]
    · have m' := m.thr (v := 0)
      have g1 : gI (gPI h (a0 + 153) 0 0) (a0 + 153) 1 = nI n1 := m'.2.1.1.trans e1
      unfold f7_addHouse
      rw [if_pos m.1.1, g1, if_pos ((q14 n1 s12).mpr (by omega)), m_fail m'.1.1, gB2_some]
      rfl
