/-! PURE: a bee with a new route: the table, the class and the model -/
def nbS (s : Sg) (b : Nat) (w v : Nat → Int32) : Sg := fun t i k => if t = 4 ∧ i = b then w k else if t = 3 ∧ i = b then v k else s t i k
def tb (s : Sg) (b n3 : Nat) (w v : Nat → Int32) : Sg := su (nbS s b w v) 0 0 3 (nI n3)
theorem tb_T {s : Sg} {b n3 t : Nat} {w v : Nat → Int32} (h0 : t ≠ 0) (h3 : t ≠ 3) (h4 : t ≠ 4) : tb s b n3 w v t = s t := by
  funext i k
  simp [tb, su, nbS, h0, h3, h4]
theorem tb_03 {s : Sg} {b n3 : Nat} {w v : Nat → Int32} : tb s b n3 w v 0 0 3 = nI n3 := su_s
theorem tb_0 {s : Sg} {b n3 k : Nat} {w v : Nat → Int32} (h : k ≠ 3) : tb s b n3 w v 0 0 k = s 0 0 k := by
  simp [tb, su, nbS, h]
theorem tb_3 {s : Sg} {b n3 i : Nat} {w v : Nat → Int32} (h : i ≠ b) : tb s b n3 w v 3 i = s 3 i := by
  funext k
  simp [tb, su, nbS, h]
theorem tb_3b {s : Sg} {b n3 : Nat} {w v : Nat → Int32} : tb s b n3 w v 3 b = v := by
  funext k
  simp [tb, su, nbS]
theorem tb_4 {s : Sg} {b n3 i : Nat} {w v : Nat → Int32} (h : i ≠ b) : tb s b n3 w v 4 i = s 4 i := by
  funext k
  simp [tb, su, nbS, h]
theorem tb_4b {s : Sg} {b n3 : Nat} {w v : Nat → Int32} : tb s b n3 w v 4 b = w := by
  funext k
  simp [tb, su, nbS]
theorem tb_wy {s : Sg} {b n3 : Nat} {w v : Nat → Int32} (x y : Int32) : wy (tb s b n3 w v) x y = wy s x y := by
  unfold wy
  rw [tb_0 (by omega), tb_T (by omega) (by omega) (by omega)]
theorem tb_sl {s : Sg} {b n3 : Nat} {w v : Nat → Int32} (x y : Int32) : sl (tb s b n3 w v) x y = sl s x y := by
  have h : ∀ k, slF (tb s b n3 w v) x y k = slF s x y k := fun k => by
    induction k with
    | zero => rfl
    | succ k ih =>
      show (if _ then _ else _) = (if _ then _ else _)
      rw [ih, tb_T (by omega) (by omega) (by omega)]
  unfold sl
  rw [h, tb_0 (by omega)]
theorem tb_tgR {s : Sg} {b n3 : Nat} {w v u : Nat → Int32} {to : Int32} {k : Nat} : tgR (tb s b n3 w v) u to k = tgR s u to k := by
  induction k with
  | zero => rfl
  | succ k ih =>
    show (if _ then _ else _) = (if _ then _ else _)
    rw [ih, tb_wy]
theorem tb_tg {s : Sg} {b n3 i : Nat} {w v : Nat → Int32} {to : Int32} (h : i ≠ b) : tg (tb s b n3 w v) i to = tg s i to := by
  unfold tg
  rw [tgR_4, tgR_4, tb_tgR, tb_4 h, tb_3 h]
theorem tb_tgb {s : Sg} {b n3 n : Nat} {w v : Nat → Int32} {to : Int32} (h : v 5 = nI n) (h7 : n ≤ 7) : tg (tb s b n3 w v) b to = (tgR s w to n).1 := by
  unfold tg
  rw [tgR_4, tb_tgR, tb_4b, tb_3b, h, show cl (nI n) = n from cl_nI (by omega)]
/-- the new bee's numbers -/
def VB (n : Nat) (v : Nat → Int32) : Prop := v 5 = nI n ∧ ∃ p l st ho : Nat, v 0 = nI p ∧ p < n ∧ v 1 = nI l ∧ l ≤ 6 ∧ v 2 = nI st ∧ st ≤ 30 ∧ v 3 = nI ho ∧ ho ≤ 20 ∧ (v 4 = 0 ∨ v 4 = 1) ∧ (v 7 = 0 ∨ v 7 = 1)
theorem WF.tbl {s : Sg} {n1 n2 n3 n4 q b n m3 : Nat} {w v : Nat → Int32} (wf : WF s n1 n2 n3 n4 q) (hv : VB n v) (gw : GW s n1 n w) (hn : 1 ≤ n ∧ n ≤ 7) (h6 : m3 ≤ 6) (hle : n3 ≤ m3) (hb : ∀ b', b' < m3 → b' = b ∨ b' < n3) (hc : ∃ c, c ≤ 3 ∧ car s b = nI c) : WF (tb s b m3 w v) n1 n2 m3 n4 q := by
  obtain ⟨⟨e1, e2, e3, e4, e5, e6, e7⟩, w2, w3, w4, w5, w6, w7, w8, w9⟩ := wf
  obtain ⟨v5, p, l, st, ho, v0, v0', v1, v1', v2, v2', v3, v3', v4, v7⟩ := hv
  have t4 : tb s b m3 w v 0 0 4 = nI n4 := (tb_0 (by omega)).trans w4
  have hcar : ∀ x, car (tb s b m3 w v) x = car s x := fun x => by
    rw [car_def t4 w5, car_def w4 w5]
    exact carF_keep fun i hi => by rw [tb_T (by omega) (by omega) (by omega)]
  refine ⟨⟨(tb_0 (by omega)).trans e1, e2, (tb_0 (by omega)).trans e3, e4, ?_, ?_, ?_⟩, tb_03, h6, t4, w5, (tb_0 (by omega)).trans w6, w7, fun b' hb' => ⟨?_, ?_⟩, fun i hi => ?_⟩
  · rw [tb_T (by omega) (by omega) (by omega)]; exact e5
  · rw [tb_T (by omega) (by omega) (by omega)]; exact e6
  · rw [tb_T (by omega) (by omega) (by omega)]; exact e7
  · by_cases e : b' = b
    · subst e
      refine ⟨n, p, l, st, ho, ?_⟩
      rw [tb_3b, tb_4b]
      refine ⟨v5, hn.1, hn.2, v0, v0', v1, v1', v2, v2', v3, v3', v4, v7, gw.1, fun k hk => ?_⟩
      rw [tb_sl]
      exact gw.2.1 k hk
    · obtain ⟨z, p, l, st, ho, x⟩ := (w8 b' ((hb b' hb').resolve_left e)).1
      refine ⟨z, p, l, st, ho, ?_⟩
      rw [tb_3 e, tb_4 e]
      obtain ⟨x1, x2, x3, x4, x5, x6, x7, x8, x9, x10, x11, x12, x13, x14, x15⟩ := x
      exact ⟨x1, x2, x3, x4, x5, x6, x7, x8, x9, x10, x11, x12, x13, x14, fun k hk => by rw [tb_sl]; exact x15 k hk⟩
  · rw [hcar]
    by_cases e : b' = b
    · rw [e]; exact hc
    · exact (w8 b' ((hb b' hb').resolve_left e)).2
  · have x := w9 i hi
    unfold WL at x ⊢
    rw [tb_T (by omega) (by omega) (by omega)]
    obtain ⟨x1, x2, x3, x4, x5, x6⟩ := x
    refine ⟨x1, x2, ?_, x4, x5, x6⟩
    rcases x3 with x3 | ⟨j, j1, j2⟩
    · exact Or.inl x3
    · exact Or.inr ⟨j, by omega, j2⟩
/-- the class's cells of bee b and of its route -/
def BC (a0 b n : Nat) (h : g_H) (s : Sg) (w v : Nat → Int32) : Prop := gI h (a0 + 43 + 2 + 5 * b) 0 = nI b ∧ gI h (a0 + 43 + 2 + 5 * b) 2 = v 0 ∧ gI h (a0 + 43 + 2 + 5 * b) 3 = v 1 ∧ gI h (a0 + 43 + 2 + 5 * b) 4 = v 2 ∧ gI h (a0 + 43 + 2 + 5 * b) 5 = v 3 ∧ gI h (a0 + 43 + 2 + 5 * b) 6 = car s b ∧ gI h (a0 + 43 + 2 + 5 * b) 7 = v 4 ∧ gI h (a0 + 43 + 2 + 5 * b) 8 = v 6 ∧ gI h (a0 + 43 + 2 + 5 * b) 9 = v 7 ∧
  gI h (a0 + 46 + 5 * b) 0 = nI n ∧ (∀ i, i < n → gI h (a0 + 47 + 5 * b) i = w i) ∧ (∀ i, i + 1 < n → gI h (a0 + 48 + 5 * b) i = sl s (w i) (w (i + 1))) ∧ ∀ j, j < 14 → gI h (a0 + 49 + 5 * b) j = (tgR s w (nI j) n).1
def bx (a0 b a : Nat) : Prop := a = a0 + 43 + 2 + 5 * b ∨ a = a0 + 46 + 5 * b ∨ a = a0 + 47 + 5 * b ∨ a = a0 + 48 + 5 * b ∨ a = a0 + 49 + 5 * b
theorem ClI.tbl {a0 n1 n2 n3 n4 q b n m3 : Nat} {g h : g_H} {s : Sg} {w v : Nat → Int32} (I : ClI a0 g s n1 n2 n3 n4 q) (hv : VB n v) (gw : GW s n1 n w) (hn : 1 ≤ n ∧ n ≤ 7) (h6 : m3 ≤ 6) (hle : n3 ≤ m3) (hb : ∀ b', b' < m3 → b' = b ∨ b' < n3) (hb6 : b < 6) (hc : ∃ c, c ≤ 3 ∧ car s b = nI c)
    (hS : gS h = gS g) (hR : gR h = gR g) (hI : ∀ a, ¬ bx a0 b a → a ≠ a0 + 43 → gI h a = gI g a) (h3 : gI h (a0 + 43) 3 = nI m3) (hk : ∀ k, k ≠ 3 → gI h (a0 + 43) k = gI g (a0 + 43) k) (bc : BC a0 b n h s w v) : ClI a0 h (tb s b m3 w v) n1 n2 m3 n4 q := by
  obtain ⟨c1, c2, c3, c4, c5, c6, c7, c8, c9, c10, c11, c12, c13⟩ := bc
  have w3 := I.1.1.2.2.1
  have w4 := I.1.1.2.2.2.1
  have w5 := I.1.1.2.2.2.2.1
  have hw13 := I.1.1.1.2.1
  have hn2 := I.1.1.1.2.2.2.1
  have v5 := hv.1
  have hT : ∀ t, t ≠ 0 → t ≠ 3 → t ≠ 4 → tb s b m3 w v t = s t := fun t a1 a2 a3 => tb_T a1 a2 a3
  have t4 : tb s b m3 w v 0 0 4 = nI n4 := (tb_0 (by omega)).trans w4
  have hcar : ∀ x, car (tb s b m3 w v) x = car s x := fun x => by
    rw [car_def t4 w5, car_def w4 w5]
    exact carF_keep fun i hi => by rw [hT 5 (by omega) (by omega) (by omega)]
  have harr : arr (tb s b m3 w v) = arr s := by
    rw [arr_def t4 w5, arr_def w4 w5]
    exact arrF_keep fun i hi => by rw [hT 5 (by omega) (by omega) (by omega)]
  refine ⟨⟨I.1.1.tbl hv gw hn h6 hle hb hc, ?_, ?_⟩, ?_, (hk 7 (by omega)).trans I.2.2.1, ?_⟩
  · obtain ⟨r0, r1, r2, r3, ⟨q1, q2, q3, q4, q5⟩, r5⟩ := I.1.2.1
    refine ⟨r0, by unfold TL; rw [hS, hR]; exact r1, by unfold FL; rw [hS, hR]; exact r2, fun x hx => by unfold RtL; rw [hS, hR]; exact r3 x hx, ⟨?_, ?_, fun x hx => ?_, fun i hi => ?_, fun x y hx hy => ?_⟩, fun b' hb' => ?_⟩
    · rw [hI _ (fun k => by unfold bx at k; omega) (by omega), tb_0 (by omega)]; exact q1
    · rw [hI _ (fun k => by unfold bx at k; omega) (by omega), tb_0 (by omega)]; exact q2
    · rw [hI _ (fun k => by unfold bx at k; omega) (by omega), hT 1 (by omega) (by omega) (by omega)]; exact q3 x hx
    · rw [hI (a0 + 4 + i) (fun k => by unfold bx at k; omega) (by omega), hk 7 (by omega), hT 2 (by omega) (by omega) (by omega)]; exact q4 i hi
    · rw [hI _ (fun k => by unfold bx at k; omega) (by omega), hT 6 (by omega) (by omega) (by omega)]; exact q5 x y hx hy
    · by_cases e : b' = b
      · subst e
        rw [tb_3b, tb_4b, v5, show cl (nI n) = n from cl_nI (by omega)]
        refine ⟨c10, c11, fun k hk' => ?_, fun x hx => ?_⟩
        · rw [tb_sl]; exact c12 k hk'
        · rw [tb_tgb v5 hn.2]; exact c13 x hx
      · have lt := (hb b' hb').resolve_left e
        obtain ⟨x1, x2, x3, x4⟩ := r5 b' lt
        rw [tb_3 e, tb_4 e, hI (a0 + 46 + 5 * b') (fun k => by unfold bx at k; omega) (by omega), hI (a0 + 47 + 5 * b') (fun k => by unfold bx at k; omega) (by omega), hI (a0 + 48 + 5 * b') (fun k => by unfold bx at k; omega) (by omega), hI (a0 + 49 + 5 * b') (fun k => by unfold bx at k; omega) (by omega)]
        exact ⟨x1, x2, fun k hk' => by rw [tb_sl]; exact x3 k hk', fun x hx => by rw [tb_tg e]; exact x4 x hx⟩
  · obtain ⟨d1, d2, d3, d4, d5⟩ := I.1.2.2
    refine ⟨⟨h3.trans tb_03.symm, ?_, ?_⟩, fun b' hb' => ?_, fun b' hb' => ?_, ?_, fun i hi k hk' => ?_⟩
    · rw [hk 4 (by omega), tb_0 (by omega)]; exact d1.2.1
    · rw [hk 5 (by omega), tb_0 (by omega)]; exact d1.2.2
    · by_cases e : b' = b
      · subst e
        rw [tb_3b, hR]
        exact ⟨(I.2.1.2.2.2.2.2.2.2 b' hb6).1, c1, c2, c3, c4, c5, c7, c8, c9⟩
      · have lt := (hb b' hb').resolve_left e
        rw [tb_3 e, hR, hI (a0 + 43 + 2 + 5 * b') (fun k => by unfold bx at k; omega) (by omega)]
        exact d2 b' lt
    · rw [hcar]
      by_cases e : b' = b
      · subst e; exact c6
      · have lt := (hb b' hb').resolve_left e
        rw [hI (a0 + 43 + 2 + 5 * b') (fun k => by unfold bx at k; omega) (by omega)]
        exact d3 b' lt
    · unfold R5; rw [harr, hk 6 (by omega)]; exact d4
    · rw [hI (a0 + 43 + 33 + i) (fun k => by unfold bx at k; omega) (by omega), hT 5 (by omega) (by omega) (by omega)]; exact d5 i hi k hk'
  · obtain ⟨t1, t2, t3, t4, t5, t6, t7, t8⟩ := I.2.1
    refine ⟨by rw [hS]; exact t1, by rw [hR]; exact t2, by rw [hR]; exact t3, by rw [hR]; exact t4, by rw [hR]; exact t5, ?_, ?_, fun b' hb' => ?_⟩
    · unfold FL; rw [hS, hR]; exact t6
    · unfold RtL; rw [hS, hR]; exact t7
    · rw [hR, hI (a0 + 96 + 2 + 5 * b') (fun k => by unfold bx at k; omega) (by omega)]
      by_cases e : b' = b
      · subst e
        exact ⟨(t8 b' hb').1, c1, (t8 b' hb').2.2⟩
      · rw [hI (a0 + 43 + 2 + 5 * b') (fun k => by unfold bx at k; omega) (by omega)]; exact t8 b' hb'
  · obtain ⟨C, la, u1, u2, u3⟩ := I.2.2.2
    exact ⟨C, la, by rw [hT 6 (by omega) (by omega) (by omega)]; exact u1, by rw [hT 2 (by omega) (by omega) (by omega)]; exact u2, u3⟩
theorem MX.tbl {M n1 n2 n3 n4 b n m3 : Nat} {g h : g_H} {s : Sg} {w v : Nat → Int32} (m : MX M g s n1 n2 n3 n4) (v5 : v 5 = nI n) (h7 : n ≤ 7) (hb : ∀ b', b' < m3 → b' = b ∨ b' < n3) (hz : ∀ b', b' < n3 → ∃ z, s 3 b' 5 = nI z ∧ z ≤ 7)
    (hS : gS h = gS g) (hR : gR h = gR g) (hI : ∀ a, a ≠ M → a ≠ M + 4 → a ≠ M + 5 → gI h a = gI g a) (h6 : gI h M 6 = nI m3) (hk : ∀ k, k ≠ 6 → gI h M k = gI g M k)
    (h4 : ∀ k, k < 8 → gI h (M + 4) (8 * b + k) = v k) (h4' : ∀ b' k, b' ≠ b → k < 8 → gI h (M + 4) (8 * b' + k) = gI g (M + 4) (8 * b' + k)) (h5 : ∀ k, k < n → gI h (M + 5) (7 * b + k) = w k) (h5' : ∀ b' k, b' ≠ b → k < 7 → gI h (M + 5) (7 * b' + k) = gI g (M + 5) (7 * b' + k)) : MX M h (tb s b m3 w v) n1 n2 m3 n4 := by
  obtain ⟨l, ⟨a1, a2, a3, a4⟩, ⟨m1, m2, m3', m4⟩, ⟨p1, p2, p3⟩⟩ := m
  have hT : ∀ t, t ≠ 0 → t ≠ 3 → t ≠ 4 → tb s b m3 w v t = s t := fun t a1 a2 a3 => tb_T a1 a2 a3
  refine ⟨by unfold ML; rw [hS, hR]; exact l, ⟨?_, ?_, ?_, ?_⟩, ⟨?_, ?_, ?_, fun b' hb' k hk' => ?_⟩, ⟨fun b' hb' k hk' => ?_, ?_, ?_⟩⟩
  · rw [hk 1 (by omega), tb_0 (by omega)]; exact a1
  · rw [hk 3 (by omega), tb_0 (by omega)]; exact a2
  · rw [h6, tb_03]
  · rw [hk 9 (by omega), tb_0 (by omega)]; exact a4
  · rw [hI _ (by omega) (by omega) (by omega), hT 1 (by omega) (by omega) (by omega)]; exact m1
  · rw [hI _ (by omega) (by omega) (by omega), hT 2 (by omega) (by omega) (by omega)]; exact m2
  · rw [hI _ (by omega) (by omega) (by omega), hT 6 (by omega) (by omega) (by omega)]; exact m3'
  · by_cases e : b' = b
    · subst e
      rw [tb_3b, v5, show cl (nI n) = n from cl_nI (by omega)] at hk'
      rw [tb_4b]
      exact h5 k hk'
    · have lt := (hb b' hb').resolve_left e
      obtain ⟨z, z1, z2⟩ := hz b' lt
      rw [tb_3 e] at hk'
      rw [tb_4 e, h5' b' k e (by rw [z1, show cl (nI z) = z from cl_nI (by omega)] at hk'; omega)]
      exact m4 b' lt k hk'
  · by_cases e : b' = b
    · subst e
      rw [tb_3b]
      exact h4 k hk'
    · have lt := (hb b' hb').resolve_left e
      rw [tb_3 e, h4' b' k e hk']
      exact p1 b' lt k hk'
  · rw [hI _ (by omega) (by omega) (by omega), hT 5 (by omega) (by omega) (by omega)]; exact p2
  · rw [hI _ (by omega) (by omega) (by omega), tb_0 (by omega)]; exact p3
