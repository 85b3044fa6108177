/-! PURE: trusted as a call -/
theorem tgF_lt {s : Sg} {b : Nat} {to : Int32} {k : Nat} : ((tgF s b to k).1 = -1 ∧ (tgF s b to k).2 = 1000) ∨ (tgF s b to k).2 < 1000 := by
  induction k with
  | zero => exact Or.inl ⟨rfl, rfl⟩
  | succ k ih =>
    unfold tgF
    by_cases c : wy s (s 4 b k) to < (tgF s b to k).2
    · rw [if_pos c]
      refine Or.inr ?_
      rcases ih with ⟨-, h⟩ | h
      · rw [h] at c; exact c
      · exact Int32.lt_trans c h
    · rw [if_neg c]; exact ih
theorem tg_lt {s : Sg} {b n1 : Nat} {to : Int32} (wb : WB s n1 b) (h : tg s b to ≠ -1) : wy s (tg s b to) to < 1000 := by
  obtain ⟨z, p, l, st, ho, e1, e2, e3, e4, e5, e6, e7, e8, e9, e10, e11, e12, e13, e14, e15⟩ := wb
  unfold tg at h ⊢
  rw [e1, show cl (nI z) = z from cl_nI (by omega)] at h ⊢
  rcases tgF_in (s := s) (b := b) (to := to) (k := z) e14 with ⟨q1, -⟩ | ⟨q1, q2⟩
  · exact absurd q1 h
  · rcases tgF_lt (s := s) (b := b) (to := to) (k := z) with ⟨r1, -⟩ | r
    · exact absurd r1 h
    · rw [← q2]; exact r
theorem wy_m1 {s : Sg} {to : Int32} : wy s (-1) to = 1000 := if_neg fun q => q.1.1 (by decide)
theorem sub_s {a b : Nat} (ha : a < 2 ^ 26) (hb : b < 2 ^ 26) : (nI a - nI b < 0 ↔ a < b) ∧ (nI a - nI b = 0 ↔ a = b) := by
  have e : (nI a - nI b).toInt = (a : Int) - b := by
    rw [Int32.toInt_sub, nI_toInt (by omega), nI_toInt (by omega)]
    exact Int.bmod_eq_of_le (by omega) (by omega)
  constructor
  · rw [Int32.lt_iff_toInt_lt, e]
    have : (0 : Int32).toInt = 0 := rfl
    omega
  · rw [← Int32.toInt_inj, e]
    have : (0 : Int32).toInt = 0 := rfl
    omega
/-- the most trusted of the first b: who, how far, what honour -/
def tu (s : Sg) (to : Int32) : Nat → Int32 × Int32 × Int32
  | 0 => (-1, 1000, 0)
  | b + 1 =>
    if wy s (tg s b to) to < (tu s to b).2.1 then (nI b, wy s (tg s b to) to, s 3 b 3)
    else if (tu s to b).1 = -1 then tu s to b
    else if wy s (tg s b to) to = (tu s to b).2.1 then (if s 3 b 3 ≤ (tu s to b).2.2 then tu s to b else (nI b, wy s (tg s b to) to, s 3 b 3))
    else tu s to b
theorem tu_in {s : Sg} {to : Int32} {n1 n2 n3 n4 q : Nat} (w : WF s n1 n2 n3 n4 q) : ∀ b, b ≤ n3 → ((tu s to b).1 = -1 ∧ (tu s to b).2.1 = 1000) ∨ ∃ j, j < b ∧ (tu s to b).1 = nI j ∧ (tu s to b).2.1 = wy s (tg s j to) to ∧ (tu s to b).2.2 = s 3 j 3 ∧ tg s j to ≠ -1 := by
  intro b hb
  induction b with
  | zero => exact Or.inl ⟨rfl, rfl⟩
  | succ b ih =>
    have old : ((tu s to b).1 = -1 ∧ (tu s to b).2.1 = 1000) ∨ ∃ j, j < b + 1 ∧ (tu s to b).1 = nI j ∧ (tu s to b).2.1 = wy s (tg s j to) to ∧ (tu s to b).2.2 = s 3 j 3 ∧ tg s j to ≠ -1 := (ih (by omega)).imp id fun ⟨j, h1, h2⟩ => ⟨j, by omega, h2⟩
    have le1000 : ∀ x : Int32, ¬ (1000 : Int32) < wy s x to := fun x => by
      obtain ⟨d, hd, hd2⟩ := wy_nat w.1 x to
      rw [hd2]; exact nI_nlt (a := 1000) hd (by omega)
    unfold tu
    by_cases c1 : wy s (tg s b to) to < (tu s to b).2.1
    · rw [if_pos c1]
      refine Or.inr ⟨b, by omega, rfl, rfl, rfl, fun e => ?_⟩
      rw [e, wy_m1] at c1
      rcases ih (by omega) with ⟨-, h⟩ | ⟨j, -, -, h, -⟩
      · rw [h] at c1; exact Int32.lt_irrefl c1
      · rw [h] at c1; exact le1000 _ c1
    · rw [if_neg c1]
      by_cases c2 : (tu s to b).1 = -1
      · rw [if_pos c2]; exact old
      · rw [if_neg c2]
        by_cases c3 : wy s (tg s b to) to = (tu s to b).2.1
        · rw [if_pos c3]
          by_cases c4 : s 3 b 3 ≤ (tu s to b).2.2
          · rw [if_pos c4]; exact old
          · rw [if_neg c4]
            refine Or.inr ⟨b, by omega, rfl, rfl, rfl, fun e => ?_⟩
            rw [e, wy_m1] at c3
            rcases ih (by omega) with ⟨h, -⟩ | ⟨j, hj, -, h, -, h5⟩
            · exact c2 h
            · have := tg_lt (w.2.2.2.2.2.2.2.1 j (by omega)).1 h5
              rw [← h, ← c3] at this
              exact Int32.lt_irrefl this
        · rw [if_neg c3]; exact old
theorem p_truLoop {a0 n1 n2 n3 n4 q : Nat} {g : g_H} {s : Sg} {to : Int32} (I : ClI a0 g s n1 n2 n3 n4 q) (ht : inR (nI n1) to) :
    ∀ k b fuel : Nat, b + k = n3 → k < fuel → f6_trusted_17 fuel g a0 to (tu s to b).1 (tu s to b).2.1 (tu s to b).2.2 (nI b) = some ((0, (tu s to n3).1), g) := by
  intro k
  obtain ⟨s1, s2, s3, s4, s5, s6, s7, s8, s9, s10, s11, s12, s13, s14, s15⟩ := I.sh
  induction k with
  | zero =>
    intro b fuel h hf
    obtain ⟨fu, rfl⟩ : ∃ fu, fuel = fu + 1 := ⟨fuel - 1, by omega⟩
    have : b = n3 := by omega
    subst this
    show f6_trusted_17b _ g a0 to _ _ _ (nI b) = _
    unfold f6_trusted_17b
    rw [if_pos s1, s3, ob_some, if_pos s7, s10, if_pos (Int32.le_refl _)]
  | succ k ih =>
    intro b fuel h hf
    obtain ⟨fu, rfl⟩ : ∃ fu, fuel = fu + 1 := ⟨fuel - 1, by omega⟩
    have hb : b < n3 := by omega
    obtain ⟨b1, b2, b3, b4, b5, b6, b7, b8, b9, b10, b11, b12, b13, b14, b15, b16, b17, b18, b19, b20⟩ := clB I.1 hb
    obtain ⟨x1, x2, x3, x4, x5, x6, x7, x8⟩ := clC I.1 hb
    have cb : Int32.toNatClampNeg (nI b) = b := cl_nI (by omega)
    have hrec := ih (b + 1) fu (by omega) (by omega)
    have htu : tu s to (b + 1) = if wy s (tg s b to) to < (tu s to b).2.1 then (nI b, wy s (tg s b to) to, s 3 b 3) else if (tu s to b).1 = -1 then tu s to b else if wy s (tg s b to) to = (tu s to b).2.1 then (if s 3 b 3 ≤ (tu s to b).2.2 then tu s to b else (nI b, wy s (tg s b to) to, s 3 b 3)) else tu s to b := rfl
    rw [htu] at hrec
    show f6_trusted_17b (f6_trusted_17 fu) g a0 to _ _ _ (nI b) = _
    unfold f6_trusted_17b f6_trusted_87 f6_trusted_100
    rw [if_pos s1, s3, ob_some, if_pos s7, s10, if_neg (nI_ge hb (by omega)), ob_some, if_pos s7, b6, ob_some, b8, if_pos rfl, if_pos (ixOk (by omega) (by omega)), cb, b10, ob_some, s2, ob_some, if_pos b11, b12, ob_some, if_pos b16, clE I.1 hb ht, gB2_some, if_pos s6, I.1.wyE, gB2_some, if_pos b11, if_pos b11, x4, nI_1]
    by_cases c1 : wy s (tg s b to) to < (tu s to b).2.1
    · rw [if_pos c1]
      rw [if_pos c1] at hrec
      exact hrec
    · rw [if_neg c1]
      rw [if_neg c1] at hrec
      by_cases c2 : (tu s to b).1 = -1
      · rw [if_pos c2]
        rw [if_pos c2] at hrec
        exact hrec
      · rw [if_neg c2]
        rw [if_neg c2] at hrec
        by_cases c3 : wy s (tg s b to) to = (tu s to b).2.1
        · rw [if_pos c3]
          rw [if_pos c3] at hrec
          by_cases c4 : s 3 b 3 ≤ (tu s to b).2.2
          · rw [if_pos c4]
            rw [if_pos c4] at hrec
            exact hrec
          · rw [if_neg c4]
            rw [if_neg c4] at hrec
            exact hrec
        · rw [if_neg c3]
          rw [if_neg c3] at hrec
          exact hrec
theorem m_truLoop {M n1 n2 n3 n4 q : Nat} {h : g_H} {s : Sg} {to : Int32} (w : WF s n1 n2 n3 n4 q) (m : MX M h s n1 n2 n3 n4) (ht : inR (nI n1) to) :
    ∀ k b fuel : Nat, b + k = n3 → k < fuel → f7_trusted_23 fuel h M to (tu s to b).1 (nI b) = some ((tu s to n3).1, h) := by
  intro k
  have h6 := w.2.2.1
  have h14 := w.1.2.1
  have e6 : gI h M 6 = nI n3 := m.2.1.2.2.1.trans w.2.1
  obtain ⟨y, hy, hy2⟩ := inR_nat (by omega) ht
  have wb : ∀ b, b < n3 → WB s n1 b := fun b hb => (w.2.2.2.2.2.2.2.1 b hb).1
  have aw : ∀ j, j < n3 → tg s j to ≠ -1 → ∃ d, d < 1000 ∧ wy s (tg s j to) to = nI d ∧ f7_away h M (tg s j to) to = some (nI d, h) := by
    intro j hj hn
    obtain ⟨x, hx, hx2⟩ := inR_nat (by omega) ((tg_in (to := to) (wb j hj)).resolve_left hn)
    obtain ⟨d, hd, hd2⟩ := wy_nat w.1 (tg s j to) to
    have hl := tg_lt (wb j hj) hn
    rw [hd2] at hl
    have hd3 : d < 1000 := (nI_ltI (b := 1000) (by omega) (by omega)).mp hl
    refine ⟨d, hd3, hd2, ?_⟩
    rw [m_away m w.1 hx hy hx2 hy2, hd2]
    congr 2
    exact if_neg fun q => by
      have := (nI_eq (b := 1000) (by omega) (by omega)).mp q
      omega
  induction k with
  | zero =>
    intro b fuel hbk hf
    obtain ⟨fu, rfl⟩ : ∃ fu, fuel = fu + 1 := ⟨fuel - 1, by omega⟩
    have : b = n3 := by omega
    subst this
    show f7_trusted_23b _ h M to _ (nI b) = _
    unfold f7_trusted_23b
    rw [if_pos m.1.1, e6, if_pos (Int32.le_refl _)]
  | succ k ih =>
    intro b fuel hbk hf
    obtain ⟨fu, rfl⟩ : ∃ fu, fuel = fu + 1 := ⟨fuel - 1, by omega⟩
    have hb : b < n3 := by omega
    have hrec := ih (b + 1) fu (by omega) (by omega)
    have htu : tu s to (b + 1) = if wy s (tg s b to) to < (tu s to b).2.1 then (nI b, wy s (tg s b to) to, s 3 b 3) else if (tu s to b).1 = -1 then tu s to b else if wy s (tg s b to) to = (tu s to b).2.1 then (if s 3 b 3 ≤ (tu s to b).2.2 then tu s to b else (nI b, wy s (tg s b to) to, s 3 b 3)) else tu s to b := rfl
    rw [htu] at hrec
    show f7_trusted_23b (f7_trusted_23 fu) h M to _ (nI b) = _
    unfold f7_trusted_23b f7_trusted_76 f7_trusted_98 f7_trusted_105
    rw [if_pos m.1.1, e6, if_neg (nI_ge hb (by omega)), m_targetOf m w.1 h6 hb (wb b hb) ht rfl, gB2_some, nI_1]
    have le1000 : ∀ x : Int32, ¬ (1000 : Int32) < wy s x to := fun x => by
      obtain ⟨d, hd, hd2⟩ := wy_nat w.1 x to
      rw [hd2]; exact nI_nlt (a := 1000) hd (by omega)
    by_cases t1 : tg s b to = -1
    · rw [if_pos t1]
      rw [t1, wy_m1] at hrec
      rcases tu_in (to := to) w b (by omega) with ⟨h1, h2⟩ | ⟨j, hj, h1, h2, h3, h4⟩
      · rw [h2, if_neg Int32.lt_irrefl, if_pos h1] at hrec
        exact hrec
      · obtain ⟨d, hd, hd2, -⟩ := aw j (by omega) h4
        rw [h2, if_neg (le1000 _), if_neg (by rw [h1]; exact nI_m1 (by omega)), hd2, if_neg (c := (1000 : Int32) = nI d) fun q => by
          have := (nI_eq (a := 1000) (by omega) (by omega)).mp q
          omega] at hrec
        exact hrec
    · rw [if_neg t1]
      obtain ⟨d, hd, hd2, hd3⟩ := aw b hb t1
      rcases tu_in (to := to) w b (by omega) with ⟨h1, h2⟩ | ⟨j, hj, h1, h2, h3, h4⟩
      · rw [if_pos h1, if_neg (by decide), if_neg (by decide)]
        rw [h2, if_pos (tg_lt (wb b hb) t1)] at hrec
        exact hrec
      · have hjn : nI j ≠ -1 := nI_m1 (by omega)
        obtain ⟨d', hd', hd2', hd3'⟩ := aw j (by omega) h4
        obtain ⟨z, p, l, st, ho, e1, e2, e3, e4, e5, e6, e7, e8, e9, e10, e11, -⟩ := wb b hb
        obtain ⟨z', p', l', st', ho', f1, f2, f3, f4, f5, f6, f7, f8, f9, f10, f11, -⟩ := wb j (by omega)
        obtain ⟨q1, q2⟩ := sub_s (a := d) (b := d') (by omega) (by omega)
        obtain ⟨q3, -⟩ := sub_s (a := ho') (b := ho) (by omega) (by omega)
        rw [if_neg (by rw [h1]; exact hjn), if_pos m.1.1, hd3, gB2_some, if_pos m.1.1, m_targetOf m w.1 h6 (show j < n3 by omega) (wb j (by omega)) ht h1, gB2_some, if_pos m.1.1, hd3', gB2_some]
        rw [hd2, h2, hd2', h3, e10, f10, if_neg (c := (tu s to b).1 = -1) (by rw [h1]; exact hjn)] at hrec
        by_cases c0 : d = d'
        · rw [if_pos (q2.mpr c0), if_pos m.1.1, m_be (k := 3) (y := (3 : Int32)) m h6 (show j < n3 by omega) (by omega) h1 rfl, gB2_some, if_pos m.1.1, m_be (k := 3) (y := (3 : Int32)) m h6 hb (by omega) rfl rfl, gB2_some, e10, f10]
          rw [c0, if_neg Int32.lt_irrefl, if_pos rfl] at hrec
          by_cases c1 : ho' < ho
          · rw [if_neg (Int32.not_le.mpr (q3.mpr c1))]
            rw [if_neg (Int32.not_le.mpr (nI_lt c1 (by omega)))] at hrec
            exact hrec
          · rw [if_pos (Int32.not_lt.mp fun k => c1 (q3.mp k))]
            rw [if_pos (nI_le (by omega) (by omega))] at hrec
            exact hrec
        · rw [if_neg fun k => c0 (q2.mp k)]
          by_cases c1 : d < d'
          · rw [if_neg (Int32.not_le.mpr (q1.mpr c1))]
            rw [if_pos (nI_lt c1 (by omega))] at hrec
            exact hrec
          · rw [if_pos (Int32.not_lt.mp fun k => c1 (q1.mp k))]
            rw [if_neg (nI_nlt (by omega) (by omega)), if_neg (c := nI d = nI d') fun k => c0 (nI_inj (by omega) (by omega) k)] at hrec
            exact hrec
theorem o_trusted {a0 n1 n2 n3 n4 q : Nat} {g : g_H} {s : Sg} (I : ClI a0 g s n1 n2 n3 n4 q) (x : Int32) : OpR a0 g s n1 n2 n3 n4 q (f6_trusted g a0 x) (fun h => f7_trusted h (a0 + 153) x) c1 := by
  obtain ⟨s1, s2, s3, s4, s5, s6, s7, s8, s9, s10, s11, s12, s13, s14, s15⟩ := I.sh
  have e1 := I.1.1.1.1
  by_cases hx : inR (nI n1) x
  · refine OpR.qry I (tu s x n3).1 ?_ rfl fun h m => ?_
    · unfold f6_trusted
      rw [if_pos s1, p_checkHouse I, gB2_some, if_pos hx, if_pos n0e]
      exact p_truLoop I hx n3 0 300 (by omega) (by omega)
    · have m' := m.thr (v := 0)
      unfold f7_trusted
      rw [if_pos m.1.1, m_isHouse m' e1 s12, gB2_some, if_pos hx, if_neg n10]
      exact m_truLoop I.1.1 m' hx n3 0 300 (by omega) (by omega)
  · refine OpR.thr I 1 (by omega) (by omega) ?_ fun h m => ?_
    · unfold f6_trusted
      rw [if_pos s1, p_checkHouse I, gB2_some, if_neg hx, if_neg n1e]
    · have m' := m.thr (v := 0)
      unfold f7_trusted
      rw [if_pos m.1.1, m_isHouse m' e1 s12, gB2_some, if_neg hx, if_pos rfl, if_pos m'.1.1, m_fail m'.1.1, gB2_some]
      rfl
