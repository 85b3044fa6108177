/-! PURE: calls that tell -/
abbrev c1 : Nat → Nat := fun c => if c = 0 then 0 else 1
theorem OpR.qry {a0 n1 n2 n3 n4 q : Nat} {g : g_H} {s : Sg} {cls : Option ((Nat × Int32) × g_H)} {mdl : g_H → Option (Int32 × g_H)} {cm : Nat → Nat} (I : ClI a0 g s n1 n2 n3 n4 q) (v : Int32) (hc : cls = some ((0, v), g)) (h0 : cm 0 = 0)
    (hm : ∀ h, MX (a0 + 153) h s n1 n2 n3 n4 → mdl h = some (v, gPI h (a0 + 153) 0 0)) : OpR a0 g s n1 n2 n3 n4 q cls mdl cm :=
  ⟨0, v, g, s, n1, n2, n3, n4, q, hc, by omega, Fc.rf, I, by omega, fun h m _ => ⟨v, _, hm h m, Fmm.put ⟨by omega, by omega⟩, m.thr, by rw [h0]; simp [gI_PI]; rfl, fun _ => rfl⟩⟩
theorem p_checkHouse {a0 n1 n2 n3 n4 q : Nat} {g : g_H} {s : Sg} (I : ClI a0 g s n1 n2 n3 n4 q) (x : Int32) : f6_checkHouse g a0 x = some ((if inR (nI n1) x then 0 else 1, 0), g) := by
  obtain ⟨s1, s2, s3, s4, s5, s6, s7, s8, s9, s10, s11, s12, s13, s14, s15⟩ := I.sh
  unfold f6_checkHouse
  rw [if_pos s1, s2, ob_some, if_pos s6, p_hasHouse s6, gB2_some, s8]
  by_cases c : inR (nI n1) x
  · rw [if_pos c, if_pos c, if_neg n10]
  · rw [if_neg c, if_neg c, if_pos rfl]
theorem p_checkBee {a0 n1 n2 n3 n4 q : Nat} {g : g_H} {s : Sg} (I : ClI a0 g s n1 n2 n3 n4 q) (x : Int32) : f6_checkBee g a0 x = some ((if inR (nI n3) x then 0 else 1, 0), g) := by
  obtain ⟨s1, s2, s3, s4, s5, s6, s7, s8, s9, s10, s11, s12, s13, s14, s15⟩ := I.sh
  unfold f6_checkBee f6_checkBee_15
  by_cases c : x < 0
  · rw [if_pos c, if_neg fun k => k.1 c]
  · rw [if_neg c, if_pos s1, s3, ob_some, if_pos s7, s10]
    by_cases d : x < nI n3
    · rw [if_pos d, if_pos ⟨c, Int32.not_le.mpr d⟩]
    · rw [if_neg d, if_neg fun k => d (Int32.not_le.mp k.2)]
theorem p_checkLetter {a0 n1 n2 n3 n4 q : Nat} {g : g_H} {s : Sg} (I : ClI a0 g s n1 n2 n3 n4 q) (x : Int32) : f6_checkLetter g a0 x = some ((if inR (nI n4) x then 0 else 1, 0), g) := by
  obtain ⟨s1, s2, s3, s4, s5, s6, s7, s8, s9, s10, s11, s12, s13, s14, s15⟩ := I.sh
  unfold f6_checkLetter f6_checkLetter_15
  by_cases c : x < 0
  · rw [if_pos c, if_neg fun k => k.1 c]
  · rw [if_neg c, if_pos s1, s3, ob_some, if_pos s7, s11]
    by_cases d : x < nI n4
    · rw [if_pos d, if_pos ⟨c, Int32.not_le.mpr d⟩]
    · rw [if_neg d, if_neg fun k => d (Int32.not_le.mp k.2)]
theorem p_checkWhat {g : g_H} (x n : Int32) : f6_checkWhat g x n = some ((if inR n x then 0 else 1, 0), g) := by
  unfold f6_checkWhat f6_checkWhat_9
  by_cases c : x < 0
  · rw [if_pos c, if_neg fun k => k.1 c]
  · rw [if_neg c]
    by_cases d : x < n
    · rw [if_pos d, if_pos ⟨c, Int32.not_le.mpr d⟩]
    · rw [if_neg d, if_neg fun k => d (Int32.not_le.mp k.2)]
theorem n0e : (0 : Nat) = 0 := rfl
theorem n1e : ¬ (1 : Nat) = 0 := by decide
theorem o_way {a0 n1 n2 n3 n4 q : Nat} {g : g_H} {s : Sg} (I : ClI a0 g s n1 n2 n3 n4 q) (x y : Int32) : OpR a0 g s n1 n2 n3 n4 q (f6_way g a0 x y) (fun h => f7_way h (a0 + 153) x y) c1 := by
  obtain ⟨s1, s2, s3, s4, s5, s6, s7, s8, s9, s10, s11, s12, s13, s14, s15⟩ := I.sh
  have e1 := I.1.1.1.1
  by_cases hx : inR (nI n1) x
  · by_cases hy : inR (nI n1) y
    · obtain ⟨i, hi, rfl⟩ := inR_nat (by omega) hx
      obtain ⟨j, hj, rfl⟩ := inR_nat (by omega) hy
      obtain ⟨d, hd, hd2⟩ := wy_nat I.1.1.1 (nI i) (nI j)
      have hf : (1000 : Int32) ≤ nI d ↔ d = 1000 := ⟨fun k => by have := (nI_leI (a := 1000) (by omega) (by omega)).mp k; omega, fun k => by rw [k]; exact Int32.le_refl _⟩
      refine OpR.qry I (if (1000 : Int32) ≤ wy s (nI i) (nI j) then -1 else wy s (nI i) (nI j)) ?_ rfl fun h m => ?_
      · unfold f6_way
        rw [if_pos s1, p_checkHouse I, gB2_some, if_pos hx, if_pos n0e, if_pos s1, p_checkHouse I, gB2_some, if_pos hy, if_pos n0e, if_pos s1, s2, ob_some, if_pos s6, I.1.wyE, gB2_some]
        split <;> rfl
      · have m' := m.thr (v := 0)
        unfold f7_way
        rw [if_pos m.1.1, m_isHouse m' e1 s12, gB2_some, if_pos hx, if_neg n10, if_pos m'.1.1, m_isHouse m' e1 s12, gB2_some, if_pos hy, if_neg n10, if_pos m'.1.1, m_away m' I.1.1.1 hi hj rfl rfl, gB2_some, hd2]
        by_cases k : d = 1000
        · have : fi (nI d) = 9999 := by rw [k]; exact if_pos (show nI 1000 = (1000 : Int32) from rfl)
          rw [if_pos this, if_pos (hf.mpr k)]
        · have kn : ¬ nI d = (1000 : Int32) := fun q => k ((nI_eq (b := 1000) (by omega) (by omega)).mp q)
          have e : fi (nI d) = nI d := if_neg kn
          have k9 : ¬ nI d = (9999 : Int32) := fun q => by
            have := (nI_eq (b := 9999) (by omega) (by omega)).mp q
            omega
          rw [e, if_neg k9, if_pos m'.1.1, m_away m' I.1.1.1 hi hj rfl rfl, gB2_some, hd2, e, if_neg fun q => k (hf.mp q)]
    · refine OpR.thr I 1 (by omega) (by omega) ?_ fun h m => ?_
      · unfold f6_way
        rw [if_pos s1, p_checkHouse I, gB2_some, if_pos hx, if_pos n0e, if_pos s1, p_checkHouse I, gB2_some, if_neg hy, if_neg n1e]
      · have m' := m.thr (v := 0)
        unfold f7_way f7_way_21
        rw [if_pos m.1.1, m_isHouse m' e1 s12, gB2_some, if_pos hx, if_neg n10, if_pos m'.1.1, m_isHouse m' e1 s12, gB2_some, if_neg hy, if_pos rfl, if_pos m'.1.1, m_fail m'.1.1, gB2_some]
        rfl
  · refine OpR.thr I 1 (by omega) (by omega) ?_ fun h m => ?_
    · unfold f6_way
      rw [if_pos s1, p_checkHouse I, gB2_some, if_neg hx, if_neg n1e]
    · have m' := m.thr (v := 0)
      unfold f7_way f7_way_21
      rw [if_pos m.1.1, m_isHouse m' e1 s12, gB2_some, if_neg hx, if_pos rfl, if_pos m'.1.1, m_fail m'.1.1, gB2_some]
      rfl
theorem o_target {a0 n1 n2 n3 n4 q : Nat} {g : g_H} {s : Sg} (I : ClI a0 g s n1 n2 n3 n4 q) (x y : Int32) : OpR a0 g s n1 n2 n3 n4 q (f6_target g a0 x y) (fun h => f7_target h (a0 + 153) x y) c1 := by
  obtain ⟨s1, s2, s3, s4, s5, s6, s7, s8, s9, s10, s11, s12, s13, s14, s15⟩ := I.sh
  have e1 := I.1.1.1.1
  have e3 := I.1.1.2.1
  by_cases hx : inR (nI n3) x
  · by_cases hy : inR (nI n1) y
    · obtain ⟨b, hb, rfl⟩ := inR_nat (by omega) hx
      obtain ⟨b1, b2, b3, b4, b5, b6, b7, b8, b9, b10, b11, b12, b13, b14, b15, b16, b17, b18, b19, b20⟩ := clB I.1 hb
      have cb : Int32.toNatClampNeg (nI b) = b := cl_nI (by omega)
      refine OpR.qry I (tg s b y) ?_ rfl fun h m => ?_
      · unfold f6_target
        rw [if_pos s1, p_checkBee I, gB2_some, if_pos hx, if_pos n0e, if_pos s1, p_checkHouse I, gB2_some, if_pos hy, if_pos n0e, if_pos s1, s3, ob_some, if_pos s7, b6, ob_some, b8, if_pos rfl, if_pos (ixOk (by omega) (by omega)), cb, b10, ob_some, if_pos b11, b12, ob_some, if_pos b16, clE I.1 hb hy, gB2_some]
      · have m' := m.thr (v := 0)
        unfold f7_target
        rw [if_pos m.1.1, m_isBee m' e3 s14, gB2_some, if_pos hx, if_neg n10, if_pos m'.1.1, m_isHouse m' e1 s12, gB2_some, if_pos hy, if_neg n10, if_pos m'.1.1, m_targetOf m' I.1.1.1 s14 hb (I.1.wb hb) hy rfl, gB2_some]
    · refine OpR.thr I 1 (by omega) (by omega) ?_ fun h m => ?_
      · unfold f6_target
        rw [if_pos s1, p_checkBee I, gB2_some, if_pos hx, if_pos n0e, if_pos s1, p_checkHouse I, gB2_some, if_neg hy, if_neg n1e]
      · have m' := m.thr (v := 0)
        unfold f7_target f7_target_30
        rw [if_pos m.1.1, m_isBee m' e3 s14, gB2_some, if_pos hx, if_neg n10, if_pos m'.1.1, m_isHouse m' e1 s12, gB2_some, if_neg hy, if_pos rfl, if_pos m'.1.1, m_fail m'.1.1, gB2_some]
        rfl
  · refine OpR.thr I 1 (by omega) (by omega) ?_ fun h m => ?_
    · unfold f6_target
      rw [if_pos s1, p_checkBee I, gB2_some, if_neg hx, if_neg n1e]
    · have m' := m.thr (v := 0)
      unfold f7_target f7_target_30
      rw [if_pos m.1.1, m_isBee m' e3 s14, gB2_some, if_neg hx, if_pos rfl, if_pos m'.1.1, m_fail m'.1.1, gB2_some]
      rfl
theorem isIn_w {g : g_H} {n : Nat} {x hi : Int32} (hn : n < 2 ^ 26) (hh : hi = nI n - 1) : f7_isIn g x 0 hi = some (if inR (nI n) x then 1 else 0, g) := by
  rw [hh]; exact isIn_n hn
theorem p_tellL {g : g_H} {L k : Nat} (hL : (gS g L).1 = 4) (hk : k < 5) : f3_tell g L (nI k) = some (gI g L k, g) := by
  unfold f3_tell
  match k, hk with
  | 0, _ => rw [if_pos (by decide), if_pos hL]
  | 1, _ => rw [if_neg (by decide), if_pos (by decide), if_pos hL]
  | 2, _ => rw [if_neg (by decide), if_neg (by decide), if_pos (by decide), if_pos hL]
  | 3, _ => rw [if_neg (by decide), if_neg (by decide), if_neg (by decide), if_pos (by decide), if_pos hL]
  | 4, _ => rw [if_neg (by decide), if_neg (by decide), if_neg (by decide), if_neg (by decide), if_pos hL]
theorem o_letter {a0 n1 n2 n3 n4 q : Nat} {g : g_H} {s : Sg} (I : ClI a0 g s n1 n2 n3 n4 q) (x y : Int32) : OpR a0 g s n1 n2 n3 n4 q (f6_letter g a0 x y) (fun h => f7_letter h (a0 + 153) x y) c1 := by
  obtain ⟨s1, s2, s3, s4, s5, s6, s7, s8, s9, s10, s11, s12, s13, s14, s15⟩ := I.sh
  have e4 := I.1.1.2.2.2.1
  have i4 : ∀ h, f7_isIn h y 0 4 = some (if inR (nI 5) y then 1 else 0, h) := fun h => isIn_w (by omega) (by decide)
  by_cases hx : inR (nI n4) x
  · by_cases hy : inR (nI 5) y
    · obtain ⟨i, hi, rfl⟩ := inR_nat (by omega) hx
      obtain ⟨k, hk, rfl⟩ := inR_nat (by omega) hy
      obtain ⟨l1, l2, l3⟩ := clL I.1 hi
      have ci : Int32.toNatClampNeg (nI i) = i := cl_nI (by omega)
      have b7 : gR g (a0 + 43) 2 = some (a0 + 43 + 32) := I.1.2.1.2.2.1.2.2.2.1
      have b9 : gS g (a0 + 43 + 32) = (17, 20) := I.1.2.1.2.2.1.2.2.2.2.2.1
      refine OpR.qry I (s 5 i k) ?_ rfl fun h m => ?_
      · unfold f6_letter
        rw [if_pos s1, p_checkLetter I, gB2_some, if_pos hx, if_pos n0e, p_checkWhat, gB2_some, if_pos (show inR (5 : Int32) (nI k) from hy), if_pos n0e, if_pos s1, s3, ob_some, if_pos s7, b7, ob_some, b9, if_pos rfl, if_pos (ixOk (by omega) (by omega)), ci, l1, ob_some, if_pos l2, p_tellL l2 hk, gB2_some, l3 k hk]
      · have m' := m.thr (v := 0)
        unfold f7_letter
        rw [if_pos m.1.1, m_isLetter m' e4 s15, gB2_some, if_pos hx, if_neg n10, i4, gB2_some, if_pos hy, if_neg n10, if_pos m'.1.1, m_le m' s15 hi hk rfl rfl, gB2_some]
    · refine OpR.thr I 1 (by omega) (by omega) ?_ fun h m => ?_
      · unfold f6_letter
        rw [if_pos s1, p_checkLetter I, gB2_some, if_pos hx, if_pos n0e, p_checkWhat, gB2_some, if_neg (show ¬ inR (5 : Int32) y from hy), if_neg n1e]
      · have m' := m.thr (v := 0)
        unfold f7_letter f7_letter_31
        rw [if_pos m.1.1, m_isLetter m' e4 s15, gB2_some, if_pos hx, if_neg n10, i4, gB2_some, if_neg hy, if_pos rfl, if_pos m'.1.1, m_fail m'.1.1, gB2_some]
        rfl
  · refine OpR.thr I 1 (by omega) (by omega) ?_ fun h m => ?_
    · unfold f6_letter
      rw [if_pos s1, p_checkLetter I, gB2_some, if_neg hx, if_neg n1e]
    · have m' := m.thr (v := 0)
      unfold f7_letter f7_letter_31
      rw [if_pos m.1.1, m_isLetter m' e4 s15, gB2_some, if_neg hx, if_pos rfl, if_pos m'.1.1, m_fail m'.1.1, gB2_some]
      rfl
