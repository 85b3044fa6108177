/-! PURE: addBee as a call of both -/
abbrev c4 : Nat → Nat := fun c => if c = 0 then 0 else if c = 2 then 1 else 2
theorem Fmm.pw {M a : Nat} {g h : g_H} {r : Nat → Int32} (f : Fmm M g h) (ha : (M ≤ a ∧ a ≤ M + 8) ∨ gZ g ≤ a) : Fmm M g (gPW h a r) :=
  ⟨f.1, fun b hb => ⟨(f.2 b hb).1, (f.2 b hb).2.1, (f.2 b hb).2.2.1, fun hn => (show gI (gPW h a r) b = gI h b from gW_o (by omega)).trans ((f.2 b hb).2.2.2 hn)⟩⟩
theorem Fmm.pt {M a k : Nat} {g h : g_H} {v : Int32} (f : Fmm M g h) (ha : (M ≤ a ∧ a ≤ M + 8) ∨ gZ g ≤ a) : Fmm M g (gPI h a k v) :=
  ⟨f.1, fun b hb => ⟨(f.2 b hb).1, (f.2 b hb).2.1, (f.2 b hb).2.2.1, fun hn => (show gI (gPI h a k v) b = gI h b from gU_o (by omega)).trans ((f.2 b hb).2.2.2 hn)⟩⟩
theorem m_addBee {M n1 n2 n3 n4 q n : Nat} {h : g_H} {s : Sg} {x : Int32} {w : Nat → Int32} (wf : WF s n1 n2 n3 n4 q) (m : MX M h s n1 n2 n3 n4) (hZ : M + 8 < gZ h) (e : rdX s n1 x = some (n, w)) (h6 : n3 < 6) :
    ∃ g2, f7_addBee h M x = some (nI n3, g2) ∧ Fmm M h g2 ∧ MX M g2 (tb s n3 (n3 + 1) w (vN n)) n1 n2 (n3 + 1) n4 ∧ gI g2 M 0 = 0 := by
  obtain ⟨gw, hn1, hn7⟩ := rdX_ok e
  have e3 := wf.2.1
  have m' := m.thr (v := 0)
  obtain ⟨H3, x1, x2, x3⟩ := (m_read m' wf.1 x).2 n w e
  have m3 := m'.fg x2
  have t3 : gI H3 M 0 = 0 := by rw [x2.2.2.2.2 M (by omega), gI_PI, if_pos rfl, if_pos rfl]
  obtain ⟨zz, hzz⟩ : ∃ zz, zz = gZ H3 := ⟨_, rfl⟩
  have hz : zz = gZ h := by rw [hzz, x2.2.2.2.1]; rfl
  have hzM : M + 8 < zz := by omega
  obtain ⟨H, hH⟩ : ∃ H, H = gN H3 11 8 (fun _ => 0) := ⟨_, rfl⟩
  have S : gS H zz = (11, 8) := by rw [hH, hzz]; exact gS_gN rfl
  have mH : MX M H s n1 n2 n3 n4 := by rw [hH]; exact m3.gN (by rw [← hzz]; exact hzM)
  obtain ⟨H4, hH4⟩ : ∃ H4, H4 = gPI (gPI (gPI (gPI H zz 0 0) zz 1 0) zz 2 30) zz 3 10 := ⟨_, rfl⟩
  obtain ⟨H8, hH8⟩ : ∃ H8, H8 = gPI (gPI (gPI (gPI H4 zz 4 0) zz 5 (nI n)) zz 6 0) zz 7 1 := ⟨_, rfl⟩
  have S4 : gS H4 = gS H := by rw [hH4]; rfl
  have S8 : gS H8 = gS H := by rw [hH8]; exact S4
  have m4 : MX M H4 s n1 n2 n3 n4 := by rw [hH4]; exact (((mH.off hzM).off hzM).off hzM).off hzM
  have m8 : MX M H8 s n1 n2 n3 n4 := by rw [hH8]; exact (((m4.off hzM).off hzM).off hzM).off hzM
  have val : ∀ k, k < 8 → gI H8 zz k = vN n k := fun k hk => by
    rw [hH8, hH4]
    match k, hk with
    | 0, _ => simp [gI_PI, vN]
    | 1, _ => simp [gI_PI, vN]
    | 2, _ => simp [gI_PI, vN]
    | 3, _ => simp [gI_PI, vN]
    | 4, _ => simp [gI_PI, vN]
    | 5, _ => simp [gI_PI, vN]
    | 6, _ => simp [gI_PI, vN]
    | 7, _ => simp [gI_PI, vN]
  have o8 : ∀ a, a < zz → gI H8 a = gI H3 a := fun a ha => by
    have o : ∀ (g : g_H) (k : Nat) (v : Int32), gI (gPI g zz k v) a = gI g a := fun g k v => gU_o (by omega)
    rw [hH8, hH4, o, o, o, o, o, o, o, o, hH]
    exact gW_o (by omega)
  have fz : gZ h ≤ zz := by omega
  have f8 : Fmm M h H8 := by
    have f0 : Fmm M h H := by rw [hH]; exact ((Fmm.put (a := M) ⟨by omega, by omega⟩).tr x2.mm).tr Fmm.gN
    rw [hH8, hH4]
    exact (((((((f0.up fz).up fz).up fz).up fz).up fz).up fz).up fz).up fz
  obtain ⟨P, hP⟩ : ∃ P, P = gPW H8 (M + 4) (va_cpy (gI H8 zz) (gI H8 (M + 4)) 0 (8 * n3) 8) := ⟨_, rfl⟩
  obtain ⟨Q, hQ⟩ : ∃ Q, Q = gPW P (M + 5) (va_cpy (gI P (M + 8)) (gI P (M + 5)) 0 (7 * n3) n) := ⟨_, rfl⟩
  obtain ⟨R, hR⟩ : ∃ R, R = gPI Q M 6 (nI (n3 + 1)) := ⟨_, rfl⟩
  have SP : gS P = gS H8 := by rw [hP]; rfl
  have RP : gR P = gR H8 := by rw [hP]; rfl
  have SQ : gS Q = gS H8 := by rw [hQ]; exact SP
  have RQ : gR Q = gR H8 := by rw [hQ]; exact RP
  have IP : ∀ a, a ≠ M + 4 → gI P a = gI H8 a := fun a ha => by rw [hP]; exact gW_o ha
  have IQ : ∀ a, a ≠ M + 5 → gI Q a = gI P a := fun a ha => by rw [hQ]; exact gW_o ha
  have IR : ∀ a, a ≠ M → gI R a = gI Q a := fun a ha => by rw [hR]; exact gU_o ha
  have QM : gI Q M = gI H8 M := by rw [IQ M (by omega), IP M (by omega)]
  have HM : gI H8 M = gI H3 M := o8 M (by omega)
  have b6 : gI H8 M 6 = nI n3 := by rw [m8.2.1.2.2.1]; exact e3
  have mR : MX M R (tb s n3 (n3 + 1) w (vN n)) n1 n2 (n3 + 1) n4 := by
    refine m8.tbl (n := n) rfl hn7 (fun b' hb' => by omega) (fun b' hb' => ?_) (by rw [hR]; exact SQ) (by rw [hR]; exact RQ) (fun a h1 h2 h3 => by rw [IR a h1, IQ a h3, IP a h2]) (by rw [hR, gI_PI, if_pos rfl, if_pos rfl]) (fun k hk => by rw [hR, gI_PI, if_pos rfl, if_neg hk, QM]) (fun k hk => ?_) (fun b' k h1 h2 => ?_) (fun k hk => ?_) (fun b' k h1 h2 => ?_)
    · obtain ⟨z, p, l, st, ho, v1, v2, v3, -⟩ := (wf.2.2.2.2.2.2.2.1 b' hb').1
      exact ⟨z, v1, v3⟩
    · rw [IR _ (by omega), IQ _ (by omega), hP, gI_PW, if_pos rfl]
      unfold va_cpy
      rw [if_pos (by omega), show 0 + (8 * n3 + k - 8 * n3) = k by omega]
      exact val k hk
    · rw [IR _ (by omega), IQ _ (by omega), hP, gI_PW, if_pos rfl]
      unfold va_cpy
      rw [if_neg (by omega)]
    · rw [IR _ (by omega), hQ, gI_PW, if_pos rfl]
      unfold va_cpy
      rw [if_pos (by omega), show 0 + (7 * n3 + k - 7 * n3) = k by omega, IP _ (by omega), o8 _ (by omega)]
      exact x3 k hk
    · rw [IR _ (by omega), hQ, gI_PW, if_pos rfl]
      unfold va_cpy
      rw [if_neg (by omega), IP _ (by omega)]
  refine ⟨R, ?_, ?_, mR, ?_⟩
  · have cc : ¬ (0 : Int32) < 0 ∧ ¬ nI (8 * n3) < 0 ∧ ¬ (8 : Int32) < 0 ∧ 0 + 8 ≤ (11, 8).2 ∧ 8 * n3 + 8 ≤ (11, 48).2 :=
      ⟨by decide, nI_pos (by omega), by decide, by decide, by show 8 * n3 + 8 ≤ 48; omega⟩
    have cd : ¬ (0 : Int32) < 0 ∧ ¬ nI (7 * n3) < 0 ∧ ¬ nI n < 0 ∧ 0 + n ≤ (11, 7).2 ∧ 7 * n3 + n ≤ (11, 42).2 :=
      ⟨by decide, nI_pos (by omega), nI_pos (by omega), by show 0 + n ≤ 7; omega, by show 7 * n3 + n ≤ 42; omega⟩
    have nn : ¬ nI n = 0 := fun k => absurd ((nI_eq (b := 0) (show n < 2 ^ 31 by omega) (by omega)).mp k) (by omega)
    have n6 : ¬ nI n3 = (6 : Int32) := fun k => absurd ((nI_eq (b := 6) (show n3 < 2 ^ 31 by omega) (by omega)).mp k) (by omega)
    have cn : Int32.toNatClampNeg (nI n) = n := cl_nI (by omega)
    unfold f7_addBee gNw gLt
    rw [if_pos m.1.1, x1, gB2_some, if_neg nn, if_pos m3.1.1, m3.2.1.2.2.1, e3, if_neg n6, ← hzz, ← hH]
    dsimp only
    rw [S, if_pos (by decide), if_pos (by decide), if_pos (by decide), if_pos (by decide)]
    rw [show Int32.toNatClampNeg (0 : Int32) = 0 from rfl, show Int32.toNatClampNeg (1 : Int32) = 1 from rfl, show Int32.toNatClampNeg (2 : Int32) = 2 from rfl, show Int32.toNatClampNeg (3 : Int32) = 3 from rfl, show Int32.toNatClampNeg (4 : Int32) = 4 from rfl, show Int32.toNatClampNeg (5 : Int32) = 5 from rfl, show Int32.toNatClampNeg (6 : Int32) = 6 from rfl, show Int32.toNatClampNeg (7 : Int32) = 7 from rfl, show Int32.toNatClampNeg (8 : Int32) = 8 from rfl, ← hH4, S4, S, if_pos (by decide), if_pos (by decide), if_pos (by decide), if_pos (by decide), ← hH8]
    rw [if_pos m8.1.1, m8.1.2.1.2.2.2.1, ob_some, m8.1.2.2.2.2.2.1, if_pos rfl, b6, show (8 : Int32) * nI n3 = nI (8 * n3) from pk_mul 8 n3, cl_nI (show 8 * n3 < 2 ^ 31 by omega), S8, S, if_pos cc, ← hP, RP, m8.1.2.1.2.2.2.2.2.2.2, ob_some, m8.1.2.1.2.2.2.2.1, ob_some, IP M (by omega), b6]
    rw [← S8, m8.1.2.2.2.2.2.2.2.2.2, if_pos rfl, m8.1.2.2.2.2.2.2.1, if_pos rfl, show (7 : Int32) * nI n3 = nI (7 * n3) from pk_mul 7 n3, cl_nI (show 7 * n3 < 2 ^ 31 by omega), cn, if_pos cd]
    rw [← hQ, show gI Q M 6 = nI n3 by rw [QM]; exact b6, nI_1, ← hR, show gI R M 6 = nI (n3 + 1) by rw [hR, gI_PI, if_pos rfl, if_pos rfl], nI_pred]
  · rw [hR, hQ, hP]
    exact ((f8.pw (Or.inl ⟨by omega, by omega⟩)).pw (Or.inl ⟨by omega, by omega⟩)).pt (Or.inl ⟨by omega, by omega⟩)
  · rw [hR, gI_PI, if_pos rfl, if_neg (by omega), QM, HM]; exact t3
theorem o_addBee {a0 n1 n2 n3 n4 q : Nat} {g : g_H} {s : Sg} (I : ClI a0 g s n1 n2 n3 n4 q) (x : Int32) : OpR a0 g s n1 n2 n3 n4 q (f6_addBee g a0 x) (fun h => f7_addBee h (a0 + 153) x) c4 := by
  have e3 := I.1.1.2.1
  have h6 := I.1.1.2.2.1
  cases e : rdX s n1 x with
  | none =>
    obtain ⟨g', x1, x2⟩ := (p_checkRoute I x).1 e
    refine ⟨2, 0, g', s, n1, n2, n3, n4, q, ?_, by omega, x2.fc, I.dr x2, by omega, fun h m hZ => ?_⟩
    · unfold f6_addBee
      rw [if_pos I.sh.1, x1, gB2_some, if_neg (by decide)]
    · have m' := m.thr (v := 0)
      obtain ⟨h', y1, y2⟩ := (m_read m' I.1.1.1 x).1 e
      have m3 := m'.fg y2
      refine ⟨0, gPI h' (a0 + 153) 0 1, ?_, ((Fmm.put ⟨by omega, by omega⟩).tr y2.mm).tr (Fmm.put ⟨by omega, by omega⟩), m3.thr, ?_, fun k => absurd k (by omega)⟩
      · show f7_addBee h (a0 + 153) x = _
        unfold f7_addBee
        rw [if_pos m.1.1, y1, gB2_some, if_pos rfl, if_pos m3.1.1, m_fail m3.1.1, gB2_some]
      · rw [gI_PI, if_pos rfl, if_pos rfl]; rfl
  | some r =>
    obtain ⟨n, w⟩ := r
    by_cases lt : n3 < 6
    · obtain ⟨g1, x1, x2, x3⟩ := p_addBee I e lt
      refine ⟨0, nI n3, g1, _, n1, n2, n3 + 1, n4, q, x1, by omega, x2, x3, by omega, fun h m hZ => ?_⟩
      obtain ⟨g2, y1, y2, y3, y4⟩ := m_addBee I.1.1 m (by omega) e lt
      exact ⟨nI n3, g2, y1, y2, y3, y4, fun _ => rfl⟩
    · obtain ⟨g', x1, x2, -⟩ := (p_checkRoute I x).2 n w e
      obtain ⟨gw, hn1, hn7⟩ := rdX_ok e
      have J := I.dr x2
      obtain ⟨s1, s2, s3, s4, s5, s6, s7, s8, s9, s10, s11, s12, s13, s14, s15⟩ := J.sh
      refine ⟨3, 0, g', s, n1, n2, n3, n4, q, ?_, by omega, x2.fc, J, by omega, fun h m hZ => ?_⟩
      · unfold f6_addBee
        rw [if_pos I.sh.1, x1, gB2_some, if_pos rfl, if_pos s1, s3, ob_some, if_pos s7, s10, if_neg (show ¬ nI n3 < (6 : Int32) from nI_nlt (b := 6) (by omega) (by omega))]
      · have m' := m.thr (v := 0)
        obtain ⟨h', y1, y2, y3⟩ := (m_read m' I.1.1.1 x).2 n w e
        have m3 := m'.fg y2
        have nn : ¬ nI n = 0 := fun k => absurd ((nI_eq (b := 0) (show n < 2 ^ 31 by omega) (by omega)).mp k) (by omega)
        have n6 : nI n3 = (6 : Int32) := by rw [show n3 = 6 by omega]; rfl
        refine ⟨0, gPI h' (a0 + 153) 0 2, ?_, ((Fmm.put ⟨by omega, by omega⟩).tr y2.mm).tr (Fmm.put ⟨by omega, by omega⟩), m3.thr, ?_, fun k => absurd k (by omega)⟩
        · show f7_addBee h (a0 + 153) x = _
          unfold f7_addBee
          rw [if_pos m.1.1, y1, gB2_some, if_neg nn, if_pos m3.1.1, m3.2.1.2.2.1, e3, if_pos n6, m_fail m3.1.1, gB2_some]
        · rw [gI_PI, if_pos rfl, if_pos rfl]; rfl
