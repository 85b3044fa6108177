/-! PURE: what a bee tells -/
theorem MX.off {M n1 n2 n3 n4 a k : Nat} {g : g_H} {s : Sg} {v : Int32} (m : MX M g s n1 n2 n3 n4) (h : M + 8 < a) : MX M (gPI g a k v) s n1 n2 n3 n4 :=
  m.ag fun b h1 h2 => ⟨rfl, rfl, gU_o (by omega)⟩
theorem MX.gN {M n1 n2 n3 n4 kd n : Nat} {g : g_H} {s : Sg} {r : Nat → Int32} (m : MX M g s n1 n2 n3 n4) (h : M + 8 < gZ g) : MX M (gN g kd n r) s n1 n2 n3 n4 :=
  m.ag fun b h1 h2 => ⟨if_neg (by omega), gW_o (by omega), gW_o (by omega)⟩
theorem Fmm.gN {M kd n : Nat} {g : g_H} {r : Nat → Int32} : Fmm M g (gN g kd n r) :=
  ⟨Nat.le_succ _, fun a ha => ⟨if_neg (by omega), gW_o (by omega), gW_o (by omega), fun _ => gW_o (by omega)⟩⟩
theorem Fmm.up {M a k : Nat} {g h : g_H} {v : Int32} (f : Fmm M g h) (ha : gZ g ≤ a) : Fmm M g (gPI h a k v) :=
  ⟨f.1, fun b hb => ⟨(f.2 b hb).1, (f.2 b hb).2.1, (f.2 b hb).2.2.1, fun q => (show gI (gPI h a k v) b = gI h b from gU_o (by omega)).trans ((f.2 b hb).2.2.2 q)⟩⟩
def tl (s : Sg) (b k : Nat) : Int32 := if k = 0 then s 4 b (cl (s 3 b 0)) else if k < 4 then s 3 b k else if k = 4 then car s b else s 3 b (k - 1)
theorem p_tell {a0 F n1 n2 n3 n4 q b k : Nat} {g : g_H} {s : Sg} (c : CI a0 F g s n1 n2 n3 n4 q) (hb : b < n3) (hk : k < 9) : f0_tell g (F + 2 + 5 * b) (nI k) = some (tl s b k, g) := by
  obtain ⟨b1, b2, b3, b4, b5, b6, b7, b8, b9, b10, b11, b12, b13, b14, b15, b16, b17, b18, b19, b20⟩ := clB c hb
  obtain ⟨x1, x2, x3, x4, x5, x6, x7, x8⟩ := clC c hb
  obtain ⟨z, p, l, st, ho, e1, e2, e3, e4, e5, e6, e7, e8, e9, e10, e11, e12, e13, -⟩ := c.wb hb
  have bo : ∀ v : Int32, v = 0 ∨ v = 1 → (if v = 0 then some ((0 : Int32), g) else some (1, g)) = some (v, g) := fun v h => by
    rcases h with h | h
    · rw [h, if_pos rfl]
    · rw [h, if_neg n10]
  unfold f0_tell tl
  match k, hk with
  | 0, _ => rw [if_pos (by decide), if_pos b11, clHouse c hb, gB2_some, if_pos rfl]
  | 1, _ => rw [if_neg (by decide), if_pos (by decide), if_pos b11, x2, if_neg (by decide), if_pos (by decide)]
  | 2, _ => rw [if_neg (by decide), if_neg (by decide), if_pos (by decide), if_pos b11, x3, if_neg (by decide), if_pos (by decide)]
  | 3, _ => rw [if_neg (by decide), if_neg (by decide), if_neg (by decide), if_pos (by decide), if_pos b11, x4, if_neg (by decide), if_pos (by decide)]
  | 4, _ => rw [if_neg (by decide), if_neg (by decide), if_neg (by decide), if_neg (by decide), if_pos (by decide), if_pos b11, b14, if_neg (by decide), if_neg (by decide), if_pos rfl]
  | 5, _ => rw [if_neg (by decide), if_neg (by decide), if_neg (by decide), if_neg (by decide), if_neg (by decide), if_pos (by decide), if_pos b11, x5, bo _ e12, if_neg (by decide), if_neg (by decide), if_neg (by decide)]
  | 6, _ => rw [if_neg (by decide), if_neg (by decide), if_neg (by decide), if_neg (by decide), if_neg (by decide), if_neg (by decide), if_pos (by decide), if_pos b11, b12, ob_some, if_pos b16, p_length b16, gB2_some, x8, if_neg (by decide), if_neg (by decide), if_neg (by decide)]
  | 7, _ => rw [if_neg (by decide), if_neg (by decide), if_neg (by decide), if_neg (by decide), if_neg (by decide), if_neg (by decide), if_neg (by decide), if_pos (by decide), if_pos b11, x6, if_neg (by decide), if_neg (by decide), if_neg (by decide)]
  | 8, _ => rw [if_neg (by decide), if_neg (by decide), if_neg (by decide), if_neg (by decide), if_neg (by decide), if_neg (by decide), if_neg (by decide), if_neg (by decide), if_pos b11, x7, bo _ e13, if_neg (by decide), if_neg (by decide), if_neg (by decide)]
theorem m_beeTold {M n1 n2 n3 n4 b k : Nat} {h : g_H} {s : Sg} (m : MX M h s n1 n2 n3 n4) (hZ : M + 8 < gZ h) (h6 : n3 ≤ 6) (h20 : n4 ≤ 20) (w4 : s 0 0 4 = nI n4) (hb : b < n3) (wb : WB s n1 b) (hk : k < 9) :
    ∃ g', f7_beeTold h M (nI b) (nI k) = some (tl s b k, g') ∧ Fmm M h g' ∧ MX M g' s n1 n2 n3 n4 ∧ gI g' M 0 = gI h M 0 := by
  obtain ⟨z, hz⟩ : ∃ z, z = gZ h := ⟨_, rfl⟩
  obtain ⟨H, hH⟩ : ∃ H, H = gN h 11 9 (fun _ => 0) := ⟨_, rfl⟩
  have S : gS H z = (11, 9) := by rw [hH, hz]; exact gS_gN rfl
  have m0 : MX M H s n1 n2 n3 n4 := by rw [hH]; exact m.gN hZ
  have hzM : M + 8 < z := by omega
  have m1 := m0.off (k := 0) (v := s 4 b (cl (s 3 b 0))) hzM
  have m2 := m1.off (k := 1) (v := s 3 b 1) hzM
  have m3 := m2.off (k := 2) (v := s 3 b 2) hzM
  have m4 := m3.off (k := 3) (v := s 3 b 3) hzM
  have m5 := m4.off (k := 4) (v := car s b) hzM
  have m6 := m5.off (k := 5) (v := s 3 b 4) hzM
  have m7 := m6.off (k := 6) (v := s 3 b 5) hzM
  have m8 := m7.off (k := 7) (v := s 3 b 6) hzM
  have m9 := m8.off (k := 8) (v := s 3 b 7) hzM
  have f0 : Fmm M h H := by rw [hH]; exact Fmm.gN
  have fz : gZ h ≤ z := by omega
  have ck : Int32.toNatClampNeg (nI k) = k := cl_nI (by omega)
  have hix : ¬ (nI k < 0 ∨ 9 ≤ Int32.toNatClampNeg (nI k)) := ixOk hk (by omega)
  refine ⟨_, ?_, ((((((((f0.up fz).up fz).up fz).up fz).up fz).up fz).up fz).up fz).up fz, m9, ?_⟩
  · unfold f7_beeTold gNw
    rw [← hz, ← hH]
    dsimp only
    rw [if_pos m0.1.1, m_house m0 h6 hb wb rfl, gB2_some, S, if_pos rfl, if_pos (by decide), if_pos m0.1.1]
    rw [show Int32.toNatClampNeg (0 : Int32) = 0 from rfl, m_be (k := 1) (y := (1 : Int32)) m1 h6 hb (by omega) rfl rfl, gB2_some, gS_PI, S, if_pos rfl, if_pos (by decide), if_pos m0.1.1]
    rw [show Int32.toNatClampNeg (1 : Int32) = 1 from rfl, m_be (k := 2) (y := (2 : Int32)) m2 h6 hb (by omega) rfl rfl, gB2_some, gS_PI, gS_PI, S, if_pos rfl, if_pos (by decide), if_pos m0.1.1]
    rw [show Int32.toNatClampNeg (2 : Int32) = 2 from rfl, m_be (k := 3) (y := (3 : Int32)) m3 h6 hb (by omega) rfl rfl, gB2_some, gS_PI, gS_PI, gS_PI, S, if_pos rfl, if_pos (by decide), if_pos m0.1.1]
    rw [show Int32.toNatClampNeg (3 : Int32) = 3 from rfl, m_carries m4 h20 w4 rfl, gB2_some, gS_PI, gS_PI, gS_PI, gS_PI, S, if_pos rfl, if_pos (by decide), if_pos m0.1.1]
    rw [show Int32.toNatClampNeg (4 : Int32) = 4 from rfl, m_be (k := 4) (y := (4 : Int32)) m5 h6 hb (by omega) rfl rfl, gB2_some, gS_PI, gS_PI, gS_PI, gS_PI, gS_PI, S, if_pos rfl, if_pos (by decide), if_pos m0.1.1]
    rw [show Int32.toNatClampNeg (5 : Int32) = 5 from rfl, m_be (k := 5) (y := (5 : Int32)) m6 h6 hb (by omega) rfl rfl, gB2_some, gS_PI, gS_PI, gS_PI, gS_PI, gS_PI, gS_PI, S, if_pos rfl, if_pos (by decide), if_pos m0.1.1]
    rw [show Int32.toNatClampNeg (6 : Int32) = 6 from rfl, m_be (k := 6) (y := (6 : Int32)) m7 h6 hb (by omega) rfl rfl, gB2_some, gS_PI, gS_PI, gS_PI, gS_PI, gS_PI, gS_PI, gS_PI, S, if_pos rfl, if_pos (by decide), if_pos m0.1.1]
    rw [show Int32.toNatClampNeg (7 : Int32) = 7 from rfl, m_be (k := 7) (y := (7 : Int32)) m8 h6 hb (by omega) rfl rfl, gB2_some, gS_PI, gS_PI, gS_PI, gS_PI, gS_PI, gS_PI, gS_PI, gS_PI, S, if_pos rfl, if_pos (by decide)]
    rw [show Int32.toNatClampNeg (8 : Int32) = 8 from rfl, if_pos hix, ck]
    congr 2
    unfold tl
    match k, hk with
    | 0, _ => simp [gI_PI]
    | 1, _ => simp [gI_PI]
    | 2, _ => simp [gI_PI]
    | 3, _ => simp [gI_PI]
    | 4, _ => simp [gI_PI]
    | 5, _ => simp [gI_PI]
    | 6, _ => simp [gI_PI]
    | 7, _ => simp [gI_PI]
    | 8, _ => simp [gI_PI]
  · have e : ∀ (g : g_H) (k : Nat) (v : Int32), gI (gPI g z k v) M 0 = gI g M 0 := fun g k v => by rw [gI_PI, if_neg (by omega)]
    rw [e, e, e, e, e, e, e, e, e, hH]
    exact congrFun (gW_o (by omega)) 0
theorem o_bee {a0 n1 n2 n3 n4 q : Nat} {g : g_H} {s : Sg} (I : ClI a0 g s n1 n2 n3 n4 q) (x y : Int32) : OpR a0 g s n1 n2 n3 n4 q (f6_bee g a0 x y) (fun h => f7_bee h (a0 + 153) x y) c1 := by
  obtain ⟨s1, s2, s3, s4, s5, s6, s7, s8, s9, s10, s11, s12, s13, s14, s15⟩ := I.sh
  have e3 := I.1.1.2.1
  have i8 : ∀ h, f7_isIn h y 0 8 = some (if inR (nI 9) y then 1 else 0, h) := fun h => isIn_w (by omega) (by decide)
  by_cases hx : inR (nI n3) x
  · by_cases hy : inR (nI 9) y
    · obtain ⟨b, hb, rfl⟩ := inR_nat (by omega) hx
      obtain ⟨k, hk, rfl⟩ := inR_nat (by omega) hy
      obtain ⟨b1, b2, b3, b4, b5, b6, b7, b8, b9, b10, b11, b12, b13, b14, b15, b16, b17, b18, b19, b20⟩ := clB I.1 hb
      have cb : Int32.toNatClampNeg (nI b) = b := cl_nI (by omega)
      refine ⟨0, tl s b k, g, s, n1, n2, n3, n4, q, ?_, by omega, Fc.rf, I, by omega, fun h m hZ => ?_⟩
      · unfold f6_bee
        rw [if_pos s1, p_checkBee I, gB2_some, if_pos hx, if_pos n0e, p_checkWhat, gB2_some, if_pos (show inR (9 : Int32) (nI k) from hy), if_pos n0e, if_pos s1, s3, ob_some, if_pos s7, b6, ob_some, b8, if_pos rfl, if_pos (ixOk (by omega) (by omega)), cb, b10, ob_some, if_pos b11, p_tell I.1 hb hk, gB2_some]
      · have m' := m.thr (v := 0)
        obtain ⟨g', t1, t2, t3, t4⟩ := m_beeTold m' (show a0 + 153 + 8 < gZ (gPI h (a0 + 153) 0 0) from by show _ < gZ h; omega) s14 s15 I.1.1.2.2.2.1 hb (I.1.wb hb) hk
        refine ⟨_, g', ?_, (Fmm.put ⟨by omega, by omega⟩).tr t2, t3, by rw [t4]; simp [gI_PI]; rfl, fun _ => rfl⟩
        show f7_bee h (a0 + 153) (nI b) (nI k) = _
        unfold f7_bee
        rw [if_pos m.1.1, m_isBee m' e3 s14, gB2_some, if_pos hx, if_neg n10, i8, gB2_some, if_pos hy, if_neg n10, if_pos m'.1.1, t1, gB2_some]
    · refine OpR.thr I 1 (by omega) (by omega) ?_ fun h m => ?_
      · unfold f6_bee
        rw [if_pos s1, p_checkBee I, gB2_some, if_pos hx, if_pos n0e, p_checkWhat, gB2_some, if_neg (show ¬ inR (9 : Int32) y from hy), if_neg n1e]
      · have m' := m.thr (v := 0)
        unfold f7_bee f7_bee_32
        rw [if_pos m.1.1, m_isBee m' e3 s14, gB2_some, if_pos hx, if_neg n10, i8, gB2_some, if_neg hy, if_pos rfl, if_pos m'.1.1, m_fail m'.1.1, gB2_some]
        rfl
  · refine OpR.thr I 1 (by omega) (by omega) ?_ fun h m => ?_
    · unfold f6_bee
      rw [if_pos s1, p_checkBee I, gB2_some, if_neg hx, if_neg n1e]
    · have m' := m.thr (v := 0)
      unfold f7_bee f7_bee_32
      rw [if_pos m.1.1, m_isBee m' e3 s14, gB2_some, if_neg hx, if_pos rfl, if_pos m'.1.1, m_fail m'.1.1, gB2_some]
      rfl
