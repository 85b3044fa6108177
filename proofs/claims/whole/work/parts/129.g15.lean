/-! PURE: kept and brought back -/
theorem MX.offR {M n1 n2 n3 n4 a k : Nat} {g : g_H} {s : Sg} {v : Option Nat} (m : MX M g s n1 n2 n3 n4) (h : M + 8 < a) : MX M (gPR g a k v) s n1 n2 n3 n4 :=
  m.ag fun b h1 h2 => ⟨rfl, gU_o (by omega), rfl⟩
theorem Fmm.upR {M a k : Nat} {g h : g_H} {v : Option Nat} (f : Fmm M g h) (ha : gZ g ≤ a) : Fmm M g (gPR h a k v) :=
  ⟨f.1, fun b hb => ⟨(f.2 b hb).1, (f.2 b hb).2.1, (show gR (gPR h a k v) b = gR h b from gU_o (by omega)).trans (f.2 b hb).2.2.1, (f.2 b hb).2.2.2⟩⟩
theorem gN_o {g : g_H} {kd n a : Nat} {r : Nat → Int32} (h : a ≠ gZ g) : gS (gN g kd n r) a = gS g a ∧ gI (gN g kd n r) a = gI g a ∧ gR (gN g kd n r) a = gR g a := ⟨if_neg h, gW_o h, gW_o h⟩
/-- what is kept at z -/
def KP (z : Nat) (g : g_H) (w4 w6 w7 : Nat → Int32) : Prop := gS g z = (14, 3) ∧ gR g z 0 = some (z + 1) ∧ gR g z 1 = some (z + 2) ∧ gR g z 2 = some (z + 3) ∧ gS g (z + 1) = (11, 48) ∧ gS g (z + 2) = (11, 100) ∧ gS g (z + 3) = (11, 1) ∧ gI g (z + 1) = w4 ∧ gI g (z + 2) = w6 ∧ gI g (z + 3) = w7 ∧ z + 4 ≤ gZ g
theorem KP.mm {M z : Nat} {g h : g_H} {w4 w6 w7 : Nat → Int32} (k : KP z g w4 w6 w7) (f : Fmm M g h) (hz : M + 8 < z) : KP z h w4 w6 w7 := by
  obtain ⟨k1, k2, k3, k4, k5, k6, k7, k8, k9, k10, k11⟩ := k
  obtain ⟨f0, f1⟩ := f
  obtain ⟨a1, a2, a3, a4⟩ := f1 z (by omega)
  obtain ⟨b1, b2, b3, b4⟩ := f1 (z + 1) (by omega)
  obtain ⟨c1, c2, c3, c4⟩ := f1 (z + 2) (by omega)
  obtain ⟨d1, d2, d3, d4⟩ := f1 (z + 3) (by omega)
  exact ⟨a1.trans k1, by rw [a3]; exact k2, by rw [a3]; exact k3, by rw [a3]; exact k4, b1.trans k5, c1.trans k6, d1.trans k7, (b4 (by omega)).trans k8, (c4 (by omega)).trans k9, (d4 (by omega)).trans k10, by omega⟩
theorem m_kept {M n1 n2 n3 n4 : Nat} {g : g_H} {s : Sg} (m : MX M g s n1 n2 n3 n4) (hz : M + 8 < gZ g) : ∃ g', f7_kept g M = some (gZ g, g') ∧ Fmm M g g' ∧ MX M g' s n1 n2 n3 n4 ∧ KP (gZ g) g' (gI g (M + 4)) (gI g (M + 6)) (gI g (M + 7)) ∧ gI g' M = gI g M := by
  obtain ⟨z, hzz⟩ : ∃ z, z = gZ g := ⟨_, rfl⟩
  rw [← hzz] at hz ⊢
  obtain ⟨G1, hG1⟩ : ∃ G, G = gN g 14 3 (fun _ => 0) := ⟨_, rfl⟩
  have z1 : gZ G1 = z + 1 := by rw [hG1, hzz]; rfl
  have m1 : MX M G1 s n1 n2 n3 n4 := by rw [hG1]; exact m.gN (by omega)
  have o1 : ∀ a, a ≠ z → gS G1 a = gS g a ∧ gI G1 a = gI g a ∧ gR G1 a = gR g a := fun a ha => by rw [hG1]; exact gN_o (by omega)
  have s1 : gS G1 z = (14, 3) := by rw [hG1, hzz]; exact gS_gN rfl
  obtain ⟨G2, hG2⟩ : ∃ G, G = gN G1 11 48 (gI G1 (M + 4)) := ⟨_, rfl⟩
  have z2 : gZ G2 = z + 2 := by rw [hG2]; show gZ G1 + 1 = _; omega
  have m2 : MX M G2 s n1 n2 n3 n4 := by rw [hG2]; exact m1.gN (by omega)
  have o2 : ∀ a, a ≠ z + 1 → gS G2 a = gS G1 a ∧ gI G2 a = gI G1 a ∧ gR G2 a = gR G1 a := fun a ha => by rw [hG2]; exact gN_o (by omega)
  have s2 : gS G2 (z + 1) = (11, 48) := by rw [hG2]; exact gS_gN z1
  have i2 : gI G2 (z + 1) = gI G1 (M + 4) := by rw [hG2]; exact gI_gN z1
  obtain ⟨P2, hP2⟩ : ∃ G, G = gPR G2 z 0 (some (z + 1)) := ⟨_, rfl⟩
  have mp2 : MX M P2 s n1 n2 n3 n4 := by rw [hP2]; exact m2.offR (by omega)
  have zp2 : gZ P2 = z + 2 := by rw [hP2]; exact z2
  have sp2 : gS P2 = gS G2 := by rw [hP2]; rfl
  have ip2 : gI P2 = gI G2 := by rw [hP2]; rfl
  obtain ⟨G3, hG3⟩ : ∃ G, G = gN P2 11 100 (gI P2 (M + 6)) := ⟨_, rfl⟩
  have z3 : gZ G3 = z + 3 := by rw [hG3]; show gZ P2 + 1 = _; omega
  have m3 : MX M G3 s n1 n2 n3 n4 := by rw [hG3]; exact mp2.gN (by omega)
  have o3 : ∀ a, a ≠ z + 2 → gS G3 a = gS P2 a ∧ gI G3 a = gI P2 a ∧ gR G3 a = gR P2 a := fun a ha => by rw [hG3]; exact gN_o (by omega)
  have s3 : gS G3 (z + 2) = (11, 100) := by rw [hG3]; exact gS_gN zp2
  have i3 : gI G3 (z + 2) = gI P2 (M + 6) := by rw [hG3]; exact gI_gN zp2
  obtain ⟨P3, hP3⟩ : ∃ G, G = gPR G3 z 1 (some (z + 2)) := ⟨_, rfl⟩
  have mp3 : MX M P3 s n1 n2 n3 n4 := by rw [hP3]; exact m3.offR (by omega)
  have zp3 : gZ P3 = z + 3 := by rw [hP3]; exact z3
  have sp3 : gS P3 = gS G3 := by rw [hP3]; rfl
  have ip3 : gI P3 = gI G3 := by rw [hP3]; rfl
  obtain ⟨G4, hG4⟩ : ∃ G, G = gN P3 11 1 (gI P3 (M + 7)) := ⟨_, rfl⟩
  have z4 : gZ G4 = z + 4 := by rw [hG4]; show gZ P3 + 1 = _; omega
  have m4 : MX M G4 s n1 n2 n3 n4 := by rw [hG4]; exact mp3.gN (by omega)
  have o4 : ∀ a, a ≠ z + 3 → gS G4 a = gS P3 a ∧ gI G4 a = gI P3 a ∧ gR G4 a = gR P3 a := fun a ha => by rw [hG4]; exact gN_o (by omega)
  have s4 : gS G4 (z + 3) = (11, 1) := by rw [hG4]; exact gS_gN zp3
  have i4 : gI G4 (z + 3) = gI P3 (M + 7) := by rw [hG4]; exact gI_gN zp3
  obtain ⟨P4, hP4⟩ : ∃ G, G = gPR G4 z 2 (some (z + 3)) := ⟨_, rfl⟩
  have mp4 : MX M P4 s n1 n2 n3 n4 := by rw [hP4]; exact m4.offR (by omega)
  have iM : ∀ a, a < z → gI P4 a = gI g a := fun a ha => by
    rw [hP4, show gI (gPR G4 z 2 (some (z + 3))) = gI G4 from rfl, (o4 a (by omega)).2.1, ip3, (o3 a (by omega)).2.1, ip2, (o2 a (by omega)).2.1, (o1 a (by omega)).2.1]
  have sz2 : gS G2 z = (14, 3) := by rw [(o2 z (by omega)).1, s1]
  have sz3 : gS G3 z = (14, 3) := by rw [(o3 z (by omega)).1, sp2, sz2]
  have sz4 : gS G4 z = (14, 3) := by rw [(o4 z (by omega)).1, sp3, sz3]
  refine ⟨P4, ?_, ?_, mp4, ?_, iM M (by omega)⟩
  · unfold f7_kept gNw
    rw [← hzz, ← hG1]
    dsimp only
    rw [if_pos m1.1.1, m1.1.2.1.2.2.2.1, ob_some, m1.1.2.2.2.2.2.1, if_pos rfl, if_pos (by decide), z1, ← hG2, sz2, if_pos rfl, if_pos (by decide), if_pos m2.1.1]
    rw [show Int32.toNatClampNeg (0 : Int32) = 0 from rfl, ← hP2, mp2.1.2.1.2.2.2.2.2.1, ob_some, m2.1.2.2.2.2.2.2.2.1, if_pos rfl, if_pos (by decide), zp2, sp2, m2.1.2.2.2.2.2.2.2.1]
    dsimp only
    rw [← hG3, sz3, if_pos rfl, if_pos (by decide), if_pos m3.1.1]
    rw [show Int32.toNatClampNeg (1 : Int32) = 1 from rfl, ← hP3, mp3.1.2.1.2.2.2.2.2.2.1, ob_some, m3.1.2.2.2.2.2.2.2.2.1, if_pos rfl, if_pos (by decide), zp3, sp3, m3.1.2.2.2.2.2.2.2.2.1]
    dsimp only
    rw [← hG4, sz4, if_pos rfl, if_pos (by decide), show Int32.toNatClampNeg (2 : Int32) = 2 from rfl, ← hP4]
  · rw [hP4]
    refine Fmm.upR ?_ (by omega)
    rw [hG4]
    refine Fmm.tr ?_ Fmm.gN
    rw [hP3]
    refine Fmm.upR ?_ (by omega)
    rw [hG3]
    refine Fmm.tr ?_ Fmm.gN
    rw [hP2]
    refine Fmm.upR ?_ (by omega)
    rw [hG2]
    refine Fmm.tr ?_ Fmm.gN
    rw [hG1]
    exact Fmm.gN
  · have r4 : gR P4 z = fun j => if j = 2 then some (z + 3) else if j = 1 then some (z + 2) else if j = 0 then some (z + 1) else gR G1 z j := by
      funext j
      rw [hP4, gR_PR, if_pos rfl, (o4 z (by omega)).2.2, hP3, gR_PR, if_pos rfl, (o3 z (by omega)).2.2, hP2, gR_PR, if_pos rfl, (o2 z (by omega)).2.2]
    have S4 : gS P4 = gS G4 := by rw [hP4]; rfl
    have I4 : gI P4 = gI G4 := by rw [hP4]; rfl
    refine ⟨by rw [S4]; exact sz4, by rw [r4]; rfl, by rw [r4]; rfl, by rw [r4]; rfl, ?_, ?_, by rw [S4]; exact s4, ?_, ?_, ?_, by rw [hP4]; exact Nat.le_of_eq z4.symm⟩
    · rw [S4, (o4 _ (by omega)).1, sp3, (o3 _ (by omega)).1, sp2, s2]
    · rw [S4, (o4 _ (by omega)).1, sp3, s3]
    · rw [I4, (o4 _ (by omega)).2.1, ip3, (o3 _ (by omega)).2.1, ip2, i2, (o1 _ (by omega)).2.1]
    · rw [I4, (o4 _ (by omega)).2.1, ip3, i3, ip2, (o2 _ (by omega)).2.1, (o1 _ (by omega)).2.1]
    · rw [I4, i4, ip3, (o3 _ (by omega)).2.1, ip2, (o2 _ (by omega)).2.1, (o1 _ (by omega)).2.1]
