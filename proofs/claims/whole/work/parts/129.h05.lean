/-! PURE: the class gives a bee a new route -/
theorem p_copyR {g : g_H} {r D : Nat} (hr : RtL r g) (hD : RtL D g) (lt : r + 3 < D) : ∃ g', f4_copyFrom g r D = some g' ∧ gS g' = gS g ∧ gR g' = gR g ∧ gJ g' = gJ g ∧ gZ g' = gZ g ∧ (∀ a, ¬ (r ≤ a ∧ a ≤ r + 3) → gI g' a = gI g a) ∧ gI g' r 0 = gI g D 0 ∧ (∀ i, i < 7 → gI g' (r + 1) i = gI g (D + 1) i) ∧ (∀ i, i < 7 → gI g' (r + 2) i = gI g (D + 2) i) ∧ ∀ i, i < 14 → gI g' (r + 3) i = gI g (D + 3) i := by
  obtain ⟨r1, r2, r3, r4, r5, r6, r7⟩ := hr
  obtain ⟨d1, d2, d3, d4, d5, d6, d7⟩ := hD
  obtain ⟨A, hA⟩ : ∃ A, A = gPI g r 0 (gI g D 0) := ⟨_, rfl⟩
  obtain ⟨B, hB⟩ : ∃ B, B = gPW A (r + 1) (va_cpy (gI A (D + 1)) (gI A (r + 1)) 0 0 7) := ⟨_, rfl⟩
  obtain ⟨C, hC⟩ : ∃ C, C = gPW B (r + 2) (va_cpy (gI B (D + 2)) (gI B (r + 2)) 0 0 7) := ⟨_, rfl⟩
  obtain ⟨E, hE⟩ : ∃ E, E = gPW C (r + 3) (va_cpy (gI C (D + 3)) (gI C (r + 3)) 0 0 14) := ⟨_, rfl⟩
  have RA : gR A = gR g := by rw [hA]; rfl
  have RB : gR B = gR g := by rw [hB]; exact RA
  have RC : gR C = gR g := by rw [hC]; exact RB
  have SC : gS C = gS g := by rw [hC, hB, hA]; rfl
  have IA : ∀ a, a ≠ r → gI A a = gI g a := fun a ha => by rw [hA]; exact gU_o ha
  have IB : ∀ a, a ≠ r + 1 → gI B a = gI A a := fun a ha => by rw [hB]; exact gW_o ha
  have IC : ∀ a, a ≠ r + 2 → gI C a = gI B a := fun a ha => by rw [hC]; exact gW_o ha
  have IE : ∀ a, a ≠ r + 3 → gI E a = gI C a := fun a ha => by rw [hE]; exact gW_o ha
  have b7 : ¬ (0 : Int32) < 0 ∧ ¬ (0 : Int32) < 0 ∧ ¬ (7 : Int32) < 0 ∧ 0 + 7 ≤ (11, 7).2 ∧ 0 + 7 ≤ (11, 7).2 := by decide
  have b14 : ¬ (0 : Int32) < 0 ∧ ¬ (0 : Int32) < 0 ∧ ¬ (14 : Int32) < 0 ∧ 0 + 14 ≤ (11, 14).2 ∧ 0 + 14 ≤ (11, 14).2 := by decide
  refine ⟨E, ?_, ?_, ?_, ?_, ?_, fun a ha => ?_, ?_, fun i hi => ?_, fun i hi => ?_, fun i hi => ?_⟩
  · unfold f4_copyFrom gLt
    rw [show Int32.toNatClampNeg (0 : Int32) = 0 from rfl, show Int32.toNatClampNeg (7 : Int32) = 7 from rfl, show Int32.toNatClampNeg (14 : Int32) = 14 from rfl, if_pos d1, if_pos r1, ← hA, RA, d2, ob_some, r2, ob_some, d5, if_pos rfl, r5, if_pos rfl, if_pos b7, ← hB, RB, d3, ob_some, r3, ob_some, d6, if_pos rfl, r6, if_pos rfl, if_pos b7, ← hC]
    dsimp only
    rw [RC, d4, ob_some, r4, ob_some, SC, d7, if_pos rfl, r7, if_pos rfl, if_pos b14, ← hE]
  · rw [hE]; exact SC
  · rw [hE]; exact RC
  · rw [hE, hC, hB, hA]; rfl
  · rw [hE, hC, hB, hA]; rfl
  · rw [IE a (by omega), IC a (by omega), IB a (by omega), IA a (by omega)]
  · rw [IE r (by omega), IC r (by omega), IB r (by omega), hA, gI_PI, if_pos rfl, if_pos rfl]
  · rw [IE _ (by omega), IC _ (by omega), hB, gI_PW, if_pos rfl, cpy_in hi, IA _ (by omega)]
  · rw [IE _ (by omega), hC, gI_PW, if_pos rfl, cpy_in hi, IB _ (by omega), IA _ (by omega)]
  · rw [hE, gI_PW, if_pos rfl, cpy_in hi, IC _ (by omega), IB _ (by omega), IA _ (by omega)]
theorem p_follow {g : g_H} {r D B : Nat} {x : Int32} (hr : RtL r g) (hD : RtL D g) (lt : r + 3 < D) (hB : (gS g B).1 = 1) (hBr : gR g B 1 = some r) : ∃ g', f0_follow g B D x = some (gPI (gPI g' B 2 x) B 9 1) ∧ gS g' = gS g ∧ gR g' = gR g ∧ gJ g' = gJ g ∧ gZ g' = gZ g ∧ (∀ a, ¬ (r ≤ a ∧ a ≤ r + 3) → gI g' a = gI g a) ∧ gI g' r 0 = gI g D 0 ∧ (∀ i, i < 7 → gI g' (r + 1) i = gI g (D + 1) i) ∧ (∀ i, i < 7 → gI g' (r + 2) i = gI g (D + 2) i) ∧ ∀ i, i < 14 → gI g' (r + 3) i = gI g (D + 3) i := by
  obtain ⟨g', h1, h2, h3⟩ := p_copyR hr hD lt
  refine ⟨g', ?_, h2, h3⟩
  unfold f0_follow
  rw [if_pos hB, hBr, ob_some, if_pos hr.1, h1, ob_some, if_pos (by rw [h2]; exact hB)]
/-- a bee that has just come out -/
def vN (n : Nat) : Nat → Int32 := fun k => if k = 2 then 30 else if k = 3 then 10 else if k = 5 then nI n else if k = 7 then 1 else 0
theorem vN_VB {n : Nat} (h : 1 ≤ n) : VB n (vN n) := ⟨rfl, 0, 0, 30, 10, rfl, h, rfl, by omega, rfl, by omega, rfl, by omega, Or.inl rfl, Or.inr rfl⟩
theorem car_new {s : Sg} {n1 n2 n3 n4 q : Nat} (w : WF s n1 n2 n3 n4 q) : car s n3 = 0 := by
  rw [car_def w.2.2.2.1 w.2.2.2.2.1]
  refine carF_off fun i hi => ?_
  have h6 := w.2.2.1
  rcases (w.2.2.2.2.2.2.2.2 i hi).2.2.1 with e | ⟨b, hb, e⟩
  · rw [e]; exact fun q => nI_m1 (by omega) q.symm
  · rw [e]; exact fun q => absurd (nI_inj (by omega) (by omega) q) (by omega)
theorem p_addBee {a0 n1 n2 n3 n4 q n : Nat} {g : g_H} {s : Sg} {x : Int32} {w : Nat → Int32} (I : ClI a0 g s n1 n2 n3 n4 q) (e : rdX s n1 x = some (n, w)) (h6 : n3 < 6) : ∃ g1, f6_addBee g a0 x = some ((0, nI n3), g1) ∧ Fc a0 g g1 ∧ ClI a0 g1 (tb s n3 (n3 + 1) w (vN n)) n1 n2 (n3 + 1) n4 q := by
  obtain ⟨g3, x1, x2, ⟨dq1, dq2, dq3⟩, dt⟩ := (p_checkRoute I x).2 n w e
  obtain ⟨gw, hn1, hn7⟩ := rdX_ok e
  have J := I.dr x2
  obtain ⟨s1, s2, s3, s4, s5, s6, s7, s8, s9, s10, s11, s12, s13, s14, s15⟩ := J.sh
  have b6 : gR g3 (a0 + 43) 1 = some (a0 + 43 + 1) := J.1.2.1.2.2.1.2.2.1
  have b8 : gS g3 (a0 + 43 + 1) = (15, 6) := J.1.2.1.2.2.1.2.2.2.2.1
  obtain ⟨b10, b11⟩ := J.1.2.1.2.2.1.2.2.2.2.2.2.1 n3 h6
  have b12 : gR g3 (a0 + 43 + 2 + 5 * n3) 1 = some (a0 + 46 + 5 * n3) := (J.2.1.2.2.2.2.2.2.2 n3 h6).1
  have b13 : gI g3 (a0 + 43 + 2 + 5 * n3) 0 = nI n3 := (J.2.1.2.2.2.2.2.2.2 n3 h6).2.1
  have cb : Int32.toNatClampNeg (nI n3) = n3 := cl_nI (by omega)
  have rr : RtL (a0 + 46 + 5 * n3) g3 := J.1.2.1.2.2.2.1 n3 h6
  have rd : RtL (a0 + 149) g3 := J.2.1.2.2.2.2.2.2.1
  obtain ⟨B, hB⟩ : ∃ B, B = a0 + 43 + 2 + 5 * n3 := ⟨_, rfl⟩
  obtain ⟨G, hG⟩ : ∃ G, G = gPI (gPI (gPI (gPI (gPI (gPI g3 B 3 0) B 4 30) B 5 10) B 6 0) B 7 0) B 8 0 := ⟨_, rfl⟩
  have SG : gS G = gS g3 := by rw [hG]; rfl
  have RG : gR G = gR g3 := by rw [hG]; rfl
  have IG : ∀ a, a ≠ B → gI G a = gI g3 a := fun a ha => by
    rw [hG]
    exact (((((gU_o ha).trans (gU_o ha)).trans (gU_o ha)).trans (gU_o ha)).trans (gU_o ha)).trans (gU_o ha)
  obtain ⟨g5, y1, y2, y3, y4, y5, y6, y7, y8, y9, y10⟩ := p_follow (g := G) (x := 0) (by unfold RtL; rw [SG, RG]; exact rr) (by unfold RtL; rw [SG, RG]; exact rd) (by omega) (show (gS G B).1 = 1 by rw [SG, hB]; exact b11) (by rw [RG, hB]; exact b12)
  have eB : ∀ k, gI g5 B k = gI G B k := fun k => by rw [y6 B (by omega)]
  obtain ⟨K, hK⟩ : ∃ K, K = gPI (gPI g5 B 2 0) B 9 1 := ⟨_, rfl⟩
  have SK : gS K = gS g3 := by rw [hK]; exact y2.trans SG
  have RK : gR K = gR g3 := by rw [hK]; exact y3.trans RG
  have IK : ∀ a, a ≠ B → ¬ (a0 + 46 + 5 * n3 ≤ a ∧ a ≤ a0 + 46 + 5 * n3 + 3) → gI K a = gI g3 a := fun a h1 h2 => by
    rw [hK, show gI (gPI (gPI g5 B 2 0) B 9 1) a = gI g5 a from (gU_o h1).trans (gU_o h1), y6 a h2, IG a h1]
  have IKr : ∀ a, a ≠ B → gI K a = gI g5 a := fun a h1 => by rw [hK]; exact (gU_o h1).trans (gU_o h1)
  have k43 : gI K (a0 + 43) = gI g3 (a0 + 43) := IK _ (by omega) (by omega)
  obtain ⟨L, hL⟩ : ∃ L, L = gPI K (a0 + 43) 3 (nI (n3 + 1)) := ⟨_, rfl⟩
  have IL : ∀ a, a ≠ a0 + 43 → gI L a = gI K a := fun a ha => by rw [hL]; exact gU_o ha
  refine ⟨L, ?_, ⟨?_, ?_, ?_, fun a ha => ⟨?_, ?_⟩⟩, ?_⟩
  · unfold f6_addBee f0_hatch gLt
    rw [if_pos I.sh.1, x1, gB2_some, if_pos rfl, if_pos s1, s3, ob_some, if_pos s7, s10, if_pos (show nI n3 < (6 : Int32) from nI_lt (b := 6) h6 (by omega)), ob_some, if_pos s7, b6, ob_some, ob_some, if_pos s7, b8, if_pos rfl, s10, if_pos (ixOk (by omega) (by omega)), cb, b10, ob_some, s5, ob_some, if_pos b11, if_pos b11, ← hB, ← hG, y1, ob_some, ob_some, ← hK, if_pos (show (gS K a0).fst = 7 by rw [SK]; exact s1), RK, s3, ob_some, if_pos (show (gS K (a0 + 43)).fst = 2 by rw [SK]; exact s7)]
    dsimp only
    rw [k43, s10, nI_1, ← hL]
  · rw [hL]; show gZ K = _; rw [hK]; show gZ g5 = _; rw [y5, hG]; exact x2.2.2.2.1
  · rw [hL]; show gS K = _; rw [SK]; exact x2.1
  · rw [hL]; show gJ K = _; rw [hK]; show gJ g5 = _; rw [y4, hG]; exact x2.2.2.1
  · rw [IL a (by omega), IK a (by omega) (by omega)]; exact x2.2.2.2.2 a (by omega)
  · rw [hL]; show gR K a = _; rw [RK, x2.2.1]
  · refine J.tbl (vN_VB hn1) gw ⟨hn1, hn7⟩ (by omega) (by omega) (fun b' hb' => by omega) h6 ⟨0, by omega, car_new I.1.1⟩ (by rw [hL]; exact SK) (by rw [hL]; exact RK) (fun a h1 h2 => ?_) (by rw [hL, gI_PI, if_pos rfl, if_pos rfl]) (fun k hk => by rw [hL, gI_PI, if_pos rfl, if_neg hk, k43]) ?_
    · unfold bx at h1
      rw [IL a h2, IK a (by omega) (by omega)]
    · have eL : ∀ k, gI L B k = gI K B k := fun k => by rw [IL B (by omega)]
      have vB : ∀ k, gI K B k = if k = 9 then 1 else if k = 2 then 0 else gI G B k := fun k => by
        rw [hK, gI_PI, if_pos rfl, gI_PI, if_pos rfl, eB]
      have vG : ∀ k, gI G B k = if k = 8 then 0 else if k = 7 then 0 else if k = 6 then 0 else if k = 5 then 10 else if k = 4 then 30 else if k = 3 then 0 else gI g3 B k := fun k => by
        rw [hG, gI_PI, if_pos rfl, gI_PI, if_pos rfl, gI_PI, if_pos rfl, gI_PI, if_pos rfl, gI_PI, if_pos rfl, gI_PI, if_pos rfl]
      unfold BC
      rw [← hB, eL, eL, eL, eL, eL, eL, eL, eL, eL, vB, vB, vB, vB, vB, vB, vB, vB, vB, vG, vG, vG, vG, vG, vG, vG, vG, vG, car_new I.1.1]
      refine ⟨by rw [hB]; exact b13, rfl, rfl, rfl, rfl, rfl, rfl, rfl, rfl, ?_, fun i hi => ?_, fun i hi => ?_, fun j hj => ?_⟩
      · rw [IL _ (by omega), IKr _ (by omega), y7, IG _ (by omega)]; exact dq1
      · rw [IL (a0 + 47 + 5 * n3) (by omega), IKr (a0 + 47 + 5 * n3) (by omega), show a0 + 47 + 5 * n3 = a0 + 46 + 5 * n3 + 1 by omega, y8 i (by omega), IG _ (by omega)]; exact dq2 i hi
      · rw [IL (a0 + 48 + 5 * n3) (by omega), IKr (a0 + 48 + 5 * n3) (by omega), show a0 + 48 + 5 * n3 = a0 + 46 + 5 * n3 + 2 by omega, y9 i (by omega), IG _ (by omega)]; exact dq3 i hi
      · rw [IL (a0 + 49 + 5 * n3) (by omega), IKr (a0 + 49 + 5 * n3) (by omega), show a0 + 49 + 5 * n3 = a0 + 46 + 5 * n3 + 3 by omega, y10 j hj, IG _ (by omega)]; exact dt j hj
