/-! PURE: swear, the class -/
def vS (s : Sg) (b n p : Nat) : Nat → Int32 := fun k => if k = 0 then nI p else if k = 3 then clip (s 3 b 3 + -3) else if k = 5 then nI n else if k = 7 then 1 else s 3 b k
theorem clip_m3 {ho : Nat} (h : ho ≤ 20) : clip (nI ho + -3) = nI (ho - 3) ∧ (if (0 : Int32) < nI ho - 3 then nI ho - 3 else 0) = nI (ho - 3) := by
  have all : ∀ k : Fin 21, clip (nI k.1 + -3) = nI (k.1 - 3) ∧ (if (0 : Int32) < nI k.1 - 3 then nI k.1 - 3 else 0) = nI (k.1 - 3) := by decide
  exact all ⟨ho, by omega⟩
theorem vS_3 {s : Sg} {b n p : Nat} : vS s b n p 3 = clip (s 3 b 3 + -3) := by
  unfold vS
  rw [if_neg (by omega), if_pos rfl]
theorem vS_0 {s : Sg} {b n p : Nat} : vS s b n p 0 = nI p := if_pos rfl
theorem vS_5 {s : Sg} {b n p : Nat} : vS s b n p 5 = nI n := by
  unfold vS
  rw [if_neg (by omega), if_neg (by omega), if_pos rfl]
theorem vS_7 {s : Sg} {b n p : Nat} : vS s b n p 7 = 1 := by
  unfold vS
  rw [if_neg (by omega), if_neg (by omega), if_neg (by omega), if_pos rfl]
theorem vS_o {s : Sg} {b n p k : Nat} (h0 : k ≠ 0) (h3 : k ≠ 3) (h5 : k ≠ 5) (h7 : k ≠ 7) : vS s b n p k = s 3 b k := by
  unfold vS
  rw [if_neg h0, if_neg h3, if_neg h5, if_neg h7]
theorem vS_VB {s : Sg} {n1 b n p : Nat} (wb : WB s n1 b) (hp : p < n) : VB n (vS s b n p) := by
  obtain ⟨z, p', l, st, ho, x1, x2, x3, x4, x5, x6, x7, x8, x9, x10, x11, x12, x13, x14, x15⟩ := wb
  exact ⟨vS_5, p, l, st, ho - 3, vS_0, hp, (vS_o (by omega) (by omega) (by omega) (by omega)).trans x6, x7, (vS_o (by omega) (by omega) (by omega) (by omega)).trans x8, x9, by rw [vS_3, x10]; exact (clip_m3 x11).1, by omega, by rw [vS_o (by omega) (by omega) (by omega) (by omega)]; exact x12, Or.inr vS_7⟩
theorem p_swear {a0 n1 n2 n3 n4 q n b : Nat} {g : g_H} {s : Sg} {x y : Int32} {w : Nat → Int32} (I : ClI a0 g s n1 n2 n3 n4 q) (e : rdX s n1 x = some (n, w)) (hb : b < n3) (hy : y = nI b) :
    ((0 < s 3 b 1 ∨ ∀ i, i < n → w i ≠ s 4 b (cl (s 3 b 0))) → ∃ g1, f6_swear g a0 y x = some ((3, 0), g1) ∧ Fdd a0 g g1) ∧
    ∀ p, p < n → w p = s 4 b (cl (s 3 b 0)) → ¬ 0 < s 3 b 1 → ∃ g1, f6_swear g a0 y x = some ((0, clip (s 3 b 3 + -3)), g1) ∧ Fc a0 g g1 ∧ ClI a0 g1 (tb s b n3 w (vS s b n p)) n1 n2 n3 n4 q := by
  subst hy
  obtain ⟨g3, x1, x2, ⟨dq1, dq2, dq3⟩, dt⟩ := (p_checkRoute I x).2 n w e
  obtain ⟨gw, hn1, hn7⟩ := rdX_ok e
  have J := I.dr x2
  obtain ⟨s1, s2, s3, s4, s5, s6, s7, s8, s9, s10, s11, s12, s13, s14, s15⟩ := J.sh
  have b6 : gR g3 (a0 + 43) 1 = some (a0 + 43 + 1) := J.1.2.1.2.2.1.2.2.1
  have b8 : gS g3 (a0 + 43 + 1) = (15, 6) := J.1.2.1.2.2.1.2.2.2.2.1
  obtain ⟨b10, b11⟩ := J.1.2.1.2.2.1.2.2.2.2.2.2.1 b (by omega)
  obtain ⟨b12, b13, b14, b15, b16, b17, b18, b19, b20⟩ := J.1.2.2.2.1 b hb
  have b21 : gI g3 (a0 + 43 + 2 + 5 * b) 6 = car s b := J.1.2.2.2.2.1 b hb
  have cb : Int32.toNatClampNeg (nI b) = b := cl_nI (by omega)
  have rr : RtL (a0 + 46 + 5 * b) g3 := J.1.2.1.2.2.2.1 b (by omega)
  have rd : RtL (a0 + 149) g3 := J.2.1.2.2.2.2.2.2.1
  have hh : f0_house g3 (a0 + 43 + 2 + 5 * b) = some (s 4 b (cl (s 3 b 0)), g3) := by
    obtain ⟨z, p', l, st, ho, v1, v2, v3, v4, v5, v6⟩ := J.1.wb hb
    obtain ⟨u1, u2, -⟩ := J.1.2.1.2.2.2.2.2 b hb
    rw [p_house b11 b12 rr (u1.trans v1) v3, b14, v4, if_pos (inR_of (by omega) v5), show cl (nI p') = p' from cl_nI (by omega), ← u2 p' (by rw [v1, show cl (nI z) = z from cl_nI (by omega)]; exact v5), show a0 + 46 + 5 * b + 1 = a0 + 47 + 5 * b by omega]
  obtain ⟨pl, p1, p2⟩ := p_placeOf (w := w) rd dq1 hn7 dq2 (s 4 b (cl (s 3 b 0)))
  have pre : f6_swear g a0 (nI b) x = if 0 < s 3 b 1 then some ((3, 0), g3) else if pl = -1 then some ((3, 0), g3) else (f0_follow g3 (a0 + 43 + 2 + 5 * b) (a0 + 149) pl).bind fun g40 => if (gS g40 (a0 + 43 + 2 + 5 * b)).1 = 1 then (f0_addHonour g40 (a0 + 43 + 2 + 5 * b) (-3)).bind fun g44 => if (gS g44 (a0 + 43 + 2 + 5 * b)).1 = 1 then some ((0, gI g44 (a0 + 43 + 2 + 5 * b) 5), g44) else none else none := by
    unfold f6_swear f6_swear_46
    rw [if_pos I.sh.1, p_checkBee I, gB2_some, if_pos (inR_of (by omega) hb), if_pos rfl, if_pos I.sh.1, x1, gB2_some, if_pos rfl, if_pos s1, s3, ob_some, if_pos s7, b6, ob_some, b8, if_pos rfl, if_pos (ixOk (by omega) (by omega)), cb, b10, ob_some, s5, ob_some, if_pos b11, hh, gB2_some, if_pos rd.1, p1, gB2_some, if_pos b11, b15, if_pos s1, s5, ob_some]
  refine ⟨fun c => ?_, fun p hp hw hl => ?_⟩
  · refine ⟨g3, ?_, x2⟩
    rw [pre]
    by_cases c1 : 0 < s 3 b 1
    · rw [if_pos c1]
    · rw [if_neg c1]
      rcases p2 with ⟨p2, -⟩ | ⟨j, j1, -, j3⟩
      · rw [if_pos p2]
      · exact absurd j3 (c.resolve_left c1 j j1)
  · have hpl : pl = nI p := by
      rcases p2 with ⟨-, p3⟩ | ⟨j, j1, j2, j3⟩
      · exact absurd hw (p3 p hp)
      · rw [j2]
        rcases Nat.lt_trichotomy j p with lt | eq | gt
        · exact absurd (j3.trans hw.symm) (gw.2.2 j p lt hp)
        · rw [eq]
        · exact absurd (hw.trans j3.symm) (gw.2.2 p j gt j1)
    obtain ⟨g5, y1, y2, y3, y4, y5, y6, y7, y8, y9, y10⟩ := p_follow (x := pl) rr rd (by omega) b11 b12
    obtain ⟨B, hB⟩ : ∃ B, B = a0 + 43 + 2 + 5 * b := ⟨_, rfl⟩
    rw [← hB] at b11 b12 b13 b14 b15 b16 b17 b18 b19 b20 b21 y1 pre
    obtain ⟨K, hK⟩ : ∃ K, K = gPI (gPI g5 B 2 pl) B 9 1 := ⟨_, rfl⟩
    obtain ⟨L, hL⟩ : ∃ L, L = gPI K B 5 (clip (s 3 b 3 + -3)) := ⟨_, rfl⟩
    have SK : gS K = gS g3 := by rw [hK]; exact y2
    have RK : gR K = gR g3 := by rw [hK]; exact y3
    have SL : gS L = gS g3 := by rw [hL]; exact SK
    have RL : gR L = gR g3 := by rw [hL]; exact RK
    have IL : ∀ a, a ≠ B → gI L a = gI g5 a := fun a ha => by
      rw [hL, hK]
      exact ((gU_o ha).trans (gU_o ha)).trans (gU_o ha)
    have eB : ∀ k, gI g5 B k = gI g3 B k := fun k => by rw [y6 B (by omega)]
    have K5 : gI K B 5 = s 3 b 3 := by
      rw [hK, gI_PI, if_pos rfl, if_neg (by omega), gI_PI, if_pos rfl, if_neg (by omega), eB]; exact b17
    have bK : (gS K B).1 = 1 := by rw [SK]; exact b11
    have I43 : gI L (a0 + 43) = gI g3 (a0 + 43) := by rw [IL _ (by omega), y6 _ (by omega)]
    refine ⟨L, ?_, ⟨?_, ?_, ?_, fun a ha => ⟨?_, ?_⟩⟩, ?_⟩
    · rw [pre, if_neg hl, if_neg (by rw [hpl]; exact nI_m1 (by omega)), y1, ob_some, ← hK, if_pos bK, p_addHonour bK, K5, ← hL, ob_some, if_pos (by rw [SL]; exact b11)]
      rw [show gI L B 5 = clip (s 3 b 3 + -3) by rw [hL, gI_PI, if_pos rfl, if_pos rfl]]
    · rw [hL, hK]; show gZ g5 = _; rw [y5]; exact x2.2.2.2.1
    · rw [SL]; exact x2.1
    · rw [hL, hK]; show gJ g5 = _; rw [y4]; exact x2.2.2.1
    · rw [IL a (by omega), y6 a (by omega)]; exact x2.2.2.2.2 a (by omega)
    · rw [RL, x2.2.1]
    · refine J.tbl (vS_VB (I.1.wb hb) hp) gw ⟨hn1, hn7⟩ s14 (Nat.le_refl _) (fun b' hb' => Or.inr hb') (by omega) (J.1.1.2.2.2.2.2.2.2.1 b hb).2 SL RL (fun a h1 h2 => ?_) (by rw [I43]; exact s10) (fun k hk => by rw [I43]) ?_
      · unfold bx at h1
        rw [IL a (by omega), y6 a (by omega)]
      · have vL : ∀ k, gI L B k = if k = 5 then clip (s 3 b 3 + -3) else if k = 9 then 1 else if k = 2 then pl else gI g3 B k := fun k => by
          rw [hL, gI_PI, if_pos rfl, hK, gI_PI, if_pos rfl, gI_PI, if_pos rfl, eB]
        unfold BC
        have o : ∀ k, k ≠ 5 → k ≠ 9 → k ≠ 2 → gI L B k = gI g3 B k := fun k k1 k2 k3 => by rw [vL, if_neg k1, if_neg k2, if_neg k3]
        rw [← hB, o 0 (by omega) (by omega) (by omega), o 3 (by omega) (by omega) (by omega), o 4 (by omega) (by omega) (by omega), o 6 (by omega) (by omega) (by omega), o 7 (by omega) (by omega) (by omega), o 8 (by omega) (by omega) (by omega), show gI L B 2 = pl by rw [vL, if_neg (by omega), if_neg (by omega), if_pos rfl], show gI L B 5 = clip (s 3 b 3 + -3) by rw [vL, if_pos rfl], show gI L B 9 = 1 by rw [vL, if_neg (by omega), if_pos rfl], vS_0, vS_3, vS_7, vS_o (k := 1) (by omega) (by omega) (by omega) (by omega), vS_o (k := 2) (by omega) (by omega) (by omega) (by omega), vS_o (k := 4) (by omega) (by omega) (by omega) (by omega), vS_o (k := 6) (by omega) (by omega) (by omega) (by omega)]
        refine ⟨b13, hpl, b15, b16, rfl, b21, b18, b19, rfl, ?_, fun i hi => ?_, fun i hi => ?_, fun j hj => ?_⟩
        · rw [IL _ (by omega), y7]; exact dq1
        · rw [IL (a0 + 47 + 5 * b) (by omega), show a0 + 47 + 5 * b = a0 + 46 + 5 * b + 1 by omega, y8 i (by omega)]; exact dq2 i hi
        · rw [IL (a0 + 48 + 5 * b) (by omega), show a0 + 48 + 5 * b = a0 + 46 + 5 * b + 2 by omega, y9 i (by omega)]; exact dq3 i hi
        · rw [IL (a0 + 49 + 5 * b) (by omega), show a0 + 49 + 5 * b = a0 + 46 + 5 * b + 3 by omega, y10 j hj]; exact dt j hj
