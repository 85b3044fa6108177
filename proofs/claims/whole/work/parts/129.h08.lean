/-! PURE: swear as a call of both -/
def laF (w : Nat → Int32) (H : Int32) : Nat → Int32
  | 0 => -1
  | i + 1 => if w i = H then nI i else laF w H i
theorem laF_none {w : Nat → Int32} {H : Int32} {n : Nat} (h : ∀ i, i < n → w i ≠ H) : laF w H n = -1 := by
  induction n with
  | zero => rfl
  | succ n ih => exact (if_neg (h n (by omega))).trans (ih fun i hi => h i (by omega))
theorem laF_at {w : Nat → Int32} {H : Int32} {n p : Nat} (hp : p < n) (h : w p = H) (d : ∀ i, i < n → i ≠ p → w i ≠ H) : laF w H n = nI p := by
  induction n with
  | zero => exact absurd hp (by omega)
  | succ n ih =>
    by_cases e : n = p
    · subst e; exact if_pos h
    · exact (if_neg (d n (by omega) e)).trans (ih (by omega) fun i hi => d i (by omega))
theorem b_be {M i k : Nat} {g : g_H} {x y : Int32} (l : ML M g) (hi : i < 6) (hk : k < 8) (hx : x = nI i) (hy : y = nI k) : f7_be g M x y = some (gI g (M + 4) (8 * i + k), g) := by
  obtain ⟨l1, ⟨l2, l3, l4, l5, l6, l7, l8, l9⟩, k1, k2, k3, k4, k5, k6, k7, k8⟩ := l
  subst hx; subst hy
  have c1 : Int32.toNatClampNeg (nI (8 * i + k)) = 8 * i + k := cl_nI (by omega)
  unfold f7_be
  rw [if_pos l1, l5, ob_some, k4, if_pos rfl, ix8, if_pos (ixOk (by omega) (by omega)), c1]
theorem b_setBe {M i k : Nat} {g : g_H} {x y : Int32} (l : ML M g) (hi : i < 6) (hk : k < 8) (hx : x = nI i) (hy : y = nI k) (v : Int32) : f7_setBe g M x y v = some (gPI g (M + 4) (8 * i + k) v) := by
  obtain ⟨l1, ⟨l2, l3, l4, l5, l6, l7, l8, l9⟩, k1, k2, k3, k4, k5, k6, k7, k8⟩ := l
  subst hx; subst hy
  have c1 : Int32.toNatClampNeg (nI (8 * i + k)) = 8 * i + k := cl_nI (by omega)
  unfold f7_setBe
  rw [if_pos l1, l5, ob_some, k4, if_pos rfl, ix8, if_pos (ixOk (by omega) (by omega)), c1]
theorem ML.pi {M a k : Nat} {g : g_H} {v : Int32} (l : ML M g) : ML M (gPI g a k v) := l
theorem m_swLoop {M n1 n2 n3 n4 b n : Nat} {h : g_H} {s : Sg} {w : Nat → Int32} (m : MX M h s n1 n2 n3 n4) (h6 : n3 ≤ 6) (hb : b < n3) (wb : WB s n1 b) (h7 : n ≤ 7) (hw : ∀ i, i < n → gI h (M + 8) i = w i) :
    ∀ k i fuel : Nat, i + k = n → k < fuel → ∃ K, f7_swear_41 fuel h M (nI b) (nI n) (laF w (s 4 b (cl (s 3 b 0))) i) (nI i) = f7_swear_41b K h M (nI b) (nI n) (laF w (s 4 b (cl (s 3 b 0))) n) (nI n) := by
  have k8 : gR h M 12 = some (M + 8) := m.1.2.1.2.2.2.2.2.2.2
  have z8 : gS h (M + 8) = (11, 7) := m.1.2.2.2.2.2.2.2.2.2
  intro k
  induction k with
  | zero =>
    intro i fuel hi hf
    obtain ⟨fu, rfl⟩ : ∃ fu, fuel = fu + 1 := ⟨fuel - 1, by omega⟩
    have : i = n := by omega
    subst this
    exact ⟨f7_swear_41 fu, rfl⟩
  | succ k ih =>
    intro i fuel hi hf
    obtain ⟨fu, rfl⟩ : ∃ fu, fuel = fu + 1 := ⟨fuel - 1, by omega⟩
    have ci : Int32.toNatClampNeg (nI i) = i := cl_nI (by omega)
    obtain ⟨K, hr⟩ := ih (i + 1) fu (by omega) (by omega)
    refine ⟨K, ?_⟩
    rw [← hr]
    show f7_swear_41b (f7_swear_41 fu) h M (nI b) (nI n) _ (nI i) = _
    unfold f7_swear_41b f7_swear_66
    rw [if_neg (nI_ge (by omega) (by omega)), if_pos m.1.1, k8, ob_some, z8, if_pos rfl, if_pos (ixOk (by omega) (by omega)), ci, m_house m h6 hb wb rfl, gB2_some, hw i (by omega), nI_1]
    by_cases e : w i = s 4 b (cl (s 3 b 0))
    · rw [if_pos e, show laF w (s 4 b (cl (s 3 b 0))) (i + 1) = nI i from if_pos e]
    · rw [if_neg e, show laF w (s 4 b (cl (s 3 b 0))) (i + 1) = laF w (s 4 b (cl (s 3 b 0))) i from if_neg e]
theorem m_swear {M n1 n2 n3 n4 q n b : Nat} {h : g_H} {s : Sg} {x : Int32} {w : Nat → Int32} (wf : WF s n1 n2 n3 n4 q) (m : MX M h s n1 n2 n3 n4) (e : rdX s n1 x = some (n, w)) (hb : b < n3) :
    ((0 < s 3 b 1 ∨ ∀ i, i < n → w i ≠ s 4 b (cl (s 3 b 0))) → ∃ g2, f7_swear h M (nI b) x = some (0, g2) ∧ Fmm M h g2 ∧ MX M g2 s n1 n2 n3 n4 ∧ gI g2 M 0 = 3) ∧
    ∀ p, p < n → w p = s 4 b (cl (s 3 b 0)) → ¬ 0 < s 3 b 1 → ∃ g2, f7_swear h M (nI b) x = some (clip (s 3 b 3 + -3), g2) ∧ Fmm M h g2 ∧ MX M g2 (tb s b n3 w (vS s b n p)) n1 n2 n3 n4 ∧ gI g2 M 0 = 0 := by
  obtain ⟨gw, hn1, hn7⟩ := rdX_ok e
  have e3 := wf.2.1
  have h6 := wf.2.2.1
  have wb := (wf.2.2.2.2.2.2.2.1 b hb).1
  have m' := m.thr (v := 0)
  obtain ⟨H, x1, x2, x3⟩ := (m_read m' wf.1 x).2 n w e
  have m3 := m'.fg x2
  have t3 : gI H M 0 = 0 := by rw [x2.2.2.2.2 M (by omega), gI_PI, if_pos rfl, if_pos rfl]
  have fH : Fmm M h H := (Fmm.put (a := M) ⟨by omega, by omega⟩).tr x2.mm
  have nn : ¬ nI n = 0 := fun k => absurd ((nI_eq (b := 0) (show n < 2 ^ 31 by omega) (by omega)).mp k) (by omega)
  obtain ⟨K, hK⟩ := m_swLoop m3 h6 hb wb hn7 x3 n 0 300 (by omega) (by omega)
  have be1 := m_be (i := b) (k := 1) (y := (1 : Int32)) m3 h6 hb (by omega) rfl rfl
  have pre : f7_swear h M (nI b) x = if 0 < s 3 b 1 then f7_swear_87 H M else if laF w (s 4 b (cl (s 3 b 0))) n = -1 then f7_swear_87 H M else f7_swear_41b K H M (nI b) (nI n) (laF w (s 4 b (cl (s 3 b 0))) n) (nI n) := by
    have s41 : f7_swear h M (nI b) x = f7_swear_41 300 H M (nI b) (nI n) (-1) 0 := by
      unfold f7_swear
      rw [if_pos m.1.1, m_isBee m' e3 h6, gB2_some, if_pos (inR_of (by omega) hb), if_neg n10, if_pos m'.1.1, x1, gB2_some, if_neg nn]
    rw [s41]
    refine hK.trans ?_
    unfold f7_swear_41b
    rw [if_pos (Int32.le_refl _), if_pos m3.1.1, be1, gB2_some]
    by_cases c1 : 0 < s 3 b 1
    · rw [if_pos c1, if_pos c1]
    · rw [if_neg c1, if_neg c1]
      by_cases c2 : laF w (s 4 b (cl (s 3 b 0))) n = -1
      · rw [if_pos c2, if_pos c2]
      · rw [if_neg c2, if_neg c2]
  have bad : f7_swear_87 H M = some (0, gPI H M 0 3) := by
    unfold f7_swear_87
    rw [if_pos m3.1.1, m_fail m3.1.1, gB2_some]
  refine ⟨fun c => ⟨gPI H M 0 3, ?_, fH.tr (Fmm.put ⟨by omega, by omega⟩), m3.thr, by rw [gI_PI, if_pos rfl, if_pos rfl]⟩, fun p hp hw hl => ?_⟩
  · rw [pre]
    by_cases c1 : 0 < s 3 b 1
    · rw [if_pos c1]; exact bad
    · rw [if_neg c1, if_pos (laF_none (c.resolve_left c1))]; exact bad
  · have la : laF w (s 4 b (cl (s 3 b 0))) n = nI p := laF_at hp hw fun i hi ne q => by
      rcases Nat.lt_trichotomy i p with lt | eq | gt
      · exact gw.2.2 i p lt hp (q.trans hw.symm)
      · exact ne eq
      · exact gw.2.2 p i gt hi (hw.trans q.symm)
    obtain ⟨z, p', l, st, ho, v1, v2, v3, v4, v5, v6, v7, v8, v9, v10, v11, v12⟩ := wb
    obtain ⟨cl1, cl2⟩ := clip_m3 v11
    obtain ⟨P, hP⟩ : ∃ P, P = gPW H (M + 5) (va_cpy (gI H (M + 8)) (gI H (M + 5)) 0 (7 * b) n) := ⟨_, rfl⟩
    obtain ⟨A, hA⟩ : ∃ A, A = gPI P (M + 4) (8 * b + 0) (nI p) := ⟨_, rfl⟩
    obtain ⟨B, hB⟩ : ∃ B, B = gPI A (M + 4) (8 * b + 5) (nI n) := ⟨_, rfl⟩
    obtain ⟨C, hC⟩ : ∃ C, C = gPI B (M + 4) (8 * b + 7) 1 := ⟨_, rfl⟩
    obtain ⟨D, hD⟩ : ∃ D, D = gPI C (M + 4) (8 * b + 3) (nI (ho - 3)) := ⟨_, rfl⟩
    have lP : ML M P := by rw [hP]; exact m3.1
    have lA : ML M A := by rw [hA]; exact lP
    have lB : ML M B := by rw [hB]; exact lA
    have lC : ML M C := by rw [hC]; exact lB
    have lD : ML M D := by rw [hD]; exact lC
    have SD : gS D = gS H := by rw [hD, hC, hB, hA, hP]; rfl
    have RD : gR D = gR H := by rw [hD, hC, hB, hA, hP]; rfl
    have ID : ∀ a, a ≠ M + 4 → gI D a = gI P a := fun a ha => by
      rw [hD, hC, hB, hA]
      exact (((gU_o ha).trans (gU_o ha)).trans (gU_o ha)).trans (gU_o ha)
    have IP : ∀ a, a ≠ M + 5 → gI P a = gI H a := fun a ha => by rw [hP]; exact gW_o ha
    have vD : ∀ j, gI D (M + 4) j = if j = 8 * b + 3 then nI (ho - 3) else if j = 8 * b + 7 then 1 else if j = 8 * b + 5 then nI n else if j = 8 * b + 0 then nI p else gI H (M + 4) j := fun j => by
      rw [hD, gI_PI, if_pos rfl, hC, gI_PI, if_pos rfl, hB, gI_PI, if_pos rfl, hA, gI_PI, if_pos rfl, IP (M + 4) (by omega)]
    have c3 : gI C (M + 4) (8 * b + 3) = nI ho := by
      rw [hC, gI_PI, if_pos rfl, if_neg (by omega), hB, gI_PI, if_pos rfl, if_neg (by omega), hA, gI_PI, if_pos rfl, if_neg (by omega), IP (M + 4) (by omega), m3.2.2.2.1 b hb 3 (by omega)]
      exact v10
    refine ⟨D, ?_, ?_, ?_, ?_⟩
    · have cd : ¬ (0 : Int32) < 0 ∧ ¬ nI (7 * b) < 0 ∧ ¬ nI n < 0 ∧ 0 + n ≤ (11, 7).2 ∧ 7 * b + n ≤ (11, 42).2 :=
        ⟨by decide, nI_pos (by omega), nI_pos (by omega), by show 0 + n ≤ 7; omega, by show 7 * b + n ≤ 42; omega⟩
      have cn : Int32.toNatClampNeg (nI n) = n := cl_nI (by omega)
      have c7 : Int32.toNatClampNeg (nI (7 * b)) = 7 * b := cl_nI (by omega)
      rw [pre, if_neg hl, la, if_neg (nI_m1 (by omega))]
      unfold f7_swear_41b
      rw [if_pos (Int32.le_refl _), if_pos m3.1.1, be1, gB2_some, if_neg hl, if_neg (nI_m1 (by omega)), if_pos m3.1.1, m3.1.2.1.2.2.2.2.2.2.2, ob_some, m3.1.2.1.2.2.2.2.1, ob_some, m3.1.2.2.2.2.2.2.2.2.2, if_pos rfl, m3.1.2.2.2.2.2.2.1, if_pos rfl, show Int32.toNatClampNeg (0 : Int32) = 0 from rfl, show (7 : Int32) * nI b = nI (7 * b) from pk_mul 7 b, c7, cn, if_pos cd, ← hP]
      rw [b_setBe (k := 0) (y := (0 : Int32)) lP (show b < 6 by omega) (by omega) rfl rfl, ← hA, ob_some, if_pos lA.1, b_setBe (k := 5) (y := (5 : Int32)) lA (show b < 6 by omega) (by omega) rfl rfl, ← hB, ob_some, if_pos lB.1, b_setBe (k := 7) (y := (7 : Int32)) lB (show b < 6 by omega) (by omega) rfl rfl, ← hC, ob_some, if_pos lC.1, b_be (k := 3) (y := (3 : Int32)) lC (show b < 6 by omega) (by omega) rfl rfl, gB2_some, c3, cl2, if_pos lC.1, b_setBe (k := 3) (y := (3 : Int32)) lC (show b < 6 by omega) (by omega) rfl rfl, ← hD, ob_some, if_pos lD.1, b_be (k := 3) (y := (3 : Int32)) lD (show b < 6 by omega) (by omega) rfl rfl, gB2_some, vD, if_pos rfl, v10, cl1]
    · rw [hD, hC, hB, hA, hP]
      have r : (M ≤ M + 4 ∧ M + 4 ≤ M + 8) ∨ gZ h ≤ M + 4 := Or.inl ⟨by omega, by omega⟩
      exact ((((fH.pw (Or.inl ⟨by omega, by omega⟩)).pt r).pt r).pt r).pt r
    · refine m3.tbl (n := n) vS_5 hn7 (fun b' hb' => Or.inr hb') (fun b' hb' => ?_) SD RD (fun a h1 h2 h3 => by rw [ID a h2, IP a h3]) (by rw [ID M (by omega), IP M (by omega), m3.2.1.2.2.1]; exact e3) (fun k hk => by rw [ID M (by omega), IP M (by omega)]) (fun k hk => ?_) (fun b' k h1 h2 => ?_) (fun k hk => ?_) (fun b' k h1 h2 => ?_)
      · obtain ⟨z, p, l, st, ho, u1, u2, u3, -⟩ := (wf.2.2.2.2.2.2.2.1 b' hb').1
        exact ⟨z, u1, u3⟩
      · rw [vD]
        by_cases k3 : k = 3
        · rw [k3, if_pos rfl, vS_3, v10, cl1]
        · rw [if_neg (by omega)]
          by_cases k7 : k = 7
          · rw [k7, if_pos rfl, vS_7]
          · rw [if_neg (by omega)]
            by_cases k5 : k = 5
            · rw [k5, if_pos rfl, vS_5]
            · rw [if_neg (by omega)]
              by_cases k0 : k = 0
              · rw [k0, if_pos rfl, vS_0]
              · rw [if_neg (by omega), vS_o k0 k3 k5 k7]
                exact m3.2.2.2.1 b hb k hk
      · rw [vD, if_neg (by omega), if_neg (by omega), if_neg (by omega), if_neg (by omega)]
      · rw [ID _ (by omega), hP, gI_PW, if_pos rfl]
        unfold va_cpy
        rw [if_pos (by omega), show 0 + (7 * b + k - 7 * b) = k by omega]
        exact x3 k hk
      · rw [ID _ (by omega), hP, gI_PW, if_pos rfl]
        unfold va_cpy
        rw [if_neg (by omega)]
    · rw [ID M (by omega), IP M (by omega)]; exact t3
theorem o_swear {a0 n1 n2 n3 n4 q : Nat} {g : g_H} {s : Sg} (I : ClI a0 g s n1 n2 n3 n4 q) (y x : Int32) : OpR a0 g s n1 n2 n3 n4 q (f6_swear g a0 y x) (fun h => f7_swear h (a0 + 153) y x) c3 := by
  have e3 := I.1.1.2.1
  have h6 := I.1.1.2.2.1
  by_cases hy : inR (nI n3) y
  · obtain ⟨b, hb, rfl⟩ := inR_nat (by omega) hy
    cases e : rdX s n1 x with
    | none =>
      obtain ⟨g', x1, x2⟩ := (p_checkRoute I x).1 e
      refine ⟨2, 0, g', s, n1, n2, n3, n4, q, ?_, by omega, x2.fc, I.dr x2, by omega, fun h m hZ => ?_⟩
      · unfold f6_swear
        rw [if_pos I.sh.1, p_checkBee I, gB2_some, if_pos hy, if_pos rfl, if_pos I.sh.1, x1, gB2_some, if_neg (by decide)]
      · have m' := m.thr (v := 0)
        obtain ⟨h', y1, y2⟩ := (m_read m' I.1.1.1 x).1 e
        have m3 := m'.fg y2
        refine ⟨0, gPI h' (a0 + 153) 0 2, ?_, ((Fmm.put ⟨by omega, by omega⟩).tr y2.mm).tr (Fmm.put ⟨by omega, by omega⟩), m3.thr, ?_, fun k => absurd k (by omega)⟩
        · show f7_swear h (a0 + 153) (nI b) x = _
          unfold f7_swear
          rw [if_pos m.1.1, m_isBee m' e3 h6, gB2_some, if_pos hy, if_neg n10, if_pos m'.1.1, y1, gB2_some, if_pos rfl, if_pos m3.1.1, m_fail m3.1.1, gB2_some]
        · rw [gI_PI, if_pos rfl, if_pos rfl]; rfl
    | some r =>
      obtain ⟨n, w⟩ := r
      obtain ⟨p1, p2⟩ := p_swear I e hb rfl
      by_cases c : 0 < s 3 b 1 ∨ ∀ i, i < n → w i ≠ s 4 b (cl (s 3 b 0))
      · obtain ⟨g1, x1, x2⟩ := p1 c
        refine ⟨3, 0, g1, s, n1, n2, n3, n4, q, x1, by omega, x2.fc, I.dr x2, by omega, fun h m hZ => ?_⟩
        obtain ⟨g2, y1, y2, y3, y4⟩ := (m_swear I.1.1 m e hb).1 c
        exact ⟨0, g2, y1, y2, y3, y4, fun k => absurd k (by omega)⟩
      · have cl : ¬ 0 < s 3 b 1 := fun k => c (Or.inl k)
        have cw : ∃ p, p < n ∧ w p = s 4 b (Int32.toNatClampNeg (s 3 b 0)) := Classical.byContradiction fun k => c (Or.inr fun i hi q => k ⟨i, hi, q⟩)
        obtain ⟨p, hp, hw⟩ := cw
        obtain ⟨g1, x1, x2, x3⟩ := p2 p hp hw cl
        refine ⟨0, _, g1, _, n1, n2, n3, n4, q, x1, by omega, x2, x3, by omega, fun h m hZ => ?_⟩
        obtain ⟨g2, y1, y2, y3, y4⟩ := (m_swear I.1.1 m e hb).2 p hp hw cl
        exact ⟨_, g2, y1, y2, y3, y4, fun _ => rfl⟩
  · refine OpR.thr I 1 (by omega) (by omega) ?_ fun h m => ?_
    · unfold f6_swear
      rw [if_pos I.sh.1, p_checkBee I, gB2_some, if_neg hy, if_neg (by decide)]
    · have m' := m.thr (v := 0)
      unfold f7_swear
      rw [if_pos m.1.1, m_isBee m' e3 h6, gB2_some, if_neg hy, if_pos rfl, if_pos m'.1.1, m_fail m'.1.1, gB2_some]
      rfl
