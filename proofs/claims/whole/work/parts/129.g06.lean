/-! PURE: setGate -/
def gtS (s : Sg) (i : Nat) (f t : Int32) : Sg := su (su s 2 i 3 f) 2 i 4 t
theorem gt_T {s : Sg} {i k : Nat} {f t : Int32} (h : k ≠ 2) : gtS s i f t k = s k := (su_T h).trans (su_T h)
theorem gt_k {s : Sg} {i j k : Nat} {f t : Int32} (h : k < 3) : gtS s i f t 2 j k = s 2 j k := (su_k (by omega)).trans (su_k (by omega))
theorem gt_o {s : Sg} {i j k : Nat} {f t : Int32} (h : j ≠ i) : gtS s i f t 2 j k = s 2 j k := (su_i h).trans (su_i h)
theorem gt_3 {s : Sg} {i : Nat} {f t : Int32} : gtS s i f t 2 i 3 = f := (su_k (by omega)).trans su_s
theorem gt_4 {s : Sg} {i : Nat} {f t : Int32} : gtS s i f t 2 i 4 = t := su_s
theorem gt_slF {s : Sg} {i : Nat} {f t : Int32} (u v : Int32) (k : Nat) : slF (gtS s i f t) u v k = slF s u v k := by
  induction k with
  | zero => rfl
  | succ k ih =>
    show (if _ then _ else _) = (if _ then _ else _)
    rw [ih, gt_k (by omega), gt_k (by omega), gt_k (by omega), gt_k (by omega)]
theorem gt_sl {s : Sg} {i : Nat} {f t : Int32} (u v : Int32) : sl (gtS s i f t) u v = sl s u v := by
  unfold sl
  rw [gt_slF, gt_T (by omega)]
theorem gt_tg {s : Sg} {i : Nat} {f t : Int32} (b : Nat) (to : Int32) : tg (gtS s i f t) b to = tg s b to := by
  have h : ∀ k, tgF (gtS s i f t) b to k = tgF s b to k := fun k => by
    induction k with
    | zero => rfl
    | succ k ih =>
      have hwy : ∀ u v, wy (gtS s i f t) u v = wy s u v := fun u v => by unfold wy; rw [gt_T (by omega), gt_T (by omega)]
      show (if _ then _ else _) = (if _ then _ else _)
      rw [ih, hwy, gt_T (by omega)]
  unfold tg
  rw [h, gt_T (by omega)]
theorem gt_WT {s : Sg} {i n1 n2 f t : Nat} (w : WT s n1 n2) (hf : f ≤ 23) (hft : f ≤ t) (ht : t ≤ 24) : WT (gtS s i (nI f) (nI t)) n1 n2 := by
  obtain ⟨w1, w2, w3, w4, w5, w6, w7⟩ := w
  refine ⟨by rw [gt_T (by omega)]; exact w1, w2, by rw [gt_T (by omega)]; exact w3, w4, fun j hj => ?_, by rw [gt_T (by omega)]; exact w6, by rw [gt_T (by omega)]; exact w7⟩
  obtain ⟨a1, a2, a3, a4, a5⟩ := w5 j hj
  rw [gt_k (by omega), gt_k (by omega), gt_k (by omega)]
  refine ⟨a1, a2, a3, a4, ?_⟩
  by_cases e : j = i
  · subst e
    exact ⟨f, t, hf, hft, ht, gt_3, gt_4⟩
  · rw [gt_o e, gt_o e]; exact a5
theorem gt_Ws {s : Sg} {i n1 n2 : Nat} {f t : Int32} (w : Ws s n1 n2) : Ws (gtS s i f t) n1 n2 := by
  obtain ⟨C, la, u1, u2, u3⟩ := w
  exact ⟨C, la, by rw [gt_T (by omega)]; exact u1, fun j hj k hk => by rw [gt_k hk]; exact u2 j hj k hk, u3⟩
/-- the model's cells -/
theorem MX.gt {M n1 n2 n3 n4 i : Nat} {g : g_H} {s : Sg} {f t : Int32} (m : MX M g s n1 n2 n3 n4) : MX M (gPI (gPI g (M + 2) (5 * i + 3) f) (M + 2) (5 * i + 4) t) (gtS s i f t) n1 n2 n3 n4 := by
  obtain ⟨l, z0, ⟨z1, z2, z3, z4⟩, z5⟩ := m
  have off : ∀ k, k ≠ 2 → gI (gPI (gPI g (M + 2) (5 * i + 3) f) (M + 2) (5 * i + 4) t) (M + k) = gI g (M + k) := fun k hk => (gU_o (by omega)).trans (gU_o (by omega))
  refine ⟨l, ?_, ⟨?_, fun j hj k hk => ?_, ?_, ?_⟩, ?_⟩
  · have this : gI (gPI (gPI g (M + 2) (5 * i + 3) f) (M + 2) (5 * i + 4) t) M = gI g M := off 0 (by omega)
    unfold M0; rw [this, gt_T (by omega)]; exact z0
  · rw [off 1 (by omega), gt_T (by omega)]; exact z1
  · rw [gI_PI, if_pos rfl, gI_PI, if_pos rfl]
    by_cases e : j = i
    · subst e
      by_cases k4 : k = 4
      · subst k4; rw [if_pos rfl, gt_4]
      · rw [if_neg (by omega)]
        by_cases k3 : k = 3
        · subst k3; rw [if_pos rfl, gt_3]
        · rw [if_neg (by omega), gt_k (by omega)]; exact z2 j hj k hk
    · rw [if_neg (by omega), if_neg (by omega), gt_o e]; exact z2 j hj k hk
  · rw [off 3 (by omega), gt_T (by omega)]; exact z3
  · rw [off 5 (by omega), gt_T (by omega), gt_T (by omega)]; exact z4
  · unfold M2; rw [off 4 (by omega), off 6 (by omega), off 7 (by omega), gt_T (by omega), gt_T (by omega), gt_T (by omega)]; exact z5
theorem m_setGate {M n1 n2 n3 n4 i f t : Nat} {g : g_H} {s : Sg} (m : MX M g s n1 n2 n3 n4) (wt : WT s n1 n2) (hi : i < n2) (hf : f ≤ 23) (hft : f ≤ t) (ht : t ≤ 24) :
    ∃ g', f7_setGate g M (nI i) (nI f) (nI t) = some ((100 : Int32) * s 2 i 3 + s 2 i 4, g') ∧ g' = gPI (gPI (gPI g M 0 0) (M + 2) (5 * i + 3) (nI f)) (M + 2) (5 * i + 4) (nI t) ∧ MX M g' (gtS s i (nI f) (nI t)) n1 n2 n3 n4 := by
  have h24 := wt.2.2.2.1
  have m' := m.thr (v := 0)
  refine ⟨_, ?_, rfl, m'.gt⟩
  have c3 : Int32.toNatClampNeg (nI (5 * i + 3)) = 5 * i + 3 := cl_nI (by omega)
  have c4 : Int32.toNatClampNeg (nI (5 * i + 4)) = 5 * i + 4 := cl_nI (by omega)
  have i3 : (5 : Int32) * nI i + (3 : Int32) = nI (5 * i + 3) := ix5 (k := 3)
  have i4 : (5 : Int32) * nI i + (4 : Int32) = nI (5 * i + 4) := ix5 (k := 4)
  have r3 := m_ro (k := 3) (y := (3 : Int32)) m' h24 hi (by omega) rfl rfl
  have r4 := m_ro (k := 4) (y := (4 : Int32)) m' h24 hi (by omega) rfl rfl
  have in1 : f7_isIn (gPI g M 0 0) (nI f) 0 23 = some (1, gPI g M 0 0) := by
    unfold f7_isIn
    have h : ¬ (23 : Int32) < nI f := nI_nlt (a := 23) hf (by omega)
    rw [if_neg (nI_pos (by omega)), if_neg h]
  have in2 : f7_isIn (gPI g M 0 0) (nI t) (nI f) 24 = some (1, gPI g M 0 0) := by
    unfold f7_isIn
    have h : ¬ (24 : Int32) < nI t := nI_nlt (a := 24) ht (by omega)
    rw [if_neg (nI_nlt hft (by omega)), if_neg h]
  have ha : gR (gPI g M 0 0) M 4 = some (M + 2) := m'.1.2.1.2.1
  have hz : gS (gPI g M 0 0) (M + 2) = (11, 120) := m'.1.2.2.2.1
  unfold f7_setGate
  rw [if_pos m.1.1, m_isLane m' wt.2.2.1 h24, gB2_some, if_pos (inR_of (by omega) hi), if_neg n10, in1, gB2_some, if_neg n10, in2, gB2_some, if_neg n10, if_pos m'.1.1, r3, gB2_some, if_pos m'.1.1, r4, gB2_some, if_pos m'.1.1, ha, ob_some, hz, if_pos rfl, i3, if_pos (ixOk (by omega) (by omega)), c3, gR_PI, ha, ob_some, hz, if_pos rfl, i4, if_pos (ixOk (by omega) (by omega)), c4]
abbrev c2 : Nat → Nat := fun c => if c = 0 then 0 else if c = 1 then 1 else 2
theorem o_setGate {a0 n1 n2 n3 n4 q : Nat} {g : g_H} {s : Sg} (I : ClI a0 g s n1 n2 n3 n4 q) (x y z : Int32) : OpR a0 g s n1 n2 n3 n4 q (f6_setGate g a0 x y z) (fun h => f7_setGate h (a0 + 153) x y z) c2 := by
  obtain ⟨s1, s2, s3, s4, s5, s6, s7, s8, s9, s10, s11, s12, s13, s14, s15⟩ := I.sh
  have e2 := I.1.1.1.2.2.1
  by_cases hx : inR (nI n2) x
  · obtain ⟨i, hi, rfl⟩ := inR_nat (by omega) hx
    have bad : (y < 0 ∨ (24 : Int32) ≤ y ∨ z < y ∨ ¬ z ≤ (24 : Int32)) → OpR a0 g s n1 n2 n3 n4 q (f6_setGate g a0 (nI i) y z) (fun h => f7_setGate h (a0 + 153) (nI i) y z) c2 := by
      intro hb
      refine OpR.thr I 2 (by omega) (by omega) ?_ fun h m => ?_
      · unfold f6_setGate f6_setGate_42
        rw [if_pos s1, s2, ob_some, if_pos s6, p_hasLane s6, gB2_some, s9, if_pos hx, if_neg n10]
        by_cases k1 : y < 0
        · rw [if_pos k1]
        · by_cases k2 : (24 : Int32) ≤ y
          · rw [if_neg k1, if_pos k2]
          · by_cases k3 : z < y
            · rw [if_neg k1, if_neg k2, if_pos k3]
            · rw [if_neg k1, if_neg k2, if_neg k3, if_neg (((hb.resolve_left k1).resolve_left k2).resolve_left k3)]
      · have m' := m.thr (v := 0)
        unfold f7_setGate f7_setGate_39
        rw [if_pos m.1.1, m_isLane m' e2 s13, gB2_some, if_pos hx, if_neg n10, isIn_w (n := 24) (by omega) (by decide), gB2_some]
        by_cases k : inR (nI 24) y
        · rw [if_pos k, if_neg n10]
          unfold f7_isIn
          by_cases k3 : z < y
          · rw [if_pos k3, gB2_some, if_pos rfl, if_pos m'.1.1, m_fail m'.1.1, gB2_some]
            rfl
          · have k4 : (24 : Int32) < z := Int32.not_le.mp (((hb.resolve_left k.1).resolve_left k.2).resolve_left k3)
            rw [if_neg k3, if_pos k4, gB2_some, if_pos rfl, if_pos m'.1.1, m_fail m'.1.1, gB2_some]
            rfl
        · rw [if_neg k, if_pos rfl, if_pos m'.1.1, m_fail m'.1.1, gB2_some]
          rfl
    by_cases k1 : y < 0
    · exact bad (Or.inl k1)
    · by_cases k2 : (24 : Int32) ≤ y
      · exact bad (Or.inr (Or.inl k2))
      · by_cases k3 : z < y
        · exact bad (Or.inr (Or.inr (Or.inl k3)))
        · by_cases k4 : z ≤ (24 : Int32)
          · obtain ⟨f, hf, rfl⟩ := inR_nat (n := 24) (by omega) ⟨k1, k2⟩
            have hz0 : ¬ z < 0 := fun k => k3 (Int32.lt_of_lt_of_le k (nI_pos' (by omega)))
            obtain ⟨t, ht, rfl⟩ := nI_of2 (n := 24) rfl hz0 k4
            have hft : f ≤ t := by
              rcases Nat.lt_or_ge t f with k | k
              · exact absurd (nI_lt k (by omega)) k3
              · exact k
            obtain ⟨l1, l2, l3, l4, l5, l6, l7, l8⟩ := p_lane I.1 hi
            have ci : Int32.toNatClampNeg (nI i) = i := cl_nI (by omega)
            have r4 := (I.1.2.1.2.2.2.2.1).2.2.2.1 i hi
            have hne : nI i ≠ gI g (a0 + 43) 7 := by rw [I.2.2.1]; exact nI_m1 (by omega)
            obtain ⟨g3, g4⟩ := r4.2.2 hne
            have r1' : R1 a0 (a0 + 43) (gPI (gPI g (a0 + 4 + i) 3 (nI f)) (a0 + 4 + i) 4 (nI t)) (gtS s i (nI f) (nI t)) n2 := by
              obtain ⟨q1, q2, q3, q4, q5⟩ := I.1.2.1.2.2.2.2.1
              have off : ∀ a, a ≠ a0 + 4 + i → gI (gPI (gPI g (a0 + 4 + i) 3 (nI f)) (a0 + 4 + i) 4 (nI t)) a = gI g a := fun a ha => (gU_o ha).trans (gU_o ha)
              refine ⟨?_, ?_, fun k hk => ?_, fun j hj => ?_, fun u v hu hv => ?_⟩
              · rw [off _ (by omega), gt_T (by omega)]; exact q1
              · rw [off _ (by omega), gt_T (by omega)]; exact q2
              · rw [off _ (by omega), gt_T (by omega)]; exact q3 k hk
              · rw [off (a0 + 43) (by omega), I.2.2.1]
                refine ⟨fun k hk => ?_, fun k => absurd k (nI_m1 (by omega)), fun _ => ?_⟩
                · rw [gt_k hk, gI_PI, if_neg (c := k = 4) (by omega), gI_PI, if_neg (c := k = 3) (by omega), ite_self, ite_self]
                  exact (q4 j hj).1 k hk
                · by_cases e : j = i
                  · subst e
                    rw [gt_3, gt_4]
                    simp [gI_PI]
                  · rw [off _ (by omega), gt_o e, gt_o e]
                    exact (q4 j hj).2.2 (by rw [I.2.2.1]; exact nI_m1 (by omega))
              · rw [off _ (by omega), gt_T (by omega)]; exact q5 u v hu hv
            have ft : Ft a0 g (gPI (gPI g (a0 + 4 + i) 3 (nI f)) (a0 + 4 + i) 4 (nI t)) := (Ft.put ⟨by omega, by omega⟩).tr (Ft.put ⟨by omega, by omega⟩)
            have I' := I.st ft (gt_WT (i := i) I.1.1.1 (by omega) hft ht) (Nat.le_refl _) (gt_T (by omega)) (gt_T (by omega)) (gt_T (by omega)) (by rw [gt_T (by omega)]) (by rw [gt_T (by omega)]) (by rw [gt_T (by omega)]) (fun b hb u v => gt_sl u v) (fun b hb u hu => gt_tg b _) r1' (gt_Ws I.2.2.2)
            refine ⟨0, (100 : Int32) * s 2 i 3 + s 2 i 4, _, _, n1, n2, n3, n4, q, ?_, by omega, ft.fc, I', by omega, fun h m hZ => ?_⟩
            · unfold f6_setGate
              rw [if_pos s1, s2, ob_some, if_pos s6, p_hasLane s6, gB2_some, s9, if_pos hx, if_neg n10, if_neg k1, if_neg k2, if_neg k3, if_pos k4, if_pos s1, s2, ob_some, if_pos s6, l1, ob_some, l2, if_pos rfl, if_pos (ixOk (by omega) (by omega)), ci, l3, ob_some, if_pos l4, g3, g4]
            · obtain ⟨g', x1, x2, x3⟩ := m_setGate m I.1.1.1 hi (show f ≤ 23 by omega) hft ht
              refine ⟨_, g', x1, ?_, x3, ?_, fun _ => rfl⟩
              · rw [x2]
                exact ((Fmm.put ⟨by omega, by omega⟩).tr (Fmm.put (a := a0 + 153 + 2) ⟨by omega, by omega⟩)).tr (Fmm.put (a := a0 + 153 + 2) ⟨by omega, by omega⟩)
              · rw [x2]; simp [gI_PI]; rfl
          · exact bad (Or.inr (Or.inr (Or.inr k4)))
  · refine OpR.thr I 1 (by omega) (by omega) ?_ fun h m => ?_
    · unfold f6_setGate
      rw [if_pos s1, s2, ob_some, if_pos s6, p_hasLane s6, gB2_some, s9, if_neg hx, if_pos rfl]
    · have m' := m.thr (v := 0)
      unfold f7_setGate
      rw [if_pos m.1.1, m_isLane m' e2 s13, gB2_some, if_neg hx, if_pos rfl, if_pos m'.1.1, m_fail m'.1.1, gB2_some]
      rfl
