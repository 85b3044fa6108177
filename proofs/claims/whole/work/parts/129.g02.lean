/-! PURE: calls, the simple ones -/
theorem pred_lt {n : Nat} {x : Int32} (hn : n < 2 ^ 26) (hx : ¬ x < 0) : nI n - 1 < x ↔ nI n ≤ x := by
  obtain ⟨j, hj, rfl⟩ := nI_of hx
  rcases Nat.eq_zero_or_pos n with z | z
  · subst z
    refine ⟨fun _ => nI_le (by omega) hj, fun _ => ?_⟩
    have e : nI 0 - 1 = (-1 : Int32) := by decide
    rw [e]
    apply Int32.lt_iff_toInt_lt.mpr
    rw [nI_toInt hj]
    have : (-1 : Int32).toInt = -1 := rfl
    omega
  · obtain ⟨u, rfl⟩ : ∃ u, n = u + 1 := ⟨n - 1, by omega⟩
    rw [nI_pred]
    exact (nI_ltI (by omega) hj).trans (Iff.trans (by omega) (nI_leI (a := u + 1) (b := j) (by omega) hj).symm)
theorem isIn_n {g : g_H} {n : Nat} {x : Int32} (hn : n < 2 ^ 26) : f7_isIn g x 0 (nI n - 1) = some (if inR (nI n) x then 1 else 0, g) := by
  unfold f7_isIn
  by_cases c : x < 0
  · rw [if_pos c, if_neg fun q => q.1 c]
  · rw [if_neg c]
    by_cases d : nI n ≤ x
    · rw [if_pos ((pred_lt hn c).mpr d), if_neg fun q => q.2 d]
    · rw [if_neg fun q => d ((pred_lt hn c).mp q), if_pos ⟨c, d⟩]
theorem if01 {p : Prop} [Decidable p] : (if p then (1 : Int32) else 0) = 0 ∨ (if p then (1 : Int32) else 0) = 1 := by
  split
  · exact Or.inr rfl
  · exact Or.inl rfl
theorem m_isHouse {M n1 n2 n3 n4 : Nat} {g : g_H} {s : Sg} (m : MX M g s n1 n2 n3 n4) (e : s 0 0 1 = nI n1) (h : n1 ≤ 14) (x : Int32) : f7_isHouse g M x = some (if inR (nI n1) x then 1 else 0, g) := by
  unfold f7_isHouse
  rw [if_pos m.1.1, m.2.1.1, e, isIn_n (by omega), gB2_some, if_pos if01]
theorem m_isLane {M n1 n2 n3 n4 : Nat} {g : g_H} {s : Sg} (m : MX M g s n1 n2 n3 n4) (e : s 0 0 2 = nI n2) (h : n2 ≤ 24) (x : Int32) : f7_isLane g M x = some (if inR (nI n2) x then 1 else 0, g) := by
  unfold f7_isLane
  rw [if_pos m.1.1, m.2.1.2.1, e, isIn_n (by omega), gB2_some, if_pos if01]
theorem m_isBee {M n1 n2 n3 n4 : Nat} {g : g_H} {s : Sg} (m : MX M g s n1 n2 n3 n4) (e : s 0 0 3 = nI n3) (h : n3 ≤ 6) (x : Int32) : f7_isBee g M x = some (if inR (nI n3) x then 1 else 0, g) := by
  unfold f7_isBee
  rw [if_pos m.1.1, m.2.1.2.2.1, e, isIn_n (by omega), gB2_some, if_pos if01]
theorem m_isLetter {M n1 n2 n3 n4 : Nat} {g : g_H} {s : Sg} (m : MX M g s n1 n2 n3 n4) (e : s 0 0 4 = nI n4) (h : n4 ≤ 20) (x : Int32) : f7_isLetter g M x = some (if inR (nI n4) x then 1 else 0, g) := by
  unfold f7_isLetter
  rw [if_pos m.1.1, m.2.1.2.2.2, e, isIn_n (by omega), gB2_some, if_pos if01]
theorem m_fail {M : Nat} {g : g_H} (h : (gS g M).1 = 8) (k : Int32) : f7_fail g M k = some (0, gPI g M 0 k) := if_pos h
/-- facts of the class's object -/
theorem ClI.sh {a0 n1 n2 n3 n4 q : Nat} {g : g_H} {s : Sg} (I : ClI a0 g s n1 n2 n3 n4 q) : (gS g a0).1 = 7 ∧ gR g a0 0 = some (a0 + 1) ∧ gR g a0 1 = some (a0 + 43) ∧ gR g a0 2 = some (a0 + 96) ∧ gR g a0 3 = some (a0 + 149) ∧ (gS g (a0 + 1)).1 = 6 ∧ (gS g (a0 + 43)).1 = 2 ∧ gI g (a0 + 1) 0 = nI n1 ∧ gI g (a0 + 1) 1 = nI n2 ∧ gI g (a0 + 43) 3 = nI n3 ∧ gI g (a0 + 43) 4 = nI n4 ∧ n1 ≤ 14 ∧ n2 ≤ 24 ∧ n3 ≤ 6 ∧ n4 ≤ 20 :=
  ⟨I.2.1.1, I.2.1.2.1, I.2.1.2.2.1, I.2.1.2.2.2.1, I.2.1.2.2.2.2.1, I.1.2.1.2.1.1, I.1.2.1.2.2.1.1, I.1.2.1.2.2.2.2.1.1.trans I.1.1.1.1, I.1.2.1.2.2.2.2.1.2.1.trans I.1.1.1.2.2.1, I.1.2.2.1.1.trans I.1.1.2.1, I.1.2.2.1.2.1.trans I.1.1.2.2.2.1, I.1.1.1.2.1, I.1.1.1.2.2.2.1, I.1.1.2.2.1, I.1.1.2.2.2.2.1⟩
theorem Sh.fr {a0 : Nat} {g h : g_H} (t : Sh a0 g) (f : Fr (a0 + 43) g h) : Sh a0 h := by
  obtain ⟨t1, t2, t3, t4, t5, t6, t7, t8⟩ := t
  obtain ⟨f1, f2, f3, f4, ⟨f5, f6⟩, f7⟩ := f
  refine ⟨by rw [f1]; exact t1, by rw [f2]; exact t2, by rw [f2]; exact t3, by rw [f2]; exact t4, by rw [f2]; exact t5, ?_, ?_, fun b hb => ?_⟩
  · unfold FL; rw [f1, f2]; exact t6
  · unfold RtL; rw [f1, f2]; exact t7
  · rw [f2, f6, f6]; exact t8 b hb
theorem ClI.fr {a0 n1 n2 n3 n4 q q' : Nat} {g h : g_H} {s t : Sg} (I : ClI a0 g s n1 n2 n3 n4 q) (f : Fr (a0 + 43) g h) (c : CI a0 (a0 + 43) h t n1 n2 n3 n4 q') (hs : Same s t) : ClI a0 h t n1 n2 n3 n4 q' := by
  refine ⟨c, I.2.1.fr f, by rw [f.2.2.2.2.1.1]; exact I.2.2.1, ?_⟩
  obtain ⟨C, la, w1, w2, w3⟩ := I.2.2.2
  exact ⟨C, la, by rw [hs.2.2.2.2.1]; exact w1, by rw [hs.2.2.1]; exact w2, w3⟩
/-- a call that throws -/
theorem OpR.thr {a0 n1 n2 n3 n4 q : Nat} {g : g_H} {s : Sg} {cls : Option ((Nat × Int32) × g_H)} {mdl : g_H → Option (Int32 × g_H)} {cm : Nat → Nat} (I : ClI a0 g s n1 n2 n3 n4 q) (code : Nat) (h3 : code ≤ 3) (h0 : code ≠ 0) (hc : cls = some ((code, 0), g))
    (hm : ∀ h, MX (a0 + 153) h s n1 n2 n3 n4 → mdl h = some (0, gPI (gPI h (a0 + 153) 0 0) (a0 + 153) 0 (nI (cm code)))) : OpR a0 g s n1 n2 n3 n4 q cls mdl cm :=
  ⟨code, 0, g, s, n1, n2, n3, n4, q, hc, h3, Fc.rf, I, by omega, fun h m _ => ⟨0, _, hm h m, (Fmm.put ⟨by omega, by omega⟩).tr (Fmm.put ⟨by omega, by omega⟩), m.thr.thr, by simp [gI_PI], fun q => absurd q h0⟩⟩
theorem quS_same {s : Sg} {a0 F n1 n2 n3 n4 q : Nat} {g : g_H} (c : CI a0 F g s n1 n2 n3 n4 q) : Same s (quS s) := by
  have h : ∀ b, Same s (beeF s b) := by
    intro b
    induction b with
    | zero => exact Same.rf
    | succ b ih =>
      refine ih.tr ?_
      show Same (beeF s b) (beeS (beeF s b) b)
      have mv : ∀ (t : Sg) (here : Int32), Same t (mvS t b here) := fun t here => by
        unfold mvS flyS
        split
        · exact (Same.b (by omega)).tr (Same.b (by omega))
        · split
          · exact Same.b (by omega)
          · split
            · exact Same.rf
            · dsimp only
              split
              · exact (((Same.b (by omega)).tr (Same.b (by omega))).tr (Same.b (by omega))).tr (Same.b (by omega))
              · exact (Same.b (by omega)).tr (Same.b (by omega))
      have st : Same (beeF s b) (if 0 < beeF s b 3 b 1 then su (beeF s b) 3 b 1 (beeF s b 3 b 1 - 1) else beeF s b) := by
        split
        · exact Same.b (by omega)
        · exact Same.rf
      unfold beeS
      dsimp only
      by_cases k : (if 0 < beeF s b 3 b 1 then su (beeF s b) 3 b 1 (beeF s b 3 b 1 - 1) else beeF s b) 3 b 1 = 0
      · rw [if_pos k]
        exact ((st.tr hoF_same).tr coF_same).tr (mv _ _)
      · rw [if_neg k]
        exact st
  unfold quS
  exact (h _).tr Same.q
theorem quF_same {s : Sg} {a0 F n1 n2 n3 n4 q : Nat} {g : g_H} (c : CI a0 F g s n1 n2 n3 n4 q) (k : Nat) (hk : q + k < 2 ^ 26) : Same s (quF s k) := by
  induction k with
  | zero => exact Same.rf
  | succ k ih =>
    obtain ⟨g1, c1⟩ := c_qus c k (by omega)
    exact (ih (by omega)).tr (quS_same c1)
theorem rng {x : Int32} {n : Nat} (h1 : ¬ x < 1) (h2 : x ≤ nI n) (hn : n < 2 ^ 31) : ∃ N, x = nI N ∧ 1 ≤ N ∧ N ≤ n := by
  have h0 : ¬ x < 0 := fun k => h1 (Int32.lt_trans k (by decide))
  obtain ⟨j, hj, rfl⟩ := nI_of h0
  refine ⟨j, rfl, ?_, (nI_leI hj hn).mp h2⟩
  rcases Nat.eq_zero_or_pos j with z | z
  · exfalso; apply h1; rw [z]; decide
  · exact z
theorem o_pass {a0 n1 n2 n3 n4 q : Nat} {g : g_H} {s : Sg} (I : ClI a0 g s n1 n2 n3 n4 q) (hq : q + 240 < 2 ^ 26) (x : Int32) : OpR a0 g s n1 n2 n3 n4 q (f6_pass g a0 x) (fun h => f7_pass h (a0 + 153) x) (fun c => if c = 0 then 0 else 1) := by
  have bad : (x < 1 ∨ ¬ x ≤ 240) → OpR a0 g s n1 n2 n3 n4 q (f6_pass g a0 x) (fun h => f7_pass h (a0 + 153) x) (fun c => if c = 0 then 0 else 1) := by
    intro hb
    refine OpR.thr I 2 (by omega) (by omega) ?_ fun h m => ?_
    · unfold f6_pass f6_pass_12
      by_cases c : x < 1
      · rw [if_pos c]
      · rw [if_neg c, if_neg (hb.resolve_left c)]
    · unfold f7_pass f7_isIn
      rw [if_pos m.1.1]
      by_cases c : x < 1
      · rw [if_pos c, gB2_some, if_pos rfl, if_pos m.thr.1.1, m_fail m.thr.1.1, gB2_some]
        rfl
      · rw [if_neg c, if_pos (Int32.not_le.mp (hb.resolve_left c)), gB2_some, if_pos rfl, if_pos m.thr.1.1, m_fail m.thr.1.1, gB2_some]
        rfl
  by_cases c1 : x < 1
  · exact bad (Or.inl c1)
  · by_cases c2 : x ≤ 240
    · obtain ⟨N, rfl, hN1, hN⟩ := rng c1 (n := 240) c2 (by omega)
      obtain ⟨g', e1, e2, e3⟩ := p_quarters I.1 (show N < 300 by omega) (by omega)
      obtain ⟨s1, s2, s3, s4, s5, s6, s7, -⟩ := I.sh
      refine ⟨0, arr (quF s N) - arr s, g', quF s N, n1, n2, n3, n4, q + N, ?_, by omega, e2.fc (Or.inl rfl), I.fr e2 e3 (quF_same I.1 N (by omega)), by omega, fun h m _ => ?_⟩
      · unfold f6_pass
        rw [if_neg c1, if_pos c2, if_pos s1, s3, ob_some, if_pos s7, e1, gB2_some]
      · obtain ⟨g2, d1, d2, d3⟩ := m_passLoop I.1 (N := N) (by omega) N 0 300 (gPI h (a0 + 153) 0 0) (by omega) (by omega) m.thr
        rw [show arr (quF s 0) - arr s = 0 from Int32.sub_self _] at d1
        refine ⟨_, g2, ?_, (Fmm.put ⟨by omega, by omega⟩).tr d2.mm, d3, ?_, fun _ => rfl⟩
        · dsimp only
          unfold f7_pass f7_isIn
          rw [if_pos m.1.1, if_neg c1, if_neg (Int32.not_lt.mpr c2), gB2_some, if_neg n10]
          exact d1
        · rw [d2.2.2.2.2 _ (by unfold chm; omega)]
          simp [gI_PI]
          rfl
    · exact bad (Or.inr c2)
