/-! PURE: the model deals -/
theorem su_su {s : Sg} {t i k : Nat} {v w : Int32} : su (su s t i k v) t i k w = su s t i k w := by
  funext a b c
  unfold su
  split <;> rfl
theorem su_comm {s : Sg} {t i k t' i' k' : Nat} {v w : Int32} (h : t ≠ t' ∨ i ≠ i' ∨ k ≠ k') : su (su s t i k v) t' i' k' w = su (su s t' i' k' w) t i k v := by
  funext a b c
  unfold su
  by_cases h1 : a = t ∧ b = i ∧ c = k
  · rw [if_pos h1, if_pos h1, if_neg (by omega)]
  · rw [if_neg h1, if_neg h1]
theorem MX.putL {M n1 n2 n3 n4 i k : Nat} {g : g_H} {s : Sg} {v : Int32} (m : MX M g s n1 n2 n3 n4) (hk : k < 5) : MX M (gPI g (M + 6) (5 * i + k) v) (su s 5 i k v) n1 n2 n3 n4 := m.fm (Fm.put (Or.inr (Or.inl rfl))) Same.l (m.2.2.2.l hk)
theorem MX.putB {M n1 n2 n3 n4 b k : Nat} {g : g_H} {s : Sg} {v : Int32} (m : MX M g s n1 n2 n3 n4) (hk : k < 8) (h5 : k ≠ 5) : MX M (gPI g (M + 4) (8 * b + k) v) (su s 3 b k v) n1 n2 n3 n4 := m.fm (Fm.put (Or.inl rfl)) (Same.b h5) (m.2.2.2.b hk)
theorem MX.putQ {M n1 n2 n3 n4 : Nat} {g : g_H} {s : Sg} {v : Int32} (m : MX M g s n1 n2 n3 n4) : MX M (gPI g (M + 7) 0 v) (su s 0 0 0 v) n1 n2 n3 n4 := m.fm (Fm.put (Or.inr (Or.inr rfl))) Same.q m.2.2.2.q
theorem fmL {M k : Nat} {g : g_H} {v : Int32} : Fm M g (gPI g (M + 6) k v) := Fm.put (Or.inr (Or.inl rfl))
theorem fmB {M k : Nat} {g : g_H} {v : Int32} : Fm M g (gPI g (M + 4) k v) := Fm.put (Or.inl rfl)
theorem m_honour {M n1 n2 n3 n4 b : Nat} {g : g_H} {s : Sg} {x : Int32} (m : MX M g s n1 n2 n3 n4) (h6 : n3 ≤ 6) (hb : b < n3) (hx : x = nI b) (v : Int32) : f7_honour g M x v = some (gPI g (M + 4) (8 * b + 3) (clip (s 3 b 3 + v))) := by
  unfold f7_honour
  rw [if_pos m.1.1, m_be (k := 3) (y := (3 : Int32)) m h6 hb (by omega) hx rfl, gB2_some, if_pos m.1.1, m_setBe (k := 3) (y := (3 : Int32)) m h6 hb (by omega) hx rfl, ob_some]
  rfl
theorem m_strengthen {M n1 n2 n3 n4 b : Nat} {g : g_H} {s : Sg} {x : Int32} (m : MX M g s n1 n2 n3 n4) (h6 : n3 ≤ 6) (hb : b < n3) (hx : x = nI b) (v : Int32) : f7_strengthen g M x v = some (gPI g (M + 4) (8 * b + 2) (strong (s 3 b 2 + v))) := by
  unfold f7_strengthen
  rw [if_pos m.1.1, m_be (k := 2) (y := (2 : Int32)) m h6 hb (by omega) hx rfl, gB2_some, if_pos m.1.1, m_setBe (k := 2) (y := (2 : Int32)) m h6 hb (by omega) hx rfl, ob_some]
  rfl
theorem m_take {M n1 n2 n3 n4 b i : Nat} {g : g_H} {s : Sg} {x y : Int32} (m : MX M g s n1 n2 n3 n4) (h20 : n4 ≤ 20) (hi : i < n4) (hx : x = nI b) (hy : y = nI i) : ∃ g', f7_take g M x y = some g' ∧ Fm M g g' ∧ MX M g' (takeS s b i) n1 n2 n3 n4 := by
  subst hx
  have m1 := m.putL (i := i) (k := 1) (v := -1) (by omega)
  have m2 := m1.putL (i := i) (k := 2) (v := nI b) (by omega)
  have m3 := m2.putL (i := i) (k := 4) (v := s 5 i 4 + 1) (by omega)
  have e4 : (su (su s 5 i 1 (-1)) 5 i 2 (nI b)) 5 i 4 = s 5 i 4 := (su_k (by omega)).trans (su_k (by omega))
  refine ⟨_, ?_, (fmL.tr fmL).tr fmL, m3⟩
  unfold f7_take
  rw [if_pos m.1.1, m_setLe (k := 1) (y := (1 : Int32)) m h20 hi (by omega) hy rfl, ob_some, if_pos m1.1.1, m_setLe (k := 2) (y := (2 : Int32)) m1 h20 hi (by omega) hy rfl, ob_some, if_pos m2.1.1, m_le (k := 4) (y := (4 : Int32)) m2 h20 hi (by omega) hy rfl, gB2_some, if_pos m2.1.1, m_setLe (k := 4) (y := (4 : Int32)) m2 h20 hi (by omega) hy rfl, ob_some, e4]
theorem arr_del {s : Sg} {b i n1 n2 n3 n4 q : Nat} (w : WF s n1 n2 n3 n4 q) (hb : b < n3) (hi : i < n4) (h : s 5 i 2 = nI b) : arr (delS s b i) = arr s + 1 := by
  have hn4 := w.2.2.2.1
  have b19 := w.2.2.2.2.1
  have h6 := w.2.2.1
  have e4 : (delS s b i) 0 0 4 = nI n4 := (delS_same.1 4 (by omega)).trans hn4
  rw [arr_def e4 b19, arr_def hn4 b19]
  refine arrF_more hi ?_ ?_ ?_
  · exact (w.2.2.2.2.2.2.2.2 i hi).2.2.2.1 (by rw [h]; exact nI_m1 (by omega)) |>.2
  · have : delS s b i 5 i 3 = s 0 0 0 := by simp [delS, su]
    rw [this, w.2.2.2.2.2.1]
    exact nI_m1 (by have := w.2.2.2.2.2.2.1; omega)
  · intro j _ hj
    simp [delS, su, hj]
theorem arr_keep {s t : Sg} (h0 : t 0 0 4 = s 0 0 4) (h : ∀ i, t 5 i 3 = s 5 i 3) : arr t = arr s := by
  unfold arr
  rw [h0]
  exact arrF_keep fun i _ => h i
theorem arr_lay {s : Sg} {i : Nat} {here : Int32} : arr (layS s i here) = arr s := arr_keep (layS_same.1 4 (by omega)) fun j => by simp [layS, su]
theorem arr_take {s : Sg} {b i : Nat} : arr (takeS s b i) = arr s := arr_keep (takeS_same.1 4 (by omega)) fun j => by simp [takeS, su]
theorem del_6 {s : Sg} {b i : Nat} : delS s b i 3 b 6 = s 3 b 6 + 1 := by simp [delS, su]
theorem lay_6 {s : Sg} {b i : Nat} {here : Int32} : layS s i here 3 b 6 = s 3 b 6 := by simp [layS, su]
theorem del_V {s : Sg} {b i : Nat} {v0 : Int32} : su (delS s b i) 3 b 6 v0 = su (su (su (su s 3 b 6 v0) 5 i 2 (-1)) 5 i 3 (s 0 0 0)) 3 b 3 (clip (s 3 b 3 + 1)) := by
  unfold delS
  rw [su_comm (Or.inr (Or.inr (by omega))), su_su, su_comm (t := 5) (k := 3) (Or.inl (by omega)), su_comm (t := 5) (k := 2) (Or.inl (by omega))]
theorem lay_V {s : Sg} {b i : Nat} {here v0 : Int32} : su (layS s i here) 3 b 6 v0 = su (su (su s 3 b 6 v0) 5 i 2 (-1)) 5 i 1 here := by
  unfold layS
  rw [su_comm (t := 5) (k := 1) (Or.inl (by omega)), su_comm (t := 5) (k := 2) (Or.inl (by omega))]
theorem WB.v6 {s : Sg} {n1 b b' : Nat} {v0 : Int32} (w : WB s n1 b) : WB (su s 3 b' 6 v0) n1 b := by
  have hs : Same s (su s 3 b' 6 v0) := Same.b (by omega)
  have w' := w
  obtain ⟨z, p, l, st, ho, e1, e2, e3, e4, e5, e6, e7, e8, e9, e10, e11, e12, e13, e14, e15⟩ := w
  exact WB.keep hs w' (by simp [su]) (by simp [su]) ⟨st, e9, by rw [← e8]; simp [su]⟩ ⟨ho, e11, by rw [← e10]; simp [su]⟩ (by simpa [su] using e12) (by simpa [su] using e13)
theorem m_hoStep {M a0 F n1 n2 n3 n4 q b i : Nat} {g g0 : g_H} {s : Sg} {v0 x2 : Int32} (c : CI a0 F g0 s n1 n2 n3 n4 q) (m : MX M g (su s 3 b 6 v0) n1 n2 n3 n4) (hb : b < n3) (hi : i < n4) {here : Int32} :
    ∃ g' x2', (∀ K, f7_deal_11b K g M (nI b) x2 here (nI i) = K g' M (nI b) x2' here (nI i + 1)) ∧ Fm M g g' ∧ MX M g' (su (hoS s b here i) 3 b 6 v0) n1 n2 n3 n4 ∧ (x2 = s 3 b 6 - v0 → x2' = hoS s b here i 3 b 6 - v0) ∧ ∀ A, x2 = arr s - A → x2' = arr (hoS s b here i) - A := by
  have w := c.1
  have h6 := w.2.2.1
  have h20 := w.2.2.2.2.1
  have w4 := w.2.2.2.1
  have e9 : gI g M 9 = nI n4 := m.2.1.2.2.2.trans ((su_t (by omega)).trans w4)
  have hS : Same s (su s 3 b 6 v0) := Same.b (by omega)
  have l2 : f7_le g M (nI i) 2 = some (s 5 i 2, g) := by
    rw [m_le (k := 2) (y := (2 : Int32)) m h20 hi (by omega) rfl rfl, su_t (by omega)]
  have l0 : f7_le g M (nI i) 0 = some (s 5 i 0, g) := by
    rw [m_le (k := 0) (y := (0 : Int32)) m h20 hi (by omega) rfl rfl, su_t (by omega)]
  have hto : inR (nI n1) (s 5 i 0) := (w.2.2.2.2.2.2.2.2 i hi).1
  have sub1 : ∀ a b : Int32, a + 1 - b = a - b + 1 := fun a b => by
    rw [Int32.sub_eq_add_neg, Int32.sub_eq_add_neg, Int32.add_assoc, Int32.add_assoc, Int32.add_comm 1]
  by_cases h : s 5 i 2 = nI b
  · have m1 := m.putL (i := i) (k := 2) (v := -1) (by omega)
    by_cases h' : s 5 i 0 = here
    · have m2 := m1.putL (i := i) (k := 3) (v := s 0 0 0) (by omega)
      have m3 := m2.putB (b := b) (k := 3) (v := clip (s 3 b 3 + 1)) (by omega) (by omega)
      have e00 : gI (gPI g (M + 6) (5 * i + 2) (-1)) (M + 7) 0 = s 0 0 0 := by
        rw [gI_PI, if_neg (by omega), m.2.2.2.2.2, su_t (by omega)]
      have e33 : (su (su (su s 3 b 6 v0) 5 i 2 (-1)) 5 i 3 (s 0 0 0)) 3 b 3 = s 3 b 3 := by rw [su_t (by omega), su_t (by omega), su_k (by omega)]
      have ehs : hoS s b here i = delS s b i := by unfold hoS; rw [if_pos h, if_pos h']; rfl
      refine ⟨_, x2 + 1, fun K => ?_, (fmL.tr fmL).tr fmB, by rw [ehs, del_V]; exact m3, ?_, ?_⟩
      · unfold f7_deal_11b f7_deal_50 f7_deal_76 f7_deal_122
        rw [if_pos m.1.1, e9, if_neg (nI_ge hi (by omega)), l2, gB2_some, if_pos h, if_pos m.1.1, l0, gB2_some, if_pos h', if_neg n10, if_pos m.1.1, m_setLe (k := 2) (y := (2 : Int32)) m h20 hi (by omega) rfl rfl, ob_some, if_neg n10, if_pos m1.1.1, m1.1.2.1.2.2.2.2.2.2.1, ob_some, m1.1.2.2.2.2.2.2.2.2.1, if_pos rfl, if_pos (by decide)]
        rw [show Int32.toNatClampNeg (0 : Int32) = 0 from rfl, e00, m_setLe (k := 3) (y := (3 : Int32)) m1 h20 hi (by omega) rfl rfl, ob_some, if_pos m2.1.1, m_honour m2 h6 hb rfl, ob_some, e33]
      · intro hx
        rw [ehs, del_6, hx, sub1]
      · intro A hx
        rw [ehs, arr_del w hb hi h, hx, sub1]
    · have e0 := m_targetOf (to := s 5 i 0) m (w.1.same hS) h6 hb ((c.wb hb).v6) hto rfl
      rw [hS.tgE] at e0
      by_cases h'' : tg s b (s 5 i 0) = here
      · have m2 := m1.putL (i := i) (k := 1) (v := here) (by omega)
        have ehs : hoS s b here i = layS s i here := by unfold hoS; rw [if_pos h, if_neg h', if_pos h'']; rfl
        refine ⟨_, x2, fun K => ?_, fmL.tr fmL, by rw [ehs, lay_V]; exact m2, ?_, ?_⟩
        · unfold f7_deal_11b f7_deal_50 f7_deal_76 f7_deal_122
          rw [if_pos m.1.1, e9, if_neg (nI_ge hi (by omega)), l2, gB2_some, if_pos h, if_pos m.1.1, l0, gB2_some, if_neg h', if_pos rfl, if_pos m.1.1, l0, gB2_some, if_pos m.1.1, e0, gB2_some, if_pos h'', if_pos m.1.1, m_setLe (k := 2) (y := (2 : Int32)) m h20 hi (by omega) rfl rfl, ob_some, if_pos rfl, if_pos m1.1.1, m_setLe (k := 1) (y := (1 : Int32)) m1 h20 hi (by omega) rfl rfl, ob_some]
        · intro hx; rw [ehs, lay_6]; exact hx
        · intro A hx; rw [ehs, arr_lay]; exact hx
      · have ehs : hoS s b here i = s := by unfold hoS; rw [if_pos h, if_neg h', if_neg h'']
        refine ⟨g, x2, fun K => ?_, Fm.rf, by rw [ehs]; exact m, by rw [ehs]; exact id, by rw [ehs]; exact fun _ => id⟩
        unfold f7_deal_11b f7_deal_50 f7_deal_122
        rw [if_pos m.1.1, e9, if_neg (nI_ge hi (by omega)), l2, gB2_some, if_pos h, if_pos m.1.1, l0, gB2_some, if_neg h', if_pos rfl, if_pos m.1.1, l0, gB2_some, if_pos m.1.1, e0, gB2_some, if_neg h'']
  · have ehs : hoS s b here i = s := by unfold hoS; rw [if_neg h]
    refine ⟨g, x2, fun K => ?_, Fm.rf, by rw [ehs]; exact m, by rw [ehs]; exact id, by rw [ehs]; exact fun _ => id⟩
    unfold f7_deal_11b f7_deal_122
    rw [if_pos m.1.1, e9, if_neg (nI_ge hi (by omega)), l2, gB2_some, if_neg h]
