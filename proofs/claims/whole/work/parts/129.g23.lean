/-! PURE: digest, the class -/
def dS (d : Int64) (v : Int32) : Int64 := d * 31 + Int32.toInt64 v
def dF (f : Nat → Int32) (d : Int64) : Nat → Int64
  | 0 => d
  | k + 1 => dS (dF f d k) (f k)
def fl (t : Nat → Nat → Int32) (k : Nat) : Int32 := t (k / 5) (k % 5)
theorem fl_5 {t : Nat → Nat → Int32} {i j : Nat} (h : j < 5) : fl t (5 * i + j) = t i j := by
  unfold fl
  rw [show (5 * i + j) / 5 = i by omega, show (5 * i + j) % 5 = j by omega]
theorem dF_5 {t : Nat → Nat → Int32} {d : Int64} {i : Nat} : dF (fl t) d (5 * (i + 1)) = dS (dS (dS (dS (dS (dF (fl t) d (5 * i)) (t i 0)) (t i 1)) (t i 2)) (t i 3)) (t i 4) := by
  show dS (dS (dS (dS (dS (dF (fl t) d (5 * i)) (fl t (5 * i + 0))) (fl t (5 * i + 1))) (fl t (5 * i + 2))) (fl t (5 * i + 3))) (fl t (5 * i + 4)) = _
  rw [fl_5 (by omega), fl_5 (by omega), fl_5 (by omega), fl_5 (by omega), fl_5 (by omega)]
/-- the bees' part -/
def dB (s : Sg) (d : Int64) : Nat → Int64
  | 0 => d
  | b + 1 => dF (s 4 b) (dF (tl s b) (dB s d b) 9) (cl (s 3 b 5))
def dgV (s : Sg) (n1 n2 n3 n4 : Nat) : Int64 := dF (fl (s 5)) (dB s (dF (fl (s 2)) (dF (fun h => s 1 h 0) (dF (cnS s n2 n3 n4) 811 9) n1) (5 * n2)) n3) (5 * n4)
theorem p_dgLet {g : g_H} {L : Nat} {s : Sg} {i : Nat} {d : Int64} (hL : (gS g L).1 = 4) (h : ∀ k, k < 5 → gI g L k = s 5 i k) : f3_digestFrom g L d = some (dF (s 5 i) d 5, g) := by
  have lp : ∀ k j fuel : Nat, j + k = 5 → k < fuel → f3_digestFrom_5 fuel g L (dF (s 5 i) d j) (nI j) = some (dF (s 5 i) d 5, g) := by
    intro k
    induction k with
    | zero =>
      intro j fuel h hf
      obtain ⟨fu, rfl⟩ : ∃ fu, fuel = fu + 1 := ⟨fuel - 1, by omega⟩
      have : j = 5 := by omega
      subst this
      show f3_digestFrom_5b (f3_digestFrom_5 fu) g L _ (nI 5) = _
      unfold f3_digestFrom_5b
      rw [if_pos (by decide)]
    | succ k ih =>
      intro j fuel hj hf
      obtain ⟨fu, rfl⟩ : ∃ fu, fuel = fu + 1 := ⟨fuel - 1, by omega⟩
      show f3_digestFrom_5b (f3_digestFrom_5 fu) g L _ (nI j) = _
      unfold f3_digestFrom_5b
      rw [if_neg (show ¬ (5 : Int32) ≤ nI j from nI_ge (b := 5) (by omega) (by omega)), if_pos hL, p_tellL hL (by omega), gB2_some, nI_1, h j (by omega)]
      exact ih (j + 1) fu (by omega) (by omega)
  exact lp 5 0 300 (by omega) (by omega)
theorem p_dgBee {a0 n1 n2 n3 n4 q b : Nat} {g : g_H} {s : Sg} {d : Int64} (I : ClI a0 g s n1 n2 n3 n4 q) (hb : b < n3) : f0_digestFrom g (a0 + 43 + 2 + 5 * b) d = some (dF (s 4 b) (dF (tl s b) d 9) (cl (s 3 b 5)), g) := by
  obtain ⟨s1, s2, s3, s4, s5, s6, s7, s8, s9, s10, s11, s12, s13, s14, s15⟩ := I.sh
  have wb := I.1.wb hb
  obtain ⟨z, p, l, st, ho, e1, e2, e3, -⟩ := wb
  have hB : (gS g (a0 + 43 + 2 + 5 * b)).1 = 1 := (I.1.2.1.2.2.1.2.2.2.2.2.2.1 b (by omega)).2
  have hr : gR g (a0 + 43 + 2 + 5 * b) 1 = some (a0 + 46 + 5 * b) := (I.1.2.2.2.1 b hb).1
  obtain ⟨t1, t2, t3, t4, t5, t6, t7⟩ := I.1.2.1.2.2.2.1 b (by omega)
  obtain ⟨q1, q2, -⟩ := I.1.2.1.2.2.2.2.2 b hb
  have cz : cl (nI z) = z := cl_nI (by omega)
  rw [e1, cz] at q2 ⊢
  rw [e1] at q1
  have l2 : ∀ k j fuel : Nat, ∀ d' : Int64, j + k = z → k < fuel → f0_digestFrom_35 fuel g (a0 + 43 + 2 + 5 * b) (dF (s 4 b) d' j) (nI j) = some (dF (s 4 b) d' z, g) := by
    intro k
    induction k with
    | zero =>
      intro j fuel d' h hf
      obtain ⟨fu, rfl⟩ : ∃ fu, fuel = fu + 1 := ⟨fuel - 1, by omega⟩
      have : j = z := by omega
      subst this
      show f0_digestFrom_35b (f0_digestFrom_35 fu) g _ _ (nI j) = _
      unfold f0_digestFrom_35b f4_length
      rw [if_pos hB, hr, ob_some, if_pos t1, if_pos t1, gB2_some, q1, if_pos (Int32.le_refl _)]
    | succ k ih =>
      intro j fuel d' h hf
      obtain ⟨fu, rfl⟩ : ∃ fu, fuel = fu + 1 := ⟨fuel - 1, by omega⟩
      have cj : Int32.toNatClampNeg (nI j) = j := cl_nI (by omega)
      show f0_digestFrom_35b (f0_digestFrom_35 fu) g _ _ (nI j) = _
      unfold f0_digestFrom_35b f4_length f4_houseAt
      rw [if_pos hB, hr, ob_some, if_pos t1, if_pos t1, gB2_some, q1, if_neg (nI_ge (by omega) (by omega)), if_pos hB, hr, ob_some, if_pos t1, if_neg (nI_pos (by omega)), if_pos t1, q1, if_neg (nI_ge (by omega) (by omega)), t2, ob_some, show a0 + 46 + 5 * b + 1 = a0 + 47 + 5 * b by omega, show gS g (a0 + 47 + 5 * b) = (11, 7) from (show a0 + 46 + 5 * b + 1 = a0 + 47 + 5 * b by omega) ▸ t5, if_pos rfl, if_pos (ixOk (by omega) (by omega)), cj, q2 j (by omega), gB2_some, nI_1]
      exact ih (j + 1) fu d' (by omega) (by omega)
  have l1 : ∀ k j fuel : Nat, j + k = 9 → k < fuel → f0_digestFrom_5 fuel g (a0 + 43 + 2 + 5 * b) (dF (tl s b) d j) (nI j) = some (dF (s 4 b) (dF (tl s b) d 9) z, g) := by
    intro k
    induction k with
    | zero =>
      intro j fuel h hf
      obtain ⟨fu, rfl⟩ : ∃ fu, fuel = fu + 1 := ⟨fuel - 1, by omega⟩
      have : j = 9 := by omega
      subst this
      show f0_digestFrom_5b (f0_digestFrom_5 fu) g _ _ (nI 9) = _
      unfold f0_digestFrom_5b
      rw [if_pos (by decide)]
      exact l2 z 0 300 _ (by omega) (by omega)
    | succ k ih =>
      intro j fuel h hf
      obtain ⟨fu, rfl⟩ : ∃ fu, fuel = fu + 1 := ⟨fuel - 1, by omega⟩
      show f0_digestFrom_5b (f0_digestFrom_5 fu) g _ _ (nI j) = _
      unfold f0_digestFrom_5b
      rw [if_neg (show ¬ (9 : Int32) ≤ nI j from nI_ge (b := 9) (by omega) (by omega)), if_pos hB, p_tell I.1 hb (by omega), gB2_some, nI_1]
      exact ih (j + 1) fu (by omega) (by omega)
  exact l1 9 0 300 (by omega) (by omega)
theorem p_dgTown {a0 n1 n2 n3 n4 q : Nat} {g : g_H} {s : Sg} {d : Int64} (I : ClI a0 g s n1 n2 n3 n4 q) : f5_digestFrom g (a0 + 1) d = some (dF (fl (s 2)) (dF (fun h => s 1 h 0) d n1) (5 * n2), g) := by
  obtain ⟨s1, s2, s3, s4, s5, s6, s7, s8, s9, s10, s11, s12, s13, s14, s15⟩ := I.sh
  obtain ⟨h1, h2, h3, h4, h5, h6, h7, h8, h9⟩ := I.1.2.1.2.1
  obtain ⟨r1, r2, r3, r4, r5⟩ := I.1.2.1.2.2.2.2.1
  have hv := I.1.1.1.2.2.2.2.2.1
  have l2 : ∀ k i fuel : Nat, ∀ d' : Int64, i + k = n2 → k < fuel → f5_digestFrom_46 fuel g (a0 + 1) (dF (fl (s 2)) d' (5 * i)) (nI i) = some (dF (fl (s 2)) d' (5 * n2), g) := by
    intro k
    induction k with
    | zero =>
      intro i fuel d' h hf
      obtain ⟨fu, rfl⟩ : ∃ fu, fuel = fu + 1 := ⟨fuel - 1, by omega⟩
      have : i = n2 := by omega
      subst this
      show f5_digestFrom_46b (f5_digestFrom_46 fu) g _ _ (nI i) = _
      unfold f5_digestFrom_46b
      rw [if_pos h1, s9, if_pos (Int32.le_refl _)]
    | succ k ih =>
      intro i fuel d' h hf
      obtain ⟨fu, rfl⟩ : ∃ fu, fuel = fu + 1 := ⟨fuel - 1, by omega⟩
      have ci : Int32.toNatClampNeg (nI i) = i := cl_nI (by omega)
      obtain ⟨b1, b2⟩ := h8 i (by omega)
      obtain ⟨c1, c2, c3⟩ := r4 i (by omega)
      obtain ⟨c4, c5⟩ := c3 (by rw [I.2.2.1]; exact nI_m1 (by omega))
      show f5_digestFrom_46b (f5_digestFrom_46 fu) g _ _ (nI i) = _
      unfold f5_digestFrom_46b
      rw [if_pos h1, s9, if_neg (nI_ge (by omega) (by omega)), h3, ob_some, h6, if_pos rfl, if_pos (ixOk (by omega) (by omega)), ci, b1, ob_some, if_pos b2, ob_some, h6, if_pos rfl, if_pos (ixOj (by omega) (by omega)), b1, ob_some, if_pos b2, ob_some, h6, if_pos rfl, if_pos (ixOj (by omega) (by omega)), b1, ob_some, if_pos b2, ob_some, h6, if_pos rfl, if_pos (ixOj (by omega) (by omega)), b1, ob_some, if_pos b2, ob_some, h6, if_pos rfl, if_pos (ixOj (by omega) (by omega)), b1, ob_some, if_pos b2, c1 0 (by omega), c1 1 (by omega), c1 2 (by omega), c4, c5, nI_1]
      have hr := ih (i + 1) fu d' (by omega) (by omega)
      rw [dF_5] at hr
      exact hr
  have l1 : ∀ k i fuel : Nat, i + k = n1 → k < fuel → f5_digestFrom_5 fuel g (a0 + 1) (dF (fun h => s 1 h 0) d i) (nI i) = some (dF (fl (s 2)) (dF (fun h => s 1 h 0) d n1) (5 * n2), g) := by
    intro k
    induction k with
    | zero =>
      intro i fuel h hf
      obtain ⟨fu, rfl⟩ : ∃ fu, fuel = fu + 1 := ⟨fuel - 1, by omega⟩
      have : i = n1 := by omega
      subst this
      show f5_digestFrom_5b (f5_digestFrom_5 fu) g _ _ (nI i) = _
      unfold f5_digestFrom_5b
      rw [if_pos h1, s8, if_pos (Int32.le_refl _)]
      exact l2 n2 0 300 _ (by omega) (by omega)
    | succ k ih =>
      intro i fuel h hf
      obtain ⟨fu, rfl⟩ : ∃ fu, fuel = fu + 1 := ⟨fuel - 1, by omega⟩
      have ci : Int32.toNatClampNeg (nI i) = i := cl_nI (by omega)
      have hr := ih (i + 1) fu (by omega) (by omega)
      show f5_digestFrom_5b (f5_digestFrom_5 fu) g _ _ (nI i) = _
      unfold f5_digestFrom_5b f5_digestFrom_34
      rw [if_pos h1, s8, if_neg (nI_ge (by omega) (by omega)), h2, ob_some, h5, if_pos rfl, if_pos (ixOk (by omega) (by omega)), ci, r3 i (by omega), nI_1]
      have hd : dF (fun h => s 1 h 0) d (i + 1) = dF (fun h => s 1 h 0) d i * 31 + Int32.toInt64 (s 1 i 0) := rfl
      rcases hv i (by omega) with e | e
      · rw [hd, e] at hr
        rw [e, if_pos rfl]; exact hr
      · rw [hd, e] at hr
        rw [e, if_neg n10]; exact hr
  exact l1 n1 0 300 (by omega) (by omega)
theorem p_digest {a0 n1 n2 n3 n4 q : Nat} {g : g_H} {s : Sg} (I : ClI a0 g s n1 n2 n3 n4 q) : f6_digest g a0 = some (dgV s n1 n2 n3 n4, g) := by
  obtain ⟨s1, s2, s3, s4, s5, s6, s7, s8, s9, s10, s11, s12, s13, s14, s15⟩ := I.sh
  have b6 : gR g (a0 + 43) 1 = some (a0 + 43 + 1) := I.1.2.1.2.2.1.2.2.1
  have b8 : gS g (a0 + 43 + 1) = (15, 6) := I.1.2.1.2.2.1.2.2.2.2.1
  have b7 : gR g (a0 + 43) 2 = some (a0 + 43 + 32) := I.1.2.1.2.2.1.2.2.2.1
  have b9 : gS g (a0 + 43 + 32) = (17, 20) := I.1.2.1.2.2.1.2.2.2.2.2.1
  have l3 : ∀ k i fuel : Nat, ∀ d' : Int64, i + k = n4 → k < fuel → f6_digest_75 fuel g a0 (dF (fl (s 5)) d' (5 * i)) (nI i) = some (dF (fl (s 5)) d' (5 * n4), g) := by
    intro k
    induction k with
    | zero =>
      intro i fuel d' h hf
      obtain ⟨fu, rfl⟩ : ∃ fu, fuel = fu + 1 := ⟨fuel - 1, by omega⟩
      have : i = n4 := by omega
      subst this
      show f6_digest_75b (f6_digest_75 fu) g _ _ (nI i) = _
      unfold f6_digest_75b
      rw [if_pos s1, s3, ob_some, if_pos s7, s11, if_pos (Int32.le_refl _)]
    | succ k ih =>
      intro i fuel d' h hf
      obtain ⟨fu, rfl⟩ : ∃ fu, fuel = fu + 1 := ⟨fuel - 1, by omega⟩
      have ci : Int32.toNatClampNeg (nI i) = i := cl_nI (by omega)
      obtain ⟨b10, b11⟩ := I.1.2.1.2.2.1.2.2.2.2.2.2.2 i (by omega)
      have hr := ih (i + 1) fu d' (by omega) (by omega)
      rw [dF_5] at hr
      show f6_digest_75b (f6_digest_75 fu) g _ _ (nI i) = _
      unfold f6_digest_75b
      rw [if_pos s1, s3, ob_some, if_pos s7, s11, if_neg (nI_ge (by omega) (by omega)), ob_some, if_pos s7, b7, ob_some, b9, if_pos rfl, if_pos (ixOk (by omega) (by omega)), ci, b10, ob_some, if_pos b11, p_dgLet b11 (I.1.2.2.2.2.2.2 i (by omega)), gB2_some, nI_1]
      exact hr
  have l2 : ∀ k b fuel : Nat, ∀ d' : Int64, b + k = n3 → k < fuel → f6_digest_42 fuel g a0 (dB s d' b) (nI b) = some (dF (fl (s 5)) (dB s d' n3) (5 * n4), g) := by
    intro k
    induction k with
    | zero =>
      intro b fuel d' h hf
      obtain ⟨fu, rfl⟩ : ∃ fu, fuel = fu + 1 := ⟨fuel - 1, by omega⟩
      have : b = n3 := by omega
      subst this
      show f6_digest_42b (f6_digest_42 fu) g _ _ (nI b) = _
      unfold f6_digest_42b
      rw [if_pos s1, s3, ob_some, if_pos s7, s10, if_pos (Int32.le_refl _)]
      exact l3 n4 0 300 _ (by omega) (by omega)
    | succ k ih =>
      intro b fuel d' h hf
      obtain ⟨fu, rfl⟩ : ∃ fu, fuel = fu + 1 := ⟨fuel - 1, by omega⟩
      have cb : Int32.toNatClampNeg (nI b) = b := cl_nI (by omega)
      obtain ⟨b10, b11⟩ := I.1.2.1.2.2.1.2.2.2.2.2.2.1 b (by omega)
      have hr := ih (b + 1) fu d' (by omega) (by omega)
      show f6_digest_42b (f6_digest_42 fu) g _ _ (nI b) = _
      unfold f6_digest_42b
      rw [if_pos s1, s3, ob_some, if_pos s7, s10, if_neg (nI_ge (by omega) (by omega)), ob_some, if_pos s7, b6, ob_some, b8, if_pos rfl, if_pos (ixOk (by omega) (by omega)), cb, b10, ob_some, if_pos b11, p_dgBee I (show b < n3 by omega), gB2_some, nI_1]
      exact hr
  have l1 : ∀ k j fuel : Nat, j + k = 9 → k < fuel → f6_digest_6 fuel g a0 (dF (cnS s n2 n3 n4) 811 j) (nI j) = some (dgV s n1 n2 n3 n4, g) := by
    intro k
    induction k with
    | zero =>
      intro j fuel h hf
      obtain ⟨fu, rfl⟩ : ∃ fu, fuel = fu + 1 := ⟨fuel - 1, by omega⟩
      have : j = 9 := by omega
      subst this
      show f6_digest_6b (f6_digest_6 fu) g _ _ (nI 9) = _
      unfold f6_digest_6b
      rw [if_pos (by decide), if_pos s1, s2, ob_some, if_pos s6, p_dgTown I, gB2_some]
      exact l2 n3 0 300 _ (by omega) (by omega)
    | succ k ih =>
      intro j fuel h hf
      obtain ⟨fu, rfl⟩ : ∃ fu, fuel = fu + 1 := ⟨fuel - 1, by omega⟩
      show f6_digest_6b (f6_digest_6 fu) g _ _ (nI j) = _
      unfold f6_digest_6b
      rw [if_neg (show ¬ (9 : Int32) ≤ nI j from nI_ge (b := 9) (by omega) (by omega)), if_pos s1, p_tellCount I (by omega), gB2_some, nI_1]
      exact ih (j + 1) fu (by omega) (by omega)
  exact l1 9 0 300 (by omega) (by omega)
