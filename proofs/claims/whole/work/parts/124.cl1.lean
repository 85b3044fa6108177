/-! PURE: counting letters; the class's steps at a house -/
theorem carF_off {s : Sg} {b n : Nat} (h : ∀ i, i < n → s 5 i 2 ≠ nI b) : carF s b n = 0 := by
  induction n with
  | zero => rfl
  | succ n ih =>
    show carF s b n + _ = 0
    rw [ih (fun i hi => h i (by omega)), if_neg (h n (by omega))]
    rfl
theorem carF_nat (s : Sg) (b n : Nat) : ∃ c, c ≤ n ∧ carF s b n = nI c ∧ (∀ i, i < n → s 5 i 2 = nI b → 0 < c) := by
  induction n with
  | zero => exact ⟨0, Nat.le_refl _, rfl, fun i hi => absurd hi (by omega)⟩
  | succ n ih =>
    obtain ⟨c, h1, h2, h3⟩ := ih
    by_cases h : s 5 n 2 = nI b
    · refine ⟨c + 1, by omega, ?_, fun _ _ _ => by omega⟩
      show carF s b n + _ = _
      rw [if_pos h, h2]
      exact nI_1 c
    · refine ⟨c, by omega, ?_, fun i hi e => ?_⟩
      · show carF s b n + _ = _
        rw [if_neg h, h2]
        exact Int32.add_zero _
      · rcases Nat.lt_succ_iff_lt_or_eq.mp hi with q | q
        · exact h3 i q e
        · rw [q] at e; exact absurd e h
theorem carF_iff {s t : Sg} {b n : Nat} (h : ∀ i, i < n → (t 5 i 2 = nI b ↔ s 5 i 2 = nI b)) : carF t b n = carF s b n := by
  induction n with
  | zero => rfl
  | succ n ih =>
    show carF t b n + _ = carF s b n + _
    rw [ih (fun i hi => h i (by omega))]
    by_cases e : s 5 n 2 = nI b
    · rw [if_pos e, if_pos ((h n (by omega)).mpr e)]
    · rw [if_neg e, if_neg (fun q => e ((h n (by omega)).mp q))]
theorem carF_keep {s t : Sg} {b n : Nat} (h : ∀ i, i < n → t 5 i 2 = s 5 i 2) : carF t b n = carF s b n := carF_iff fun i hi => by rw [h i hi]
/-- one letter less -/
theorem carF_less {s t : Sg} {b n i : Nat} (hi : i < n) (h : s 5 i 2 = nI b) (h' : t 5 i 2 ≠ nI b) (ho : ∀ j, j < n → j ≠ i → t 5 j 2 = s 5 j 2) : carF t b n = carF s b n - 1 := by
  induction n with
  | zero => omega
  | succ n ih =>
    show carF t b n + _ = carF s b n + _ - 1
    by_cases e : i = n
    · subst e
      rw [carF_keep (fun j hj => ho j (by omega) (by omega)), if_pos h, if_neg h', Int32.add_sub_cancel, Int32.add_zero]
    · rw [ih (by omega) (fun j hj => ho j (by omega)), ho n (by omega) (fun q => e q.symm)]
      rw [Int32.sub_eq_add_neg, Int32.sub_eq_add_neg, Int32.add_assoc, Int32.add_assoc, Int32.add_comm (-1 : Int32)]
theorem carF_more {s t : Sg} {b n i : Nat} (hi : i < n) (h : s 5 i 2 ≠ nI b) (h' : t 5 i 2 = nI b) (ho : ∀ j, j < n → j ≠ i → t 5 j 2 = s 5 j 2) : carF t b n = carF s b n + 1 := by
  induction n with
  | zero => omega
  | succ n ih =>
    show carF t b n + _ = carF s b n + _ + 1
    by_cases e : i = n
    · subst e
      rw [carF_keep (fun j hj => ho j (by omega) (by omega)), if_neg h, if_pos h', Int32.add_zero]
    · rw [ih (by omega) (fun j hj => ho j (by omega)), ho n (by omega) (fun q => e q.symm)]
      rw [Int32.add_assoc, Int32.add_assoc, Int32.add_comm (1 : Int32)]
theorem arrF_keep {s t : Sg} {n : Nat} (h : ∀ i, i < n → t 5 i 3 = s 5 i 3) : arrF t n = arrF s n := by
  induction n with
  | zero => rfl
  | succ n ih =>
    show arrF t n + _ = arrF s n + _
    rw [ih (fun i hi => h i (by omega)), h n (by omega)]
theorem arrF_more {s t : Sg} {n i : Nat} (hi : i < n) (h : s 5 i 3 = -1) (h' : t 5 i 3 ≠ -1) (ho : ∀ j, j < n → j ≠ i → t 5 j 3 = s 5 j 3) : arrF t n = arrF s n + 1 := by
  induction n with
  | zero => omega
  | succ n ih =>
    show arrF t n + _ = arrF s n + _ + 1
    by_cases e : i = n
    · subst e
      rw [arrF_keep (fun j hj => ho j (by omega) (by omega)), if_pos h, if_neg h', Int32.add_zero]
    · rw [ih (by omega) (fun j hj => ho j (by omega)), ho n (by omega) (fun q => e q.symm)]
      rw [Int32.add_assoc, Int32.add_assoc, Int32.add_comm (1 : Int32)]
theorem nI_m1 {n : Nat} (h : n < 2 ^ 31) : nI n ≠ -1 := by
  intro e
  have h1 := nI_toInt h
  rw [e] at h1
  have h2 : (-1 : Int32).toInt = -1 := rfl
  omega
theorem nI_inj {a b : Nat} (ha : a < 2 ^ 31) (hb : b < 2 ^ 31) (h : nI a = nI b) : a = b := (nI_eq ha hb).mp h
theorem p_targetFor {g : g_H} {r : Nat} (h : RtL r g) (x : Int32) : f4_targetFor g r x = some (if inR 14 x then gI g (r + 3) (cl x) else -1, g) := by
  obtain ⟨h1, -, -, h4, -, -, h7⟩ := h
  unfold f4_targetFor
  by_cases c1 : x < 0
  · simp [c1]
  · by_cases c2 : (14 : Int32) ≤ x
    · simp [c1, c2]
    · obtain ⟨j, hj, rfl⟩ := inR_nat (n := 14) (by omega) ⟨c1, c2⟩
      simp [c1, c2, h1, h4, h7, cl_nI (show j < 2 ^ 31 by omega), show j < 14 by omega]
theorem p_houseAt {g : g_H} {r n : Nat} (h : RtL r g) (hn : gI g r 0 = nI n) (hn7 : n ≤ 7) (x : Int32) : f4_houseAt g r x = some (if inR (nI n) x then gI g (r + 1) (cl x) else -1, g) := by
  obtain ⟨h1, h2, -, -, h5, -, -⟩ := h
  unfold f4_houseAt
  by_cases c1 : x < 0
  · simp [c1]
  · by_cases c2 : nI n ≤ x
    · simp [c1, c2, h1, hn]
    · obtain ⟨j, hj, rfl⟩ := inR_nat (n := n) (by omega) ⟨c1, c2⟩
      simp [c1, c2, h1, h2, h5, hn, cl_nI (show j < 2 ^ 31 by omega), show j < 7 by omega]
theorem p_laneAt {g : g_H} {r n : Nat} (h : RtL r g) (hn : gI g r 0 = nI n) (hn7 : n ≤ 7) (x : Int32) : f4_laneAt g r x = some (if inR (nI n) x then gI g (r + 2) (cl x) else -1, g) := by
  obtain ⟨h1, -, h3, -, -, h6, -⟩ := h
  unfold f4_laneAt
  by_cases c1 : x < 0
  · simp [c1]
  · by_cases c2 : nI n ≤ x
    · simp [c1, c2, h1, hn]
    · obtain ⟨j, hj, rfl⟩ := inR_nat (n := n) (by omega) ⟨c1, c2⟩
      simp [c1, c2, h1, h3, h6, hn, cl_nI (show j < 2 ^ 31 by omega), show j < 7 by omega]
theorem p_house {g : g_H} {B r n : Nat} (hB : (gS g B).1 = 1) (hr : gR g B 1 = some r) (h : RtL r g) (hn : gI g r 0 = nI n) (hn7 : n ≤ 7) : f0_house g B = some (if inR (nI n) (gI g B 2) then gI g (r + 1) (cl (gI g B 2)) else -1, g) := by
  unfold f0_house
  simp [hB, hr, h.1, p_houseAt h hn hn7, gB2]
theorem p_addHonour {g : g_H} {B : Nat} (hB : (gS g B).1 = 1) (x : Int32) : f0_addHonour g B x = some (gPI g B 5 (clip (gI g B 5 + x))) := by
  unfold f0_addHonour gLt clip
  simp [hB]
theorem p_addStrength {g : g_H} {B : Nat} (hB : (gS g B).1 = 1) (x : Int32) : f0_addStrength g B x = some (gPI g B 4 (strong (gI g B 4 + x))) := by
  unfold f0_addStrength gLt strong
  simp [hB]
theorem p_take {g : g_H} {B L : Nat} (hB : (gS g B).1 = 1) (hL : (gS g L).1 = 4) (hn : B ≠ L) : f0_take g B L = some (gPI (gPI (gPI (gPI g L 1 (-1)) L 2 (gI g B 0)) L 4 (gI g L 4 + 1)) B 6 (gI g B 6 + 1)) := by
  unfold f0_take gLt
  simp [hB, hL, gI_PI, hn]
theorem p_deliver {g : g_H} {B L : Nat} (hB : (gS g B).1 = 1) (hL : (gS g L).1 = 4) (hn : B ≠ L) (x : Int32) : f0_deliver g B L x = some (gPI (gPI (gPI (gPI (gPI g L 2 (-1)) L 3 x) B 6 (gI g B 6 - 1)) B 8 (gI g B 8 + 1)) B 5 (clip (gI g B 5 + 1))) := by
  unfold f0_deliver gLt
  rw [if_pos hL, if_pos hB]
  show (f0_addHonour _ B 1).bind _ = _
  rw [p_addHonour (by exact hB)]
  simp [gI_PI, hn]
theorem p_layDown {g : g_H} {B L r n : Nat} (hB : (gS g B).1 = 1) (hL : (gS g L).1 = 4) (hn : B ≠ L) (hr : gR g B 1 = some r) (h : RtL r g) (hz : gI g r 0 = nI n) (hn7 : n ≤ 7) (hrL : r ≠ L) (hrL1 : r + 1 ≠ L) (hin : inR (nI n) (gI g B 2)) : f0_layDown g B L = some (gPI (gPI (gPI g L 2 (-1)) L 1 (gI g (r + 1) (cl (gI g B 2)))) B 6 (gI g B 6 - 1)) := by
  unfold f0_layDown gLt
  have h' : RtL r (gPI g L 2 (-1)) := h
  rw [if_pos hL, if_pos hB, p_house (g := gPI g L 2 (-1)) (n := n) hB hr h' (by rw [gI_PI, if_neg hrL]; exact hz) hn7]
  have e2 : gI (gPI g L 2 (-1)) B 2 = gI g B 2 := by rw [gI_PI, if_neg hn]
  rw [e2, if_pos hin]
  simp [gB2, gS_PI, hB, hL, gI_PI, hn, hrL1]
