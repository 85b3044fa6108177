/-! PURE: mean -/
def smS (s : Sg) (n : Nat) : Int32 := sF (fun i => if s 5 i 3 = -1 then 0 else s 5 i 3) n
def smL (s : Sg) : Nat → Int64
  | 0 => 0
  | i + 1 => if s 5 i 3 = -1 then smL s i else smL s i + Int32.toInt64 (s 5 i 3)
set_option maxRecDepth 8000 in
theorem sm_eq {s : Sg} {n : Nat} (h20 : n ≤ 20) (h : ∀ i, i < n → s 5 i 3 = -1 ∨ ∃ t, t < 2 ^ 26 ∧ s 5 i 3 = nI t) : ∀ m, m ≤ n → ∃ S, S ≤ m * 2 ^ 26 ∧ smS s m = nI S ∧ (smL s m).toInt = S := by
  intro m hm
  induction m with
  | zero => exact ⟨0, Nat.zero_le _, rfl, rfl⟩
  | succ m ih =>
    obtain ⟨S, h1, h2, h3⟩ := ih (by omega)
    have hs : smS s (m + 1) = smS s m + (if s 5 m 3 = -1 then 0 else s 5 m 3) := rfl
    by_cases e : s 5 m 3 = -1
    · refine ⟨S, Nat.le_trans h1 (Nat.mul_le_mul_right _ (Nat.le_succ m)), ?_, ?_⟩
      · rw [hs, if_pos e, h2, Int32.add_zero]
      · show (if s 5 m 3 = -1 then smL s m else _).toInt = _
        rw [if_pos e]; exact h3
    · obtain ⟨t, ht, ht2⟩ := (h m (by omega)).resolve_left e
      have h4 : S + t ≤ (m + 1) * 2 ^ 26 := by rw [Nat.succ_mul]; exact Nat.add_le_add h1 (Nat.le_of_lt ht)
      have h5 : S + t < 2 ^ 31 := Nat.lt_of_le_of_lt (Nat.le_trans h4 (Nat.mul_le_mul_right _ (show m + 1 ≤ 20 by omega))) (by decide)
      refine ⟨S + t, h4, ?_, ?_⟩
      · rw [hs, if_neg e, h2, ht2, nI_add]
      · show (if s 5 m 3 = -1 then smL s m else _).toInt = _
        rw [if_neg e, Int64.toInt_add, h3, Int32.toInt_toInt64, ht2, nI_toInt (by omega)]
        rw [Int.bmod_eq_of_le (by omega) (by omega)]
        omega
