section
/-! THE LAW: its loop; what holds at its start -/
theorem and31 (x : Int32) : ∃ k, k < 32 ∧ x &&& 31 = nI k := by
  refine ⟨(x &&& 31).toBitVec.toNat, ?_, ?_⟩
  · rw [Int32.toBitVec_and, BitVec.toNat_and]
    have h : x.toBitVec.toNat &&& (31 : Int32).toBitVec.toNat ≤ (31 : Int32).toBitVec.toNat := Nat.and_le_right
    have e : (31 : Int32).toBitVec.toNat = 31 := rfl
    omega
  · apply Int32.toBitVec_inj.mp
    show _ = BitVec.ofNat 32 _
    rw [BitVec.ofNat_toNat, BitVec.setWidth_eq]
theorem law_in {L i : Nat} (hL : L ≤ 2048) (hi : i ≤ 513) (h : ¬ Int32.ofNat L - 4 < nI (4 * i)) : 4 * i + 3 < L := by
  by_cases c : 4 ≤ L
  · have e : Int32.ofNat L - 4 = nI (L - 4) := nI_sub (a := L) (b := 4) c
    rw [e] at h
    have hn : ¬ L - 4 < 4 * i := fun q => h ((nI_ltI (a := L - 4) (b := 4 * i) (by omega) (by omega)).mpr q)
    omega
  · exfalso
    apply h
    have p : (Int32.ofNat L - 4).toInt < 0 := by
      match L, c with
      | 0, _ => decide
      | 1, _ => decide
      | 2, _ => decide
      | 3, _ => decide
      | n + 4, c => exact absurd (by omega) c
    rw [Int32.lt_iff_toInt_lt, nI_toInt (by omega)]
    omega
set_option maxHeartbeats 4000000 in
set_option maxRecDepth 100000 in
theorem law_step {p : Program} {l : Launch} {e : Env} {s : State} {m : MethodId} {below : List Frame} {meth : Method} {c : Code} {H : Heap} {locs : List Loc} {cells slots : Nat} {Q : State → Prop} {ls : Array Slot} {D : va_G} {base b L : Nat} {xs : Nat → Int32} {g : g_H} {i : Nat} (E : LE p l s m c b L xs D base) (hG : gdD) (hEE : gdE) (hi5 : i ≤ 513) (hI : LI base g (240 * i)) (hP : gP base D s g H) (hS : va_S (gA base) s.heap H locs) (hl : lv_has ls 9 [(0, .ref b), (1, .ref base), (2, .ref (base + 153)), (3, .ref (base + 162)), (4, .int (nI (4 * i)))]) (hc : cells + 90 ≤ 601024) (hs : slots + 800 ≤ 7293034)
    (hend : ∀ (H : Heap) (locs : List Loc) (ls : Array Slot), va_S (gA base) s.heap H locs → W p l e room_1 s m #[Value.ref b] below meth c H locs cells slots Q (F0 m 1303 ls []))
    (kk : 4 * i + 3 < L → ∀ (g : g_H) (H : Heap) (locs : List Loc) (ls : Array Slot), LI base g (240 * (i + 1)) → gP base D s g H → va_S (gA base) s.heap H locs → lv_has ls 9 [(0, .ref b), (1, .ref base), (2, .ref (base + 153)), (3, .ref (base + 162)), (4, .int (nI (4 * (i + 1))))] → W p l e room_1 s m #[Value.ref b] below meth c H locs (cells + 90) (slots + 800) Q (F0 m 23 ls [])) : W p l e room_1 s m #[Value.ref b] below meth c H locs cells slots Q (F0 m 23 ls []) := by
  have E0 := E
  obtain ⟨hx, hb, hml, hown, hts, hE, hX, hbl, hbb, hst, hL⟩ := E0
  have hbA : ¬ gA base b := fun q => by have q : base ≤ b := q; omega
  refine lv_iload hx hb dL_law_23 (lv_at hl 4 rfl) ?_
  refine lv_aload_n hx hb dL_law_25 rfl (lv_at hl 0 rfl) ?_
  refine va_slen hx hb hX hbl hbA hS dL_law_26 ?_
  refine lv_iconst (v := 4) hx hb dL_law_27 (by decide) ?_
  refine lv_isub hx hb dL_law_28 ?_
  refine lv_icmp_gt (tgt := 1303) hx hb dL_law_29 (by decide) (fun _ => hend H locs ls hS) (fun h => ?_)
  have hi : 4 * i + 3 < L := law_in hL hi5 h
  have hQ : 240 * i + 241 < 2 ^ 26 := Nat.lt_of_le_of_lt (show 240 * i + 241 ≤ 240 * 513 + 241 by omega) (by decide)
  have c1 : Int32.toNatClampNeg (nI (4 * i)) = 4 * i := cl_nI (by omega)
  refine lv_aload_n hx hb dL_law_32 rfl (lv_at hl 0 rfl) ?_
  refine lv_iload hx hb dL_law_33 (lv_at hl 4 rfl) ?_
  refine va_sld hx hb hX hbl hbA hS (show vp_in (nI (4 * i)) L from ixOk (by omega) (by omega)) dL_law_35 ?_
  refine lv_bipush (v := 31) hx hb dL_law_36 (by decide) ?_
  refine lv_iand hx hb dL_law_38 ?_
  obtain ⟨k, hk, ek⟩ := and31 (xs (Int32.toNatClampNeg (nI (4 * i))))
  rw [ek]
  have K : ∀ (g : g_H) (H : Heap) (locs : List Loc) (ls : Array Slot), LI base g (240 * i + 240) → gP base D s g H → va_S (gA base) s.heap H locs → lv_has ls 9 [(0, .ref b), (1, .ref base), (2, .ref (base + 153)), (3, .ref (base + 162)), (4, .int (nI (4 * i)))] → W p l e room_1 s m #[Value.ref b] below meth c H locs (cells + 90) (slots + 800) Q (F0 m 1297 ls []) := by
    intro g H locs ls hI hP hS hl
    refine lv_iinc (v := nI (4 * (i + 1))) (lv' := [(4, .int (nI (4 * (i + 1)))), (0, .ref b), (1, .ref base), (2, .ref (base + 153)), (3, .ref (base + 162))]) hx hb dL_law_1297 hl (k := 4) rfl (by rw [show Int32.ofInt 4 = nI 4 from rfl, nI_add, show 4 * i + 4 = 4 * (i + 1) by omega]) (by decide) rfl (fun ls hl => ?_)
    refine lv_goto (tgt := 23) hx hb dL_law_1300 (by decide) ?_
    exact kk hi g H locs ls hI hP hS (lv_sub hl [1, 2, 3, 4, 0] rfl)
  by_cases h18 : k ≤ 18
  · have hk19 : k = 0 ∨ k = 1 ∨ k = 2 ∨ k = 3 ∨ k = 4 ∨ k = 5 ∨ k = 6 ∨ k = 7 ∨ k = 8 ∨ k = 9 ∨ k = 10 ∨ k = 11 ∨ k = 12 ∨ k = 13 ∨ k = 14 ∨ k = 15 ∨ k = 16 ∨ k = 17 ∨ k = 18 := by omega
    rcases hk19 with rfl | rfl | rfl | rfl | rfl | rfl | rfl | rfl | rfl | rfl | rfl | rfl | rfl | rfl | rfl | rfl | rfl | rfl | rfl
    · exact lv_tableIn (off := 89) (tgt := 128) hx hb dL_law_39 (by decide) (by decide) (by decide) (by decide) (lc_addHouse E hi hQ hI hP hS hl hc hs K)
    · exact lv_tableIn (off := 133) (tgt := 172) hx hb dL_law_39 (by decide) (by decide) (by decide) (by decide) (lc_setHive E hi hQ hI hP hS hl hc hs K)
    · exact lv_tableIn (off := 224) (tgt := 263) hx hb dL_law_39 (by decide) (by decide) (by decide) (by decide) (lc_addLane E hi hQ hI hP hS hl hc hs K)
    · exact lv_tableIn (off := 304) (tgt := 343) hx hb dL_law_39 (by decide) (by decide) (by decide) (by decide) (lc_setGate E hi hQ hI hP hS hl hc hs K)
    · exact lv_tableIn (off := 384) (tgt := 423) hx hb dL_law_39 (by decide) (by decide) (by decide) (by decide) (lc_way E hi hQ hI hP hS hl hc hs K)
    · exact lv_tableIn (off := 452) (tgt := 491) hx hb dL_law_39 (by decide) (by decide) (by decide) (by decide) (lc_addBee E hi hQ hI hP hS hl hc hs K)
    · exact lv_tableIn (off := 508) (tgt := 547) hx hb dL_law_39 (by decide) (by decide) (by decide) (by decide) (lc_swear E hi hQ hI hP hS hl hc hs K)
    · exact lv_tableIn (off := 576) (tgt := 615) hx hb dL_law_39 (by decide) (by decide) (by decide) (by decide) (lc_write E hi hQ hI hP hS hl hc hs K)
    · exact lv_tableIn (off := 644) (tgt := 683) hx hb dL_law_39 (by decide) (by decide) (by decide) (by decide) (lc_bribe E hi hQ hI hP hS hl hc hs K)
    · exact lv_tableIn (off := 719) (tgt := 758) hx hb dL_law_39 (by decide) (by decide) (by decide) (by decide) (lc_bee E hi hQ hI hP hS hl hc hs K)
    · exact lv_tableIn (off := 787) (tgt := 826) hx hb dL_law_39 (by decide) (by decide) (by decide) (by decide) (lc_letter E hi hQ hI hP hS hl hc hs K)
    · exact lv_tableIn (off := 855) (tgt := 894) hx hb dL_law_39 (by decide) (by decide) (by decide) (by decide) (lc_target E hi hQ hI hP hS hl hc hs K)
    · exact lv_tableIn (off := 923) (tgt := 962) hx hb dL_law_39 (by decide) (by decide) (by decide) (by decide) (lc_pass E hi hQ hI hP hS hl hc hs K)
    · exact lv_tableIn (off := 979) (tgt := 1018) hx hb dL_law_39 (by decide) (by decide) (by decide) (by decide) (lc_count E hi hQ hI hP hS hl hc hs K)
    · exact lv_tableIn (off := 1035) (tgt := 1074) hx hb dL_law_39 (by decide) (by decide) (by decide) (by decide) (lc_comes E hi hQ hI hP hS hl hc hs K)
    · exact lv_tableIn (off := 1091) (tgt := 1130) hx hb dL_law_39 (by decide) (by decide) (by decide) (by decide) (lc_advise E hi hQ hI hP hS hl hc hs K)
    · exact lv_tableIn (off := 1147) (tgt := 1186) hx hb dL_law_39 (by decide) (by decide) (by decide) (by decide) (lc_trusted E hi hQ hI hP hS hl hc hs K)
    · exact lv_tableIn (off := 1203) (tgt := 1242) hx hb dL_law_39 (by decide) (by decide) (by decide) (by decide) (lc_mean (hG := hG) (hEE := hEE) E hi hQ hI hP hS hl hc hs K)
    · exact lv_tableIn (off := 1244) (tgt := 1283) hx hb dL_law_39 (by decide) (by decide) (by decide) (by decide) (lc_digest E hi hQ hI hP hS hl hc hs K)
  · exact lv_tableOut (tgt := 1297) hx hb dL_law_39 (Or.inr (by rw [nI_toInt (by omega)]; omega)) (by decide) (W.widen (by omega) (by omega) (K g H locs ls (hI.up (by omega)) hP hS hl))
theorem law_loop {p : Program} {l : Launch} {e : Env} {s : State} {m : MethodId} {below : List Frame} {meth : Method} {c : Code} {Q : State → Prop} {D : va_G} {base b L : Nat} {xs : Nat → Int32} {c0 s0 : Nat} (E : LE p l s m c b L xs D base) (hG : gdD) (hEE : gdE) (hc : c0 ≤ 1000) (hs : s0 ≤ 10000)
    (hend : ∀ (H : Heap) (locs : List Loc) (ls : Array Slot) (cells slots : Nat), cells ≤ 601024 → slots ≤ 7293034 → va_S (gA base) s.heap H locs → W p l e room_1 s m #[Value.ref b] below meth c H locs cells slots Q (F0 m 1303 ls [])) :
    ∀ (n i : Nat) (g : g_H) (H : Heap) (locs : List Loc) (ls : Array Slot), i + n = 513 → LI base g (240 * i) → gP base D s g H → va_S (gA base) s.heap H locs → lv_has ls 9 [(0, .ref b), (1, .ref base), (2, .ref (base + 153)), (3, .ref (base + 162)), (4, .int (nI (4 * i)))] → W p l e room_1 s m #[Value.ref b] below meth c H locs (c0 + 90 * i) (s0 + 800 * i) Q (F0 m 23 ls []) := by
  have hL := E.2.2.2.2.2.2.2.2.2.2
  intro n
  induction n with
  | zero =>
    intro i g H locs ls hi hI hP hS hl
    exact law_step E hG hEE (by omega) hI hP hS hl (by omega) (by omega) (fun H locs ls hS => hend H locs ls _ _ (by omega) (by omega) hS) (fun h => by omega)
  | succ n ih =>
    intro i g H locs ls hi hI hP hS hl
    refine law_step E hG hEE (by omega) hI hP hS hl (by omega) (by omega) (fun H locs ls hS => hend H locs ls _ _ (by omega) (by omega) hS) (fun _ g H locs ls hI hP hS hl => ?_)
    have e1 : c0 + 90 * i + 90 = c0 + 90 * (i + 1) := by omega
    have e2 : s0 + 800 * i + 800 = s0 + 800 * (i + 1) := by omega
    rw [e1, e2]
    exact ih (i + 1) g H locs ls (by omega) hI hP hS hl
end
section
/-! THE LAW: the surroundings at its start -/
theorem vk_Rof {args : Array Value} {s : State} {k : Nat} {tx : String} (hini : (Cond.instantiable RX6 4).before args s = true) (h : (Cond.stringRef RX6 k tx).before args s = true) : ∃ sa, vk_R "CourierBees" k tx sa s := by
  obtain ⟨cC, kC, hfc, -⟩ := Cond.instantiable_spec hini
  obtain ⟨k', cf, i, a, -, -, -, -, -, he⟩ := Cond.stringRef_spec hfc h
  exact ⟨a, vk_R.of h he⟩
set_option maxRecDepth 20000 in
theorem st_texts : ∀ q ∈ gTexts, Cond.stringRef RX6 q.1 q.2 ∈ lw_tbl := by decide +kernel
set_option maxRecDepth 20000 in
theorem st_casts : ∀ q ∈ gCasts, Cond.castable q.1 q.2 ∈ lw_tbl := by decide +kernel
set_option maxRecDepth 20000 in
theorem st_decls : ∀ q ∈ gDecls, Cond.declares q ∈ lw_tbl := by decide +kernel
set_option maxRecDepth 20000 in
theorem st_nests : ∀ q ∈ gNests, Cond.methodLinkNest q.1 q.2.1 q.2.2 "CourierBees" ∈ lw_tbl := by decide +kernel
set_option maxHeartbeats 4000000 in
set_option maxRecDepth 100000 in
theorem gE_start {b : Nat} {s : State} (hts : ∀ w ∈ lw_tbl, w.before #[Value.ref b] s = true) (hgv : (Jvm.Cond.and given_1 narrow_1).before #[Value.ref b] s = true) : ∃ D, gE s.heap.size D s s.heap := by
  have hs := flat_of_before _ hgv
  have hh : ∀ a : Nat, a < s.heap.size → ¬ gA s.heap.size a := fun a h q => by have q : s.heap.size ≤ a := q; omega
  obtain ⟨c0, i0, k0⟩ := u_known (T := TX0) (N := 10) hts inX0 (hts (.instantiable RX0 10) (by decide +kernel))
  obtain ⟨c1, i1, k1⟩ := u_known (T := TX1) (N := 8) hts inX1 (hts (.instantiable RX1 8) (by decide +kernel))
  obtain ⟨c2, i2, k2⟩ := u_known (T := TX2) (N := 5) hts inX2 (hts (.instantiable RX2 5) (by decide +kernel))
  obtain ⟨c3, i3, k3⟩ := u_known (T := TX3) (N := 5) hts inX3 (hts (.instantiable RX3 5) (by decide +kernel))
  obtain ⟨c4, i4, k4⟩ := u_known (T := TX4) (N := 4) hts inX4 (hts (.instantiable RX4 4) (by decide +kernel))
  obtain ⟨c5, i5, k5⟩ := u_known (T := TX5) (N := 5) hts inX5 (hts (.instantiable RX5 5) (by decide +kernel))
  obtain ⟨c6, i6, k6⟩ := u_known (T := TX6) (N := 4) hts inX6 (hts (.instantiable RX6 4) (by decide +kernel))
  obtain ⟨c7, i7, k7⟩ := u_known (T := TX7) (N := 13) hts inX7 (hts (.instantiable RX7 13) (by decide +kernel))
  have hini : (Cond.initialized Bundle.tN).before #[Value.ref b] s = true := hts (.initialized "java/lang/Throwable") (by decide +kernel)
  refine ⟨(fun c => [c0, c1, c2, c3, c4, c5, c6, c7].getD c c0, fun c => [i0, i1, i2, i3, i4, i5, i6, i7].getD c i0), ⟨?_, fun k q hq => by simp at hq⟩, vx_Zqof (hts (.laysStatic "java/lang/Throwable" "UNASSIGNED_STACK" "[Ljava/lang/StackTraceElement;") (by decide +kernel)) hini (hs (.isRef (.static "java/lang/Throwable" "UNASSIGNED_STACK" "[Ljava/lang/StackTraceElement;")) (by decide +kernel)) hh,
    vx_Zqof (hts (.laysStatic "java/lang/Throwable" "SUPPRESSED_SENTINEL" "Ljava/util/List;") (by decide +kernel)) hini (hs (.isRef (.static "java/lang/Throwable" "SUPPRESSED_SENTINEL" "Ljava/util/List;")) (by decide +kernel)) hh,
    fun q hq => vk_Rof (hts (.instantiable RX6 4) (by decide +kernel)) (hts _ (st_texts q hq)), va_AO.of (hts (.arrayOver (.object "CourierBees$Bee")) (by decide +kernel)), va_AO.of (hts (.arrayOver (.object "CourierBees$Lane")) (by decide +kernel)), va_AO.of (hts (.arrayOver (.object "CourierBees$Letter")) (by decide +kernel)), gAOA.of (hts (.arrayOver (.array .int)) (by decide +kernel)),
    fun q hq => va_Nw.of rfl (hts _ (st_casts q hq)), ?_, fun q hq => va_Nw.of rfl (hts _ (st_decls q hq)), fun q hq => va_Nw.of rfl (hts _ (st_nests q hq)), Nat.le_refl _⟩
  · intro c q hq
    match c with
    | 0 => cases hq; exact k0
    | 1 => cases hq; exact k1
    | 2 => cases hq; exact k2
    | 3 => cases hq; exact k3
    | 4 => cases hq; exact k4
    | 5 => cases hq; exact k5
    | 6 => cases hq; exact k6
    | 7 => cases hq; exact k7
    | n + 8 => simp at hq
  · exact List.forall_mem_cons.mpr ⟨va_Nc.of (hs (.not (.castable gEI gEA)) (by decide +kernel)), List.forall_mem_cons.mpr ⟨va_Nc.of (hs (.not (.castable gEI gES)) (by decide +kernel)), List.forall_mem_cons.mpr ⟨va_Nc.of (hs (.not (.castable gEA gEI)) (by decide +kernel)), List.forall_mem_cons.mpr ⟨va_Nc.of (hs (.not (.castable gEA gES)) (by decide +kernel)), List.forall_mem_cons.mpr ⟨va_Nc.of (hs (.not (.castable gES gEI)) (by decide +kernel)), List.forall_mem_cons.mpr ⟨va_Nc.of (hs (.not (.castable gES gEA)) (by decide +kernel)), fun _ h => nomatch h⟩⟩⟩⟩⟩⟩
end
