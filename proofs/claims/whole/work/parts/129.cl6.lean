/-! PURE: collecting, the loop; moving on -/
theorem p_coStep {a0 F n1 n2 n3 n4 q b i : Nat} {g : g_H} {s : Sg} (c : CI a0 F g s n1 n2 n3 n4 q) (hb : b < n3) (hi : i < n4) (hc : ¬ (3 : Int32) ≤ car s b) {here : Int32} (hh : here ≠ -1) :
    ∃ g', (∀ K, f1_collect_2b K g F (F + 2 + 5 * b) here (nI i) = K g' F (F + 2 + 5 * b) here (nI i + 1)) ∧ Fr F g g' ∧ CI a0 F g' (coS s b here i) n1 n2 n3 n4 q := by
  obtain ⟨b1, b2, b3, b4, b5, b6, b7, b8, b9, b10, b11, b12, b13, b14, b15, b16, b17, b18, b19, b20⟩ := clB c hb
  obtain ⟨l1, l2, l3⟩ := clL c hi
  have hlt : ¬ nI n4 ≤ nI i := nI_ge hi (by omega)
  have hix : ¬ (nI i < 0 ∨ 20 ≤ Int32.toNatClampNeg (nI i)) := nI_in (by omega) (by omega)
  have ci : Int32.toNatClampNeg (nI i) = i := cl_nI (by omega)
  have e0 : gI g (F + 33 + i) 0 = s 5 i 0 := l3 0 (by omega)
  have e1 : gI g (F + 33 + i) 1 = s 5 i 1 := l3 1 (by omega)
  have hto : inR (nI n1) (s 5 i 0) := (c.1.2.2.2.2.2.2.2.2 i hi).1
  by_cases h : s 5 i 1 = here
  · by_cases h' : wy s here (s 5 i 0) ≤ wy s (tg s b (s 5 i 0)) (s 5 i 0)
    · refine ⟨g, fun K => ?_, Fr.rf, ?_⟩
      · unfold f1_collect_2b f1_collect_85
        rw [if_pos b1, b2, if_neg hlt, if_pos b11, b14, if_neg hc, b7]
        show (if (gS g (F + 32)).fst = 17 then _ else _) = _
        rw [b9, if_pos rfl]
        show (if ¬ (nI i < 0 ∨ 20 ≤ Int32.toNatClampNeg (nI i)) then _ else _) = _
        rw [if_pos hix, ci, l1]
        show (if (gS g (F + 33 + i)).fst = 4 then _ else _) = _
        rw [if_pos l2, e1, if_pos h, b12]
        show (if (gS g (a0 + 46 + 5 * b)).fst = 5 then _ else _) = _
        rw [if_pos b16, e0, clE c hb hto]
        show (if (gS g F).fst = 2 then _ else _) = _
        rw [if_pos b1, b5]
        show (if (gS g (F + 33 + i)).fst = 4 then _ else _) = _
        rw [if_pos l2, if_pos b17, e0, c.wyE]
        show (if (gS g F).fst = 2 then _ else _) = _
        rw [if_pos b1, b5]
        show (if (gS g (F + 33 + i)).fst = 4 then _ else _) = _
        rw [if_pos l2, if_pos b17, e0, c.wyE]
        show (if wy s here (s 5 i 0) ≤ wy s (tg s b (s 5 i 0)) (s 5 i 0) then _ else _) = _
        rw [if_pos h']
      · unfold coS
        rw [if_neg fun q => Int32.not_le.mpr q.2.2 h']
        exact c
    · obtain ⟨h1, x1, x4, x5⟩ := clTake c hb hi (h ▸ hh) hc
      refine ⟨h1, fun K => ?_, x4, ?_⟩
      · unfold f1_collect_2b f1_collect_85
        rw [if_pos b1, b2, if_neg hlt, if_pos b11, b14, if_neg hc, b7]
        show (if (gS g (F + 32)).fst = 17 then _ else _) = _
        rw [b9, if_pos rfl]
        show (if ¬ (nI i < 0 ∨ 20 ≤ Int32.toNatClampNeg (nI i)) then _ else _) = _
        rw [if_pos hix, ci, l1]
        show (if (gS g (F + 33 + i)).fst = 4 then _ else _) = _
        rw [if_pos l2, e1, if_pos h, b12]
        show (if (gS g (a0 + 46 + 5 * b)).fst = 5 then _ else _) = _
        rw [if_pos b16, e0, clE c hb hto]
        show (if (gS g F).fst = 2 then _ else _) = _
        rw [if_pos b1, b5]
        show (if (gS g (F + 33 + i)).fst = 4 then _ else _) = _
        rw [if_pos l2, if_pos b17, e0, c.wyE]
        show (if (gS g F).fst = 2 then _ else _) = _
        rw [if_pos b1, b5]
        show (if (gS g (F + 33 + i)).fst = 4 then _ else _) = _
        rw [if_pos l2, if_pos b17, e0, c.wyE]
        show (if wy s here (s 5 i 0) ≤ wy s (tg s b (s 5 i 0)) (s 5 i 0) then _ else _) = _
        rw [if_neg h', if_pos b11, x1]
        rfl
      · unfold coS
        rw [if_pos ⟨h, hc, Int32.not_le.mp h'⟩]
        exact x5
  · refine ⟨g, fun K => ?_, Fr.rf, ?_⟩
    · unfold f1_collect_2b f1_collect_85
      rw [if_pos b1, b2, if_neg hlt, if_pos b11, b14, if_neg hc, b7]
      show (if (gS g (F + 32)).fst = 17 then _ else _) = _
      rw [b9, if_pos rfl]
      show (if ¬ (nI i < 0 ∨ 20 ≤ Int32.toNatClampNeg (nI i)) then _ else _) = _
      rw [if_pos hix, ci, l1]
      show (if (gS g (F + 33 + i)).fst = 4 then _ else _) = _
      rw [if_pos l2, e1, if_neg h]
    · unfold coS
      rw [if_neg fun q => h q.1]
      exact c
theorem p_coLoop {a0 F n1 n2 n3 n4 q b : Nat} {s0 : Sg} (hb : b < n3) {here : Int32} (hh : here ≠ -1) :
    ∀ m i fuel : Nat, ∀ g : g_H, i + m = n4 → m < fuel → CI a0 F g (coF s0 b here i) n1 n2 n3 n4 q →
    ∃ g', f1_collect_2 fuel g F (F + 2 + 5 * b) here (nI i) = some g' ∧ Fr F g g' ∧ CI a0 F g' (coF s0 b here n4) n1 n2 n3 n4 q := by
  intro m
  induction m with
  | zero =>
    intro i fuel g him hf c
    obtain ⟨fu, rfl⟩ : ∃ fu, fuel = fu + 1 := ⟨fuel - 1, by omega⟩
    obtain ⟨b1, b2, -⟩ := clB c hb
    have : i = n4 := by omega
    subst this
    refine ⟨g, ?_, Fr.rf, c⟩
    show f1_collect_2b _ g F (F + 2 + 5 * b) here (nI i) = _
    unfold f1_collect_2b
    rw [if_pos b1, b2, if_pos (Int32.le_refl _)]
  | succ m ih =>
    intro i fuel g him hf c
    obtain ⟨fu, rfl⟩ : ∃ fu, fuel = fu + 1 := ⟨fuel - 1, by omega⟩
    by_cases hc : (3 : Int32) ≤ car (coF s0 b here i) b
    · obtain ⟨b1, b2, b3, b4, b5, b6, b7, b8, b9, b10, b11, b12, b13, b14, b15, b16, b17, b18, b19, b20⟩ := clB c hb
      refine ⟨g, ?_, Fr.rf, ?_⟩
      · show f1_collect_2b _ g F (F + 2 + 5 * b) here (nI i) = _
        unfold f1_collect_2b
        rw [if_pos b1, b2, if_neg (nI_ge (by omega) (by omega)), if_pos b11, b14, if_pos hc]
      · rw [coF_none hc (by omega)]
        exact c
    · obtain ⟨g1, x1, x2, x3⟩ := p_coStep c hb (show i < n4 by omega) hc hh
      obtain ⟨g2, y1, y2, y3⟩ := ih (i + 1) fu g1 (by omega) (by omega) x3
      refine ⟨g2, ?_, x2.tr y2, y3⟩
      show f1_collect_2b (f1_collect_2 fu) g F (F + 2 + 5 * b) here (nI i) = _
      rw [x1, nI_1]
      exact y1
theorem p_collect {a0 F n1 n2 n3 n4 q b : Nat} {g : g_H} {s : Sg} (c : CI a0 F g s n1 n2 n3 n4 q) (hb : b < n3) {here : Int32} (hh : here ≠ -1) :
    ∃ g', f1_collect g F (F + 2 + 5 * b) here = some g' ∧ Fr F g g' ∧ CI a0 F g' (coF s b here n4) n1 n2 n3 n4 q := by
  obtain ⟨b1, b2, b3, b4, b5, b6, b7, b8, b9, b10, b11, b12, b13, b14, b15, b16, b17, b18, b19, b20⟩ := clB c hb
  exact p_coLoop hb hh n4 0 300 g (by omega) (by omega) c
theorem su_self {s : Sg} {t i k : Nat} : su s t i k (s t i k) = s := by
  funext t' i' k'
  unfold su
  by_cases h : t' = t ∧ i' = i ∧ k' = k
  · rw [if_pos h, h.1, h.2.1, h.2.2]
  · rw [if_neg h]
theorem carF_5 {s t : Sg} {b n : Nat} (h : t 5 = s 5) : carF t b n = carF s b n := carF_keep fun i _ => by rw [h]
theorem car_5 {s t : Sg} {b : Nat} (h : t 5 = s 5) (h0 : t 0 = s 0) : car t b = car s b := by
  unfold car
  rw [h0, carF_5 h]
theorem arr_5 {s t : Sg} (h : t 5 = s 5) (h0 : t 0 = s 0) : arr t = arr s := by
  unfold arr
  rw [h0]
  exact arrF_keep fun i _ => by rw [h]
theorem RD.bee {a0 F n3 n4 b k k' : Nat} {g : g_H} {s : Sg} {v : Int32} (r : RD a0 F g s n3 n4) (hb : b < n3) (h6 : n3 ≤ 6) (h20 : n4 ≤ 20) (h : fld k k') : RD a0 F (gPI g (F + 2 + 5 * b) k v) (su s 3 b k' v) n3 n4 := by
  obtain ⟨d1, d2, d3, d4, d5⟩ := r
  have h5 : (su s 3 b k' v) 5 = s 5 := su_T (by omega)
  have h0 : (su s 3 b k' v) 0 = s 0 := su_T (by omega)
  refine ⟨R2.o d1 (by omega) h0, R3.b d2 h, fun b' hb' => ?_, ?_, R7.o d5 (fun j _ => by omega) h5⟩
  · rw [car_5 h5 h0, gI_PI]
    have k6 : 6 ≠ k := by unfold fld at h; omega
    by_cases e : F + 2 + 5 * b' = F + 2 + 5 * b
    · rw [if_pos e, if_neg k6]; exact d3 b' hb'
    · rw [if_neg e]; exact d3 b' hb'
  · unfold R5
    rw [arr_5 h5 h0, gI_PI, if_neg (by omega)]
    exact d4
/-- a bee alone changed -/
theorem WF.bee {s t : Sg} {n1 n2 n3 n4 q b : Nat} (w : WF s n1 n2 n3 n4 q) (h : Same s t) (h5 : t 5 = s 5) (h0 : t 0 = s 0) (hb : b < n3) (ho : ∀ b', b' ≠ b → t 3 b' = s 3 b') (wb : WB t n1 b) : WF t n1 n2 n3 n4 q := by
  obtain ⟨w1, w2, w3, w4, w5, w6, w7, w8, w9⟩ := w
  refine ⟨w1.same h, by rw [h0]; exact w2, w3, by rw [h0]; exact w4, w5, by rw [h0]; exact w6, w7, fun b' hb' => ?_, fun i hi => ?_⟩
  · obtain ⟨x, y⟩ := w8 b' hb'
    refine ⟨?_, by rw [car_5 h5 h0]; exact y⟩
    by_cases e : b' = b
    · rw [e]; exact wb
    · obtain ⟨z, p, l, st, ho', e1, e2, e3, e4, e5, e6, e7, e8, e9, e10, e11, e12, e13, e14, e15⟩ := x
      refine WB.keep h ⟨z, p, l, st, ho', e1, e2, e3, e4, e5, e6, e7, e8, e9, e10, e11, e12, e13, e14, e15⟩ ?_ ?_ ⟨st, e9, ?_⟩ ⟨ho', e11, ?_⟩ ?_ ?_ <;> rw [ho b' e] <;> assumption
  · unfold WL; rw [h5]; exact w9 i hi
