/-! ===== windows hung otherwise ===== -/
def swA (a : Nat → Nat) (x y : Nat) : Nat → Nat := updN (updN a (12 + 4 * x + 2) (a (12 + 4 * y + 2))) (12 + 4 * y + 2) (a (12 + 4 * x + 2))
theorem swA_n {a : Nat → Nat} {x y k : Nat} (h1 : k ≠ 12 + 4 * x + 2) (h2 : k ≠ 12 + 4 * y + 2) : swA a x y k = a k := by
  unfold swA
  rw [updN_n h2, updN_n h1]
theorem swA_y {a : Nat → Nat} {x y : Nat} : swA a x y (12 + 4 * y + 2) = a (12 + 4 * x + 2) := updN_s _ _ _
theorem swA_x {a : Nat → Nat} {x y : Nat} : swA a x y (12 + 4 * x + 2) = a (12 + 4 * y + 2) := by
  unfold swA
  by_cases e : x = y
  · subst e
    exact updN_s _ _ _
  · rw [updN_n (by omega), updN_s]
theorem swA_s {a : Nat → Nat} {x : Nat} : swA a x x = a := by
  funext k
  by_cases e : k = 12 + 4 * x + 2
  · subst e
    exact swA_x
  · exact swA_n e e
theorem cntC_sw {a : Nat → Nat} {x y : Nat} (c : Nat) (hxy : x ≠ y) : ∀ w, cntC (swA a x y) c w + ((if x < w then (if a (12 + 4 * x + 2) = c then 1 else 0) else 0) + (if y < w then (if a (12 + 4 * y + 2) = c then 1 else 0) else 0)) = cntC a c w + ((if x < w then (if a (12 + 4 * y + 2) = c then 1 else 0) else 0) + (if y < w then (if a (12 + 4 * x + 2) = c then 1 else 0) else 0)) := by
  intro w
  induction w with
  | zero => rfl
  | succ w ih =>
    show cntC (swA a x y) c w + (if swA a x y (12 + 4 * w + 2) = c then 1 else 0) + _ = cntC a c w + (if a (12 + 4 * w + 2) = c then 1 else 0) + _
    by_cases q1 : w = x
    · subst q1
      rw [swA_x]
      rw [if_neg (show ¬ w < w by omega), if_neg (show ¬ w < w by omega)] at ih
      rw [if_pos (show w < w + 1 by omega), if_pos (show w < w + 1 by omega)]
      by_cases q2 : y < w
      · rw [if_pos q2, if_pos q2] at ih
        rw [if_pos (show y < w + 1 by omega), if_pos (show y < w + 1 by omega)]
        omega
      · rw [if_neg q2, if_neg q2] at ih
        rw [if_neg (show ¬ y < w + 1 by omega), if_neg (show ¬ y < w + 1 by omega)]
        omega
    · by_cases q2 : w = y
      · subst q2
        rw [swA_y]
        rw [if_neg (show ¬ w < w by omega), if_neg (show ¬ w < w by omega)] at ih
        rw [if_pos (show w < w + 1 by omega), if_pos (show w < w + 1 by omega)]
        by_cases q3 : x < w
        · rw [if_pos q3, if_pos q3] at ih
          rw [if_pos (show x < w + 1 by omega), if_pos (show x < w + 1 by omega)]
          omega
        · rw [if_neg q3, if_neg q3] at ih
          rw [if_neg (show ¬ x < w + 1 by omega), if_neg (show ¬ x < w + 1 by omega)]
          omega
      · rw [swA_n (by omega) (by omega)]
        have e1 : (x < w + 1) = (x < w) := propext (by omega)
        have e2 : (y < w + 1) = (y < w) := propext (by omega)
        simp only [e1, e2]
        omega
theorem DOK.sw {a : Nat → Nat} (d : DOK a) {x y : Nat} (hx : x < a 0) (hy : y < a 0) : DOK (swA a x y) := by
  have d0 := d.1.1
  by_cases exy : x = y
  · subst exy
    rw [swA_s]
    exact d
  · refine d.win (fun k hk => swA_n (by omega) (by omega)) (fun w hw => ?_) (fun c c1 c2 => ?_)
    · have b := d.2.2.1 w hw
      have bx := d.2.2.1 x hx
      have bY := d.2.2.1 y hy
      rw [swA_n (k := 12 + 4 * w) (by omega) (by omega), swA_n (k := 12 + 4 * w + 1) (by omega) (by omega), swA_n (k := 12 + 4 * w + 3) (by omega) (by omega)]
      refine ⟨b.1, b.2.1, ?_, b.2.2.2⟩
      by_cases q : w = x
      · subst q
        rw [swA_x]
        exact bY.2.2.1
      · by_cases q2 : w = y
        · subst q2
          rw [swA_y]
          exact bx.2.2.1
        · rw [swA_n (by omega) (by omega)]
          exact b.2.2.1
    · have e := cntC_sw (a := a) c exy (a 0)
      rw [if_pos hx, if_pos hy, if_pos hx, if_pos hy] at e
      have := d.2.2.2.2.2.2.2 c c1 c2
      omega
theorem c_hang {K g x y : Nat} {M : Mem} {a : Nat → Nat} {Q : Mem → Prop} (h : HR g M a) (d : DOK a) (hx : x < a 0) (hy : y < a 0) (hQ : ∀ M' : Mem, (∀ k, k ≠ g + 3 → M' k = M k) → HR g M' (swA a x y) → Q M') : P_X2_hangOtherwise K M g (nI x) (nI y) Q := by
  have d0 := d.1.1
  have ex := (h.2.2.1 x hx).2.2.1
  have ey := (h.2.2.1 y hy).2.2.1
  unfold P_X2_hangOtherwise
  simp (disch := omega) only [vi_t, cl_nI, true_and, forall_eq, ex, ey]
  refine hQ _ (fun k hk => by rw [sf_ne hk, sf_ne hk]) (h.win (fun k k1 k2 k3 k4 => by rw [sf_ne k3, sf_ne k3]) (fun k hk => swA_n (by omega) (by omega)) (fun w hw => ?_))
  have e := h.2.2.1 w hw
  simp (disch := omega) only [sf_ne (k' := g + 1), sf_ne (k' := g + 2), sf_ne (k' := g + 4)]
  rw [swA_n (k := 12 + 4 * w) (by omega) (by omega), swA_n (k := 12 + 4 * w + 1) (by omega) (by omega), swA_n (k := 12 + 4 * w + 3) (by omega) (by omega)]
  refine ⟨e.1, e.2.1, ?_, e.2.2.2⟩
  by_cases q : w = y
  · subst q
    rw [sf_e rfl rfl, swA_y]
  · rw [sf_j q]
    by_cases q2 : w = x
    · subst q2
      rw [sf_e rfl rfl, swA_x]
    · rw [sf_j q2, swA_n (by omega) (by omega)]
      exact e.2.2.1
theorem m_sw {x y : Nat} {M : Mem} {a : Nat → Nat} {Q : Mem → Prop} (h : MR M a) (hx : x < 8) (hy : y < 8) (hQ : ∀ M' : Mem, (∀ k, k ≠ 1 → M' k = M k) → MR M' (swA a x y) → Q M') : P_X12_swaps M (nI x) (nI y) Q := by
  unfold P_X12_swaps
  rw [show (2 : Int32) = nI 2 from rfl]
  simp (disch := omega) only [m_its h, m_puts]
  exact hQ _ (fun k hk => by rw [sf_ne hk, sf_ne hk]) ((h.up _ _).up _ _)
theorem lo_8 {n K : Nat} {Mc Mm : Mem} (a1 a2 a3 a4 a5 : Int32) (hn : n < 512) (hI : Inv n K Mc Mm) : LO_8 Inv n K Mc Mm a1 a2 a3 a4 a5 := by
  have hE := hI.er hn
  have hU := hI.up hn
  obtain ⟨a, b, V, W, F, t, im, hb, mo, ⟨hB, mr, d, v⟩, i1, i2⟩ := hI
  have h := hB.1
  have tr := hB.2.1
  have kd := hB.2.2
  have c := hb.cx mo
  have d0 := d.1.1
  have d1 := d.1.2.1
  have d2 := d.1.2.2
  have dh := d.2.1
  have dt := d.2.2.2.2.1
  have f0 : Mc 30 0 = nI (a 0) := h.1.1
  have f1 : Mc 30 1 = nI (a 1) := h.1.2.1
  have f2 : Mc 30 2 = nI (a 2) := h.1.2.2
  have g0 : Mm 1 0 = nI (a 0) := mr 0 (by omega)
  have g1 : Mm 1 1 = nI (a 1) := mr 1 (by omega)
  have g2 : Mm 1 2 = nI (a 2) := mr 2 (by omega)
  unfold LO_8
  rcases rngl a1 (a 0) (by omega) with ⟨x, hx, rfl⟩ | xx | xx
  · rcases rngl a2 (a 0) (by omega) with ⟨y, hy, rfl⟩ | xy | xy
    · simp (disch := omega) only [i_lit, l_0, l_1, l_2, l_3, l_5, l_6, l_8, l_9, l_23, l_24, l_48, l_57, l_69, l_100, in_e, ci_e, lt_t, lt_f, le_t, le_f, eq_t, eq_f, nI_add, Nat.add_zero, xl_t, xl_f, xg_t, xg_f, xle_t, xle_f, xge_t, xge_f, xe_f, ci_t, ci_f, cx_t, cx_f, cn_t, cn_f, cp_t, cp_f, vi_t, cl_nI, c_er, m_er, eq_self, true_and, and_true, true_implies, false_implies, implies_true, not_true_eq_false, not_false_eq_true, true_or, or_true, forall_eq, P_X11_swap, P_X11_isWindow, P_X12_swap, P_X12_isWindow, f0, g0]
      refine c_hang h d hx hy (fun M1 k1 h1 => ?_)
      refine m_sw mr (by omega) (by omega) (fun M2 k2 h2 => ?_)
      exact Inv.go hn hb i1 i2 (FC.of (fun k q1 q2 => k1 k (by omega))) (FMo.of k2) (mo.keep (k1 2 (by omega))) ⟨hB.up h1 (fun k q => k1 k (by omega)) (k1 _ (by omega)) (swA_n (by omega) (by omega)) (swA_n (by omega) (by omega)), h2, d.sw hx hy, v.ab d (fun k q1 q2 => swA_n (by omega) (by omega))⟩
    · simp (disch := omega) only [i_lit, l_0, l_1, l_2, l_3, l_5, l_6, l_8, l_9, l_23, l_24, l_48, l_57, l_69, l_100, in_e, ci_e, lt_t, lt_f, le_t, le_f, eq_t, eq_f, nI_add, Nat.add_zero, xl_t, xl_f, xg_t, xg_f, xle_t, xle_f, xge_t, xge_f, xe_f, ci_t, ci_f, cx_t, cx_f, cn_t, cn_f, cp_t, cp_f, vi_t, cl_nI, c_er, m_er, eq_self, true_and, and_true, true_implies, false_implies, implies_true, not_true_eq_false, not_false_eq_true, true_or, or_true, forall_eq, P_X11_swap, P_X11_isWindow, P_X12_swap, P_X12_isWindow, f0, g0]
      exact hE 1 (by omega)
    · simp (disch := omega) only [i_lit, l_0, l_1, l_2, l_3, l_5, l_6, l_8, l_9, l_23, l_24, l_48, l_57, l_69, l_100, in_e, ci_e, lt_t, lt_f, le_t, le_f, eq_t, eq_f, nI_add, Nat.add_zero, xl_t, xl_f, xg_t, xg_f, xle_t, xle_f, xge_t, xge_f, xe_f, ci_t, ci_f, cx_t, cx_f, cn_t, cn_f, cp_t, cp_f, vi_t, cl_nI, c_er, m_er, eq_self, true_and, and_true, true_implies, false_implies, implies_true, not_true_eq_false, not_false_eq_true, true_or, or_true, forall_eq, P_X11_swap, P_X11_isWindow, P_X12_swap, P_X12_isWindow, f0, g0]
      exact hE 1 (by omega)
  · simp (disch := omega) only [i_lit, l_0, l_1, l_2, l_3, l_5, l_6, l_8, l_9, l_23, l_24, l_48, l_57, l_69, l_100, in_e, ci_e, lt_t, lt_f, le_t, le_f, eq_t, eq_f, nI_add, Nat.add_zero, xl_t, xl_f, xg_t, xg_f, xle_t, xle_f, xge_t, xge_f, xe_f, ci_t, ci_f, cx_t, cx_f, cn_t, cn_f, cp_t, cp_f, vi_t, cl_nI, c_er, m_er, eq_self, true_and, and_true, true_implies, false_implies, implies_true, not_true_eq_false, not_false_eq_true, true_or, or_true, forall_eq, P_X11_swap, P_X11_isWindow, P_X12_swap, P_X12_isWindow, f0, g0]
    exact hE 1 (by omega)
  · simp (disch := omega) only [i_lit, l_0, l_1, l_2, l_3, l_5, l_6, l_8, l_9, l_23, l_24, l_48, l_57, l_69, l_100, in_e, ci_e, lt_t, lt_f, le_t, le_f, eq_t, eq_f, nI_add, Nat.add_zero, xl_t, xl_f, xg_t, xg_f, xle_t, xle_f, xge_t, xge_f, xe_f, ci_t, ci_f, cx_t, cx_f, cn_t, cn_f, cp_t, cp_f, vi_t, cl_nI, c_er, m_er, eq_self, true_and, and_true, true_implies, false_implies, implies_true, not_true_eq_false, not_false_eq_true, true_or, or_true, forall_eq, P_X11_swap, P_X11_isWindow, P_X12_swap, P_X12_isWindow, f0, g0]
    exact hE 1 (by omega)
/-! ===== ofWindow, open, swell, pull, air ===== -/
theorem lo_3 {n K : Nat} {Mc Mm : Mem} (a1 a2 a3 a4 a5 : Int32) (hn : n < 512) (hI : Inv n K Mc Mm) : LO_3 Inv n K Mc Mm a1 a2 a3 a4 a5 := by
  have hE := hI.er hn
  have hU := hI.up hn
  obtain ⟨a, b, V, W, F, t, im, hb, mo, ⟨hB, mr, d, v⟩, i1, i2⟩ := hI
  have h := hB.1
  have tr := hB.2.1
  have kd := hB.2.2
  have c := hb.cx mo
  have d0 := d.1.1
  have d1 := d.1.2.1
  have d2 := d.1.2.2
  have dh := d.2.1
  have dt := d.2.2.2.2.1
  have f0 : Mc 30 0 = nI (a 0) := h.1.1
  have f1 : Mc 30 1 = nI (a 1) := h.1.2.1
  have f2 : Mc 30 2 = nI (a 2) := h.1.2.2
  have g0 : Mm 1 0 = nI (a 0) := mr 0 (by omega)
  have g1 : Mm 1 1 = nI (a 1) := mr 1 (by omega)
  have g2 : Mm 1 2 = nI (a 2) := mr 2 (by omega)
  unfold LO_3
  rcases rngl a1 (a 0) (by omega) with ⟨w, hw, rfl⟩ | xw | xw
  · have e1 : Mc 31 w = nI (a (12 + 4 * w)) := (h.2.2.1 w hw).1
    have e2 : Mc 32 w = nI (a (12 + 4 * w + 1)) := (h.2.2.1 w hw).2.1
    have e3 : Mc 33 w = cI (a (12 + 4 * w + 2)) := (h.2.2.1 w hw).2.2.1
    have e4 : Mc 34 w = nI (a (12 + 4 * w + 3)) := (h.2.2.1 w hw).2.2.2
    rcases rng a2 3 (by omega) with ⟨k, hk, rfl⟩ | xk | xk
    · rcases (show k = 0 ∨ k = 1 ∨ k = 2 ∨ k = 3 by omega) with rfl | rfl | rfl | rfl
      · simp (disch := omega) only [i_lit, l_0, l_1, l_2, l_3, l_5, l_6, l_8, l_9, l_23, l_24, l_48, l_57, l_69, l_100, in_e, ci_e, lt_t, lt_f, le_t, le_f, eq_t, eq_f, nI_add, Nat.add_zero, xl_t, xl_f, xg_t, xg_f, xle_t, xle_f, xge_t, xge_f, xe_f, ci_t, ci_f, cx_t, cx_f, cn_t, cn_f, cp_t, cp_f, vi_t, cl_nI, c_er, m_er, eq_self, true_and, and_true, true_implies, false_implies, implies_true, not_true_eq_false, not_false_eq_true, true_or, or_true, forall_eq, P_X11_ofWindow, P_X11_isWindow, P_X12_ofWindow, P_X12_isWindow, f0, g0, e1, m_its mr, Nat.add_zero]
        exact hU
      · simp (disch := omega) only [i_lit, l_0, l_1, l_2, l_3, l_5, l_6, l_8, l_9, l_23, l_24, l_48, l_57, l_69, l_100, in_e, ci_e, lt_t, lt_f, le_t, le_f, eq_t, eq_f, nI_add, Nat.add_zero, xl_t, xl_f, xg_t, xg_f, xle_t, xle_f, xge_t, xge_f, xe_f, ci_t, ci_f, cx_t, cx_f, cn_t, cn_f, cp_t, cp_f, vi_t, cl_nI, c_er, m_er, eq_self, true_and, and_true, true_implies, false_implies, implies_true, not_true_eq_false, not_false_eq_true, true_or, or_true, forall_eq, P_X11_ofWindow, P_X11_isWindow, P_X12_ofWindow, P_X12_isWindow, f0, g0, e2, m_its mr]
        exact hU
      · simp (disch := omega) only [i_lit, l_0, l_1, l_2, l_3, l_5, l_6, l_8, l_9, l_23, l_24, l_48, l_57, l_69, l_100, in_e, ci_e, lt_t, lt_f, le_t, le_f, eq_t, eq_f, nI_add, Nat.add_zero, xl_t, xl_f, xg_t, xg_f, xle_t, xle_f, xge_t, xge_f, xe_f, ci_t, ci_f, cx_t, cx_f, cn_t, cn_f, cp_t, cp_f, vi_t, cl_nI, c_er, m_er, eq_self, true_and, and_true, true_implies, false_implies, implies_true, not_true_eq_false, not_false_eq_true, true_or, or_true, forall_eq, P_X11_ofWindow, P_X11_isWindow, P_X12_ofWindow, P_X12_isWindow, f0, g0, e3, m_its mr]
        exact hU
      · simp (disch := omega) only [i_lit, l_0, l_1, l_2, l_3, l_5, l_6, l_8, l_9, l_23, l_24, l_48, l_57, l_69, l_100, in_e, ci_e, lt_t, lt_f, le_t, le_f, eq_t, eq_f, nI_add, Nat.add_zero, xl_t, xl_f, xg_t, xg_f, xle_t, xle_f, xge_t, xge_f, xe_f, ci_t, ci_f, cx_t, cx_f, cn_t, cn_f, cp_t, cp_f, vi_t, cl_nI, c_er, m_er, eq_self, true_and, and_true, true_implies, false_implies, implies_true, not_true_eq_false, not_false_eq_true, true_or, or_true, forall_eq, P_X11_ofWindow, P_X11_isWindow, P_X12_ofWindow, P_X12_isWindow, f0, g0, e4, m_its mr]
        exact hU
    · simp (disch := omega) only [i_lit, l_0, l_1, l_2, l_3, l_5, l_6, l_8, l_9, l_23, l_24, l_48, l_57, l_69, l_100, in_e, ci_e, lt_t, lt_f, le_t, le_f, eq_t, eq_f, nI_add, Nat.add_zero, xl_t, xl_f, xg_t, xg_f, xle_t, xle_f, xge_t, xge_f, xe_f, ci_t, ci_f, cx_t, cx_f, cn_t, cn_f, cp_t, cp_f, vi_t, cl_nI, c_er, m_er, eq_self, true_and, and_true, true_implies, false_implies, implies_true, not_true_eq_false, not_false_eq_true, true_or, or_true, forall_eq, P_X11_ofWindow, P_X11_isWindow, P_X12_ofWindow, P_X12_isWindow, f0, g0]
      exact hE 1 (by omega)
    · simp (disch := omega) only [i_lit, l_0, l_1, l_2, l_3, l_5, l_6, l_8, l_9, l_23, l_24, l_48, l_57, l_69, l_100, in_e, ci_e, lt_t, lt_f, le_t, le_f, eq_t, eq_f, nI_add, Nat.add_zero, xl_t, xl_f, xg_t, xg_f, xle_t, xle_f, xge_t, xge_f, xe_f, ci_t, ci_f, cx_t, cx_f, cn_t, cn_f, cp_t, cp_f, vi_t, cl_nI, c_er, m_er, eq_self, true_and, and_true, true_implies, false_implies, implies_true, not_true_eq_false, not_false_eq_true, true_or, or_true, forall_eq, P_X11_ofWindow, P_X11_isWindow, P_X12_ofWindow, P_X12_isWindow, f0, g0]
      exact hE 1 (by omega)
  · simp (disch := omega) only [i_lit, l_0, l_1, l_2, l_3, l_5, l_6, l_8, l_9, l_23, l_24, l_48, l_57, l_69, l_100, in_e, ci_e, lt_t, lt_f, le_t, le_f, eq_t, eq_f, nI_add, Nat.add_zero, xl_t, xl_f, xg_t, xg_f, xle_t, xle_f, xge_t, xge_f, xe_f, ci_t, ci_f, cx_t, cx_f, cn_t, cn_f, cp_t, cp_f, vi_t, cl_nI, c_er, m_er, eq_self, true_and, and_true, true_implies, false_implies, implies_true, not_true_eq_false, not_false_eq_true, true_or, or_true, forall_eq, P_X11_ofWindow, P_X11_isWindow, P_X12_ofWindow, P_X12_isWindow, f0, g0]
    exact hE 1 (by omega)
  · simp (disch := omega) only [i_lit, l_0, l_1, l_2, l_3, l_5, l_6, l_8, l_9, l_23, l_24, l_48, l_57, l_69, l_100, in_e, ci_e, lt_t, lt_f, le_t, le_f, eq_t, eq_f, nI_add, Nat.add_zero, xl_t, xl_f, xg_t, xg_f, xle_t, xle_f, xge_t, xge_f, xe_f, ci_t, ci_f, cx_t, cx_f, cn_t, cn_f, cp_t, cp_f, vi_t, cl_nI, c_er, m_er, eq_self, true_and, and_true, true_implies, false_implies, implies_true, not_true_eq_false, not_false_eq_true, true_or, or_true, forall_eq, P_X11_ofWindow, P_X11_isWindow, P_X12_ofWindow, P_X12_isWindow, f0, g0]
    exact hE 1 (by omega)
theorem cntC_up {a : Nat → Nat} {k u c : Nat} (hk : k % 4 ≠ 2) : ∀ w, cntC (updN a k u) c w = cntC a c w := fun w => cntC_eq w (fun i _ => updN_n (by omega))
theorem lo_5 {n K : Nat} {Mc Mm : Mem} (a1 a2 a3 a4 a5 : Int32) (hn : n < 512) (hI : Inv n K Mc Mm) : LO_5 Inv n K Mc Mm a1 a2 a3 a4 a5 := by
  have hE := hI.er hn
  have hU := hI.up hn
  obtain ⟨a, b, V, W, F, t, im, hb, mo, ⟨hB, mr, d, v⟩, i1, i2⟩ := hI
  have h := hB.1
  have tr := hB.2.1
  have kd := hB.2.2
  have c := hb.cx mo
  have d0 := d.1.1
  have d1 := d.1.2.1
  have d2 := d.1.2.2
  have dh := d.2.1
  have dt := d.2.2.2.2.1
  have f0 : Mc 30 0 = nI (a 0) := h.1.1
  have f1 : Mc 30 1 = nI (a 1) := h.1.2.1
  have f2 : Mc 30 2 = nI (a 2) := h.1.2.2
  have g0 : Mm 1 0 = nI (a 0) := mr 0 (by omega)
  have g1 : Mm 1 1 = nI (a 1) := mr 1 (by omega)
  have g2 : Mm 1 2 = nI (a 2) := mr 2 (by omega)
  unfold LO_5
  rcases rngl a1 (a 0) (by omega) with ⟨w, hw, rfl⟩ | xw | xw
  · have e2 : Mc 32 w = nI (a (12 + 4 * w + 1)) := (h.2.2.1 w hw).2.1
    have e3 : Mc 33 w = cI (a (12 + 4 * w + 2)) := (h.2.2.1 w hw).2.2.1
    have e4 : Mc 34 w = nI (a (12 + 4 * w + 3)) := (h.2.2.1 w hw).2.2.2
    have bw := d.2.2.1 w hw
    rcases rng a2 9 (by omega) with ⟨o, ho, rfl⟩ | xo | xo
    · by_cases q1 : a (12 + 4 * w + 2) = 0
      · by_cases q2 : a (12 + 4 * w + 3) = 0
        · simp (disch := omega) only [i_lit, l_0, l_1, l_2, l_3, l_5, l_6, l_8, l_9, l_23, l_24, l_48, l_57, l_69, l_100, in_e, ci_e, lt_t, lt_f, le_t, le_f, eq_t, eq_f, nI_add, Nat.add_zero, xl_t, xl_f, xg_t, xg_f, xle_t, xle_f, xge_t, xge_f, xe_f, ci_t, ci_f, cx_t, cx_f, cn_t, cn_f, cp_t, cp_f, vi_t, cl_nI, c_er, m_er, eq_self, true_and, and_true, true_implies, false_implies, implies_true, not_true_eq_false, not_false_eq_true, true_or, or_true, forall_eq, P_X11_open, P_X11_isNotch, P_X11_isWindow, P_X12_open, P_X12_isWindow, f0, g0, e2, e3, e4, m_its mr, m_puts]
          refine Inv.go (a' := updN a (12 + 4 * w + 1) o) (V' := V) hn hb i1 i2 (FC.of (fun k k1 k2 => by simp (disch := omega) only [sf_ne])) (FMo.of (fun k k1 => by simp (disch := omega) only [sf_ne])) (mo.keep (by simp (disch := omega) only [sf_ne])) ⟨hB.up (h.win (fun k k1 k2 k3 k4 => by simp (disch := omega) only [sf_ne]) (fun k k1 => by simp (disch := omega) only [updN_n]) (fun u hu => ?_)) (fun k k1 => by simp (disch := omega) only [sf_ne]) (by simp (disch := omega) only [sf_ne]) (by simp (disch := omega) only [updN_n]) (by simp (disch := omega) only [updN_n]), mr.up _ _, d.win (fun k k1 => by simp (disch := omega) only [updN_n]) (fun u hu => ?_) (fun c c1 c2 => by rw [cntC_up (by omega)]; exact d.2.2.2.2.2.2.2 c c1 c2), v.ab d (fun k k1 k2 => by simp (disch := omega) only [updN_n])⟩
          · have e := h.2.2.1 u hu
            by_cases q : u = w
            · subst q
              simp (disch := omega) only [nI_add, updN_n, updN_e, sf_ne, sf_e, sf_j]
              exact ⟨e.1, trivial, e.2.2⟩
            · simp (disch := omega) only [nI_add, updN_n, updN_e, sf_ne, sf_e, sf_j]
              exact e
          · have e := d.2.2.1 u hu
            by_cases q : u = w
            · subst q
              simp (disch := omega) only [nI_add, updN_n, updN_e, sf_ne, sf_e, sf_j]
              exact ⟨e.1, ho, e.2.2⟩
            · simp (disch := omega) only [nI_add, updN_n, updN_e, sf_ne, sf_e, sf_j]
              exact e
        · simp (disch := omega) only [i_lit, l_0, l_1, l_2, l_3, l_5, l_6, l_8, l_9, l_23, l_24, l_48, l_57, l_69, l_100, in_e, ci_e, lt_t, lt_f, le_t, le_f, eq_t, eq_f, nI_add, Nat.add_zero, xl_t, xl_f, xg_t, xg_f, xle_t, xle_f, xge_t, xge_f, xe_f, ci_t, ci_f, cx_t, cx_f, cn_t, cn_f, cp_t, cp_f, vi_t, cl_nI, c_er, m_er, eq_self, true_and, and_true, true_implies, false_implies, implies_true, not_true_eq_false, not_false_eq_true, true_or, or_true, forall_eq, P_X11_open, P_X11_isNotch, P_X11_isWindow, P_X12_open, P_X12_isWindow, f0, g0, e2, e3, e4, m_its mr, m_puts]
          exact hE 3 (by omega)
      · simp (disch := omega) only [i_lit, l_0, l_1, l_2, l_3, l_5, l_6, l_8, l_9, l_23, l_24, l_48, l_57, l_69, l_100, in_e, ci_e, lt_t, lt_f, le_t, le_f, eq_t, eq_f, nI_add, Nat.add_zero, xl_t, xl_f, xg_t, xg_f, xle_t, xle_f, xge_t, xge_f, xe_f, ci_t, ci_f, cx_t, cx_f, cn_t, cn_f, cp_t, cp_f, vi_t, cl_nI, c_er, m_er, eq_self, true_and, and_true, true_implies, false_implies, implies_true, not_true_eq_false, not_false_eq_true, true_or, or_true, forall_eq, P_X11_open, P_X11_isNotch, P_X11_isWindow, P_X12_open, P_X12_isWindow, f0, g0, e2, e3, e4, m_its mr, m_puts]
        exact hE 3 (by omega)
    · simp (disch := omega) only [i_lit, l_0, l_1, l_2, l_3, l_5, l_6, l_8, l_9, l_23, l_24, l_48, l_57, l_69, l_100, in_e, ci_e, lt_t, lt_f, le_t, le_f, eq_t, eq_f, nI_add, Nat.add_zero, xl_t, xl_f, xg_t, xg_f, xle_t, xle_f, xge_t, xge_f, xe_f, ci_t, ci_f, cx_t, cx_f, cn_t, cn_f, cp_t, cp_f, vi_t, cl_nI, c_er, m_er, eq_self, true_and, and_true, true_implies, false_implies, implies_true, not_true_eq_false, not_false_eq_true, true_or, or_true, forall_eq, P_X11_open, P_X11_isNotch, P_X11_isWindow, P_X12_open, P_X12_isWindow, f0, g0]
      exact hE 1 (by omega)
    · simp (disch := omega) only [i_lit, l_0, l_1, l_2, l_3, l_5, l_6, l_8, l_9, l_23, l_24, l_48, l_57, l_69, l_100, in_e, ci_e, lt_t, lt_f, le_t, le_f, eq_t, eq_f, nI_add, Nat.add_zero, xl_t, xl_f, xg_t, xg_f, xle_t, xle_f, xge_t, xge_f, xe_f, ci_t, ci_f, cx_t, cx_f, cn_t, cn_f, cp_t, cp_f, vi_t, cl_nI, c_er, m_er, eq_self, true_and, and_true, true_implies, false_implies, implies_true, not_true_eq_false, not_false_eq_true, true_or, or_true, forall_eq, P_X11_open, P_X11_isNotch, P_X11_isWindow, P_X12_open, P_X12_isWindow, f0, g0]
      exact hE 1 (by omega)
  · simp (disch := omega) only [i_lit, l_0, l_1, l_2, l_3, l_5, l_6, l_8, l_9, l_23, l_24, l_48, l_57, l_69, l_100, in_e, ci_e, lt_t, lt_f, le_t, le_f, eq_t, eq_f, nI_add, Nat.add_zero, xl_t, xl_f, xg_t, xg_f, xle_t, xle_f, xge_t, xge_f, xe_f, ci_t, ci_f, cx_t, cx_f, cn_t, cn_f, cp_t, cp_f, vi_t, cl_nI, c_er, m_er, eq_self, true_and, and_true, true_implies, false_implies, implies_true, not_true_eq_false, not_false_eq_true, true_or, or_true, forall_eq, P_X11_open, P_X11_isNotch, P_X11_isWindow, P_X12_open, P_X12_isWindow, f0, g0]
    exact hE 1 (by omega)
  · simp (disch := omega) only [i_lit, l_0, l_1, l_2, l_3, l_5, l_6, l_8, l_9, l_23, l_24, l_48, l_57, l_69, l_100, in_e, ci_e, lt_t, lt_f, le_t, le_f, eq_t, eq_f, nI_add, Nat.add_zero, xl_t, xl_f, xg_t, xg_f, xle_t, xle_f, xge_t, xge_f, xe_f, ci_t, ci_f, cx_t, cx_f, cn_t, cn_f, cp_t, cp_f, vi_t, cl_nI, c_er, m_er, eq_self, true_and, and_true, true_implies, false_implies, implies_true, not_true_eq_false, not_false_eq_true, true_or, or_true, forall_eq, P_X11_open, P_X11_isNotch, P_X11_isWindow, P_X12_open, P_X12_isWindow, f0, g0]
    exact hE 1 (by omega)
theorem lo_6 {n K : Nat} {Mc Mm : Mem} (a1 a2 a3 a4 a5 : Int32) (hn : n < 512) (hI : Inv n K Mc Mm) : LO_6 Inv n K Mc Mm a1 a2 a3 a4 a5 := by
  have hE := hI.er hn
  have hU := hI.up hn
  obtain ⟨a, b, V, W, F, t, im, hb, mo, ⟨hB, mr, d, v⟩, i1, i2⟩ := hI
  have h := hB.1
  have tr := hB.2.1
  have kd := hB.2.2
  have c := hb.cx mo
  have d0 := d.1.1
  have d1 := d.1.2.1
  have d2 := d.1.2.2
  have dh := d.2.1
  have dt := d.2.2.2.2.1
  have f0 : Mc 30 0 = nI (a 0) := h.1.1
  have f1 : Mc 30 1 = nI (a 1) := h.1.2.1
  have f2 : Mc 30 2 = nI (a 2) := h.1.2.2
  have g0 : Mm 1 0 = nI (a 0) := mr 0 (by omega)
  have g1 : Mm 1 1 = nI (a 1) := mr 1 (by omega)
  have g2 : Mm 1 2 = nI (a 2) := mr 2 (by omega)
  unfold LO_6
  rcases rngl a1 (a 0) (by omega) with ⟨w, hw, rfl⟩ | xw | xw
  · have e4 : Mc 34 w = nI (a (12 + 4 * w + 3)) := (h.2.2.1 w hw).2.2.2
    rcases rng a2 1 (by omega) with ⟨o, ho, rfl⟩ | xo | xo
    · simp (disch := omega) only [i_lit, l_0, l_1, l_2, l_3, l_5, l_6, l_8, l_9, l_23, l_24, l_48, l_57, l_69, l_100, in_e, ci_e, lt_t, lt_f, le_t, le_f, eq_t, eq_f, nI_add, Nat.add_zero, xl_t, xl_f, xg_t, xg_f, xle_t, xle_f, xge_t, xge_f, xe_f, ci_t, ci_f, cx_t, cx_f, cn_t, cn_f, cp_t, cp_f, vi_t, cl_nI, c_er, m_er, eq_self, true_and, and_true, true_implies, false_implies, implies_true, not_true_eq_false, not_false_eq_true, true_or, or_true, forall_eq, P_X11_swell, P_X11_isWindow, P_X12_swell, P_X12_isWindow, f0, g0, e4, m_its mr, m_puts]
      refine Inv.go (a' := updN a (12 + 4 * w + 3) o) (V' := V) hn hb i1 i2 (FC.of (fun k k1 k2 => by simp (disch := omega) only [sf_ne])) (FMo.of (fun k k1 => by simp (disch := omega) only [sf_ne])) (mo.keep (by simp (disch := omega) only [sf_ne])) ⟨hB.up (h.win (fun k k1 k2 k3 k4 => by simp (disch := omega) only [sf_ne]) (fun k k1 => by simp (disch := omega) only [updN_n]) (fun u hu => ?_)) (fun k k1 => by simp (disch := omega) only [sf_ne]) (by simp (disch := omega) only [sf_ne]) (by simp (disch := omega) only [updN_n]) (by simp (disch := omega) only [updN_n]), mr.up _ _, d.win (fun k k1 => by simp (disch := omega) only [updN_n]) (fun u hu => ?_) (fun c c1 c2 => by rw [cntC_up (by omega)]; exact d.2.2.2.2.2.2.2 c c1 c2), v.ab d (fun k k1 k2 => by simp (disch := omega) only [updN_n])⟩
      · have e := h.2.2.1 u hu
        by_cases q : u = w
        · subst q
          simp (disch := omega) only [nI_add, updN_n, updN_e, sf_ne, sf_e, sf_j]
          exact ⟨e.1, e.2.1, e.2.2.1, trivial⟩
        · simp (disch := omega) only [nI_add, updN_n, updN_e, sf_ne, sf_e, sf_j]
          exact e
      · have e := d.2.2.1 u hu
        by_cases q : u = w
        · subst q
          simp (disch := omega) only [nI_add, updN_n, updN_e, sf_ne, sf_e, sf_j]
          exact ⟨e.1, e.2.1, e.2.2.1, ho⟩
        · simp (disch := omega) only [nI_add, updN_n, updN_e, sf_ne, sf_e, sf_j]
          exact e
    · simp (disch := omega) only [i_lit, l_0, l_1, l_2, l_3, l_5, l_6, l_8, l_9, l_23, l_24, l_48, l_57, l_69, l_100, in_e, ci_e, lt_t, lt_f, le_t, le_f, eq_t, eq_f, nI_add, Nat.add_zero, xl_t, xl_f, xg_t, xg_f, xle_t, xle_f, xge_t, xge_f, xe_f, ci_t, ci_f, cx_t, cx_f, cn_t, cn_f, cp_t, cp_f, vi_t, cl_nI, c_er, m_er, eq_self, true_and, and_true, true_implies, false_implies, implies_true, not_true_eq_false, not_false_eq_true, true_or, or_true, forall_eq, P_X11_swell, P_X11_isWindow, P_X12_swell, P_X12_isWindow, f0, g0]
      exact hE 1 (by omega)
    · simp (disch := omega) only [i_lit, l_0, l_1, l_2, l_3, l_5, l_6, l_8, l_9, l_23, l_24, l_48, l_57, l_69, l_100, in_e, ci_e, lt_t, lt_f, le_t, le_f, eq_t, eq_f, nI_add, Nat.add_zero, xl_t, xl_f, xg_t, xg_f, xle_t, xle_f, xge_t, xge_f, xe_f, ci_t, ci_f, cx_t, cx_f, cn_t, cn_f, cp_t, cp_f, vi_t, cl_nI, c_er, m_er, eq_self, true_and, and_true, true_implies, false_implies, implies_true, not_true_eq_false, not_false_eq_true, true_or, or_true, forall_eq, P_X11_swell, P_X11_isWindow, P_X12_swell, P_X12_isWindow, f0, g0]
      exact hE 1 (by omega)
  · simp (disch := omega) only [i_lit, l_0, l_1, l_2, l_3, l_5, l_6, l_8, l_9, l_23, l_24, l_48, l_57, l_69, l_100, in_e, ci_e, lt_t, lt_f, le_t, le_f, eq_t, eq_f, nI_add, Nat.add_zero, xl_t, xl_f, xg_t, xg_f, xle_t, xle_f, xge_t, xge_f, xe_f, ci_t, ci_f, cx_t, cx_f, cn_t, cn_f, cp_t, cp_f, vi_t, cl_nI, c_er, m_er, eq_self, true_and, and_true, true_implies, false_implies, implies_true, not_true_eq_false, not_false_eq_true, true_or, or_true, forall_eq, P_X11_swell, P_X11_isWindow, P_X12_swell, P_X12_isWindow, f0, g0]
    exact hE 1 (by omega)
  · simp (disch := omega) only [i_lit, l_0, l_1, l_2, l_3, l_5, l_6, l_8, l_9, l_23, l_24, l_48, l_57, l_69, l_100, in_e, ci_e, lt_t, lt_f, le_t, le_f, eq_t, eq_f, nI_add, Nat.add_zero, xl_t, xl_f, xg_t, xg_f, xle_t, xle_f, xge_t, xge_f, xe_f, ci_t, ci_f, cx_t, cx_f, cn_t, cn_f, cp_t, cp_f, vi_t, cl_nI, c_er, m_er, eq_self, true_and, and_true, true_implies, false_implies, implies_true, not_true_eq_false, not_false_eq_true, true_or, or_true, forall_eq, P_X11_swell, P_X11_isWindow, P_X12_swell, P_X12_isWindow, f0, g0]
    exact hE 1 (by omega)
theorem lo_7 {n K : Nat} {Mc Mm : Mem} (a1 a2 a3 a4 a5 : Int32) (hn : n < 512) (hI : Inv n K Mc Mm) : LO_7 Inv n K Mc Mm a1 a2 a3 a4 a5 := by
  have hE := hI.er hn
  have hU := hI.up hn
  obtain ⟨a, b, V, W, F, t, im, hb, mo, ⟨hB, mr, d, v⟩, i1, i2⟩ := hI
  have h := hB.1
  have tr := hB.2.1
  have kd := hB.2.2
  have c := hb.cx mo
  have d0 := d.1.1
  have d1 := d.1.2.1
  have d2 := d.1.2.2
  have dh := d.2.1
  have dt := d.2.2.2.2.1
  have f0 : Mc 30 0 = nI (a 0) := h.1.1
  have f1 : Mc 30 1 = nI (a 1) := h.1.2.1
  have f2 : Mc 30 2 = nI (a 2) := h.1.2.2
  have g0 : Mm 1 0 = nI (a 0) := mr 0 (by omega)
  have g1 : Mm 1 1 = nI (a 1) := mr 1 (by omega)
  have g2 : Mm 1 2 = nI (a 2) := mr 2 (by omega)
  unfold LO_7
  rcases rngl a1 (a 0) (by omega) with ⟨x, hx, rfl⟩ | xx | xx
  · rcases rngl a2 (a 0) (by omega) with ⟨y, hy, rfl⟩ | xy | xy
    · simp (disch := omega) only [i_lit, l_0, l_1, l_2, l_3, l_5, l_6, l_8, l_9, l_23, l_24, l_48, l_57, l_69, l_100, in_e, ci_e, lt_t, lt_f, le_t, le_f, eq_t, eq_f, nI_add, Nat.add_zero, xl_t, xl_f, xg_t, xg_f, xle_t, xle_f, xge_t, xge_f, xe_f, ci_t, ci_f, cx_t, cx_f, cn_t, cn_f, cp_t, cp_f, vi_t, cl_nI, c_er, m_er, eq_self, true_and, and_true, true_implies, false_implies, implies_true, not_true_eq_false, not_false_eq_true, true_or, or_true, forall_eq, P_X11_pull, P_X11_isWindow, P_X12_pull, P_X12_isWindow, f0, g0]
      refine c_isLocked h d (fun q => ?_) (fun q => ?_)
      · simp (disch := omega) only [i_lit, l_0, l_1, l_2, l_3, l_5, l_6, l_8, l_9, l_23, l_24, l_48, l_57, l_69, l_100, in_e, ci_e, lt_t, lt_f, le_t, le_f, eq_t, eq_f, nI_add, Nat.add_zero, xl_t, xl_f, xg_t, xg_f, xle_t, xle_f, xge_t, xge_f, xe_f, ci_t, ci_f, cx_t, cx_f, cn_t, cn_f, cp_t, cp_f, vi_t, cl_nI, c_er, m_er, eq_self, true_and, and_true, true_implies, false_implies, implies_true, not_true_eq_false, not_false_eq_true, true_or, or_true, forall_eq, P_X11_pull, P_X11_isWindow, P_X12_pull, P_X12_isWindow, f0, g0]
        refine m_isLocked mr d (fun q => ?_) (fun q2 => absurd q q2)
        simp (disch := omega) only [i_lit, l_0, l_1, l_2, l_3, l_5, l_6, l_8, l_9, l_23, l_24, l_48, l_57, l_69, l_100, in_e, ci_e, lt_t, lt_f, le_t, le_f, eq_t, eq_f, nI_add, Nat.add_zero, xl_t, xl_f, xg_t, xg_f, xle_t, xle_f, xge_t, xge_f, xe_f, ci_t, ci_f, cx_t, cx_f, cn_t, cn_f, cp_t, cp_f, vi_t, cl_nI, c_er, m_er, eq_self, true_and, and_true, true_implies, false_implies, implies_true, not_true_eq_false, not_false_eq_true, true_or, or_true, forall_eq]
        exact hE 3 (by omega)
      · simp (disch := omega) only [i_lit, l_0, l_1, l_2, l_3, l_5, l_6, l_8, l_9, l_23, l_24, l_48, l_57, l_69, l_100, in_e, ci_e, lt_t, lt_f, le_t, le_f, eq_t, eq_f, nI_add, Nat.add_zero, xl_t, xl_f, xg_t, xg_f, xle_t, xle_f, xge_t, xge_f, xe_f, ci_t, ci_f, cx_t, cx_f, cn_t, cn_f, cp_t, cp_f, vi_t, cl_nI, c_er, m_er, eq_self, true_and, and_true, true_implies, false_implies, implies_true, not_true_eq_false, not_false_eq_true, true_or, or_true, forall_eq]
        refine c_canPull h d hx hy (fun cp => ?_) (fun cp => ?_)
        · simp (disch := omega) only [i_lit, l_0, l_1, l_2, l_3, l_5, l_6, l_8, l_9, l_23, l_24, l_48, l_57, l_69, l_100, in_e, ci_e, lt_t, lt_f, le_t, le_f, eq_t, eq_f, nI_add, Nat.add_zero, xl_t, xl_f, xg_t, xg_f, xle_t, xle_f, xge_t, xge_f, xe_f, ci_t, ci_f, cx_t, cx_f, cn_t, cn_f, cp_t, cp_f, vi_t, cl_nI, c_er, m_er, eq_self, true_and, and_true, true_implies, false_implies, implies_true, not_true_eq_false, not_false_eq_true, true_or, or_true, forall_eq]
          refine h.pl d hx hy cp.1 cp.2.2.2.2.2.2 (fun M1 k1 h1 => ?_)
          have e2 : M1 32 x = nI (plA a x y (12 + 4 * x + 1)) := (h1.2.2.1 x (by rw [plA_lo (by omega)]; exact hx)).2.1
          simp (disch := omega) only [i_lit, l_0, l_1, l_2, l_3, l_5, l_6, l_8, l_9, l_23, l_24, l_48, l_57, l_69, l_100, in_e, ci_e, lt_t, lt_f, le_t, le_f, eq_t, eq_f, nI_add, Nat.add_zero, xl_t, xl_f, xg_t, xg_f, xle_t, xle_f, xge_t, xge_f, xe_f, ci_t, ci_f, cx_t, cx_f, cn_t, cn_f, cp_t, cp_f, vi_t, cl_nI, c_er, m_er, eq_self, true_and, and_true, true_implies, false_implies, implies_true, not_true_eq_false, not_false_eq_true, true_or, or_true, forall_eq, P_X12_pull, P_X12_isWindow, f0, g0, e2]
          refine m_isLocked mr d (fun q2 => absurd q2 q) (fun q2 => ?_)
          simp (disch := omega) only [i_lit, l_0, l_1, l_2, l_3, l_5, l_6, l_8, l_9, l_23, l_24, l_48, l_57, l_69, l_100, in_e, ci_e, lt_t, lt_f, le_t, le_f, eq_t, eq_f, nI_add, Nat.add_zero, xl_t, xl_f, xg_t, xg_f, xle_t, xle_f, xge_t, xge_f, xe_f, ci_t, ci_f, cx_t, cx_f, cn_t, cn_f, cp_t, cp_f, vi_t, cl_nI, c_er, m_er, eq_self, true_and, and_true, true_implies, false_implies, implies_true, not_true_eq_false, not_false_eq_true, true_or, or_true, forall_eq]
          refine m_canPull mr d hx hy (fun cp => ?_) (fun cp2 => absurd cp cp2)
          simp (disch := omega) only [i_lit, l_0, l_1, l_2, l_3, l_5, l_6, l_8, l_9, l_23, l_24, l_48, l_57, l_69, l_100, in_e, ci_e, lt_t, lt_f, le_t, le_f, eq_t, eq_f, nI_add, Nat.add_zero, xl_t, xl_f, xg_t, xg_f, xle_t, xle_f, xge_t, xge_f, xe_f, ci_t, ci_f, cx_t, cx_f, cn_t, cn_f, cp_t, cp_f, vi_t, cl_nI, c_er, m_er, eq_self, true_and, and_true, true_implies, false_implies, implies_true, not_true_eq_false, not_false_eq_true, true_or, or_true, forall_eq]
          refine mr.pl (by omega) (by omega) cp.1 cp.2.2.2.2.2.2 (fun M2 k2 h2 => ?_)
          simp (disch := omega) only [i_lit, l_0, l_1, l_2, l_3, l_5, l_6, l_8, l_9, l_23, l_24, l_48, l_57, l_69, l_100, in_e, ci_e, lt_t, lt_f, le_t, le_f, eq_t, eq_f, nI_add, Nat.add_zero, xl_t, xl_f, xg_t, xg_f, xle_t, xle_f, xge_t, xge_f, xe_f, ci_t, ci_f, cx_t, cx_f, cn_t, cn_f, cp_t, cp_f, vi_t, cl_nI, c_er, m_er, eq_self, true_and, and_true, true_implies, false_implies, implies_true, not_true_eq_false, not_false_eq_true, true_or, or_true, forall_eq, m_its h2]
          exact Inv.go hn hb i1 i2 (FC.of (fun k q1 q2 => k1 k (by omega))) (FMo.of k2) (mo.keep (k1 2 (by omega))) ⟨hB.up h1 (fun k q => k1 k (by omega)) (k1 _ (by omega)) (plA_hi (by omega) (by omega) (by omega)) (plA_hi (by omega) (by omega) (by omega)), h2, d.pl hx hy cp, v.ab d (fun k q1 q2 => plA_hi (by omega) (by omega) (by omega))⟩
        · simp (disch := omega) only [i_lit, l_0, l_1, l_2, l_3, l_5, l_6, l_8, l_9, l_23, l_24, l_48, l_57, l_69, l_100, in_e, ci_e, lt_t, lt_f, le_t, le_f, eq_t, eq_f, nI_add, Nat.add_zero, xl_t, xl_f, xg_t, xg_f, xle_t, xle_f, xge_t, xge_f, xe_f, ci_t, ci_f, cx_t, cx_f, cn_t, cn_f, cp_t, cp_f, vi_t, cl_nI, c_er, m_er, eq_self, true_and, and_true, true_implies, false_implies, implies_true, not_true_eq_false, not_false_eq_true, true_or, or_true, forall_eq, P_X12_pull, P_X12_isWindow, f0, g0]
          refine m_isLocked mr d (fun q2 => absurd q2 q) (fun q2 => ?_)
          simp (disch := omega) only [i_lit, l_0, l_1, l_2, l_3, l_5, l_6, l_8, l_9, l_23, l_24, l_48, l_57, l_69, l_100, in_e, ci_e, lt_t, lt_f, le_t, le_f, eq_t, eq_f, nI_add, Nat.add_zero, xl_t, xl_f, xg_t, xg_f, xle_t, xle_f, xge_t, xge_f, xe_f, ci_t, ci_f, cx_t, cx_f, cn_t, cn_f, cp_t, cp_f, vi_t, cl_nI, c_er, m_er, eq_self, true_and, and_true, true_implies, false_implies, implies_true, not_true_eq_false, not_false_eq_true, true_or, or_true, forall_eq]
          refine m_canPull mr d hx hy (fun cp2 => absurd cp2 cp) (fun cp2 => ?_)
          simp (disch := omega) only [i_lit, l_0, l_1, l_2, l_3, l_5, l_6, l_8, l_9, l_23, l_24, l_48, l_57, l_69, l_100, in_e, ci_e, lt_t, lt_f, le_t, le_f, eq_t, eq_f, nI_add, Nat.add_zero, xl_t, xl_f, xg_t, xg_f, xle_t, xle_f, xge_t, xge_f, xe_f, ci_t, ci_f, cx_t, cx_f, cn_t, cn_f, cp_t, cp_f, vi_t, cl_nI, c_er, m_er, eq_self, true_and, and_true, true_implies, false_implies, implies_true, not_true_eq_false, not_false_eq_true, true_or, or_true, forall_eq]
          exact hE 3 (by omega)
    · simp (disch := omega) only [i_lit, l_0, l_1, l_2, l_3, l_5, l_6, l_8, l_9, l_23, l_24, l_48, l_57, l_69, l_100, in_e, ci_e, lt_t, lt_f, le_t, le_f, eq_t, eq_f, nI_add, Nat.add_zero, xl_t, xl_f, xg_t, xg_f, xle_t, xle_f, xge_t, xge_f, xe_f, ci_t, ci_f, cx_t, cx_f, cn_t, cn_f, cp_t, cp_f, vi_t, cl_nI, c_er, m_er, eq_self, true_and, and_true, true_implies, false_implies, implies_true, not_true_eq_false, not_false_eq_true, true_or, or_true, forall_eq, P_X11_pull, P_X11_isWindow, P_X12_pull, P_X12_isWindow, f0, g0]
      exact hE 1 (by omega)
    · simp (disch := omega) only [i_lit, l_0, l_1, l_2, l_3, l_5, l_6, l_8, l_9, l_23, l_24, l_48, l_57, l_69, l_100, in_e, ci_e, lt_t, lt_f, le_t, le_f, eq_t, eq_f, nI_add, Nat.add_zero, xl_t, xl_f, xg_t, xg_f, xle_t, xle_f, xge_t, xge_f, xe_f, ci_t, ci_f, cx_t, cx_f, cn_t, cn_f, cp_t, cp_f, vi_t, cl_nI, c_er, m_er, eq_self, true_and, and_true, true_implies, false_implies, implies_true, not_true_eq_false, not_false_eq_true, true_or, or_true, forall_eq, P_X11_pull, P_X11_isWindow, P_X12_pull, P_X12_isWindow, f0, g0]
      exact hE 1 (by omega)
  · simp (disch := omega) only [i_lit, l_0, l_1, l_2, l_3, l_5, l_6, l_8, l_9, l_23, l_24, l_48, l_57, l_69, l_100, in_e, ci_e, lt_t, lt_f, le_t, le_f, eq_t, eq_f, nI_add, Nat.add_zero, xl_t, xl_f, xg_t, xg_f, xle_t, xle_f, xge_t, xge_f, xe_f, ci_t, ci_f, cx_t, cx_f, cn_t, cn_f, cp_t, cp_f, vi_t, cl_nI, c_er, m_er, eq_self, true_and, and_true, true_implies, false_implies, implies_true, not_true_eq_false, not_false_eq_true, true_or, or_true, forall_eq, P_X11_pull, P_X11_isWindow, P_X12_pull, P_X12_isWindow, f0, g0]
    exact hE 1 (by omega)
  · simp (disch := omega) only [i_lit, l_0, l_1, l_2, l_3, l_5, l_6, l_8, l_9, l_23, l_24, l_48, l_57, l_69, l_100, in_e, ci_e, lt_t, lt_f, le_t, le_f, eq_t, eq_f, nI_add, Nat.add_zero, xl_t, xl_f, xg_t, xg_f, xle_t, xle_f, xge_t, xge_f, xe_f, ci_t, ci_f, cx_t, cx_f, cn_t, cn_f, cp_t, cp_f, vi_t, cl_nI, c_er, m_er, eq_self, true_and, and_true, true_implies, false_implies, implies_true, not_true_eq_false, not_false_eq_true, true_or, or_true, forall_eq, P_X11_pull, P_X11_isWindow, P_X12_pull, P_X12_isWindow, f0, g0]
    exact hE 1 (by omega)
theorem Inv.sc {n K t im : Nat} {F : Ft} {Mc Mm Mc' Mm' : Mem} {a b : Nat → Nat} {V W : Vt} (hn : n < 512) (hb : Ivb n K t im) (hs : Iv0 K t F Mc Mm a V) (i1 : Iv1 K t F Mc Mm b W im) (i2 : Iv2 Mc Mm t im) (sc : Cs Mc Mc') (mo : MOK t F Mc') (sm : Ms Mm Mm') : Inv (n + 1) K Mc' Mm' :=
  Inv.go hn hb i1 i2 sc.fc sm.fm mo ⟨hs.1.keep (fun k k1 k2 => sc k (by omega) (fun j => by omega)) (fun k k1 k2 => sc k (by omega) k2), hs.2.1.ms sm, hs.2.2⟩
theorem lo_9 {n K : Nat} {Mc Mm : Mem} (a1 a2 a3 a4 a5 : Int32) (hn : n < 512) (hI : Inv n K Mc Mm) : LO_9 Inv n K Mc Mm a1 a2 a3 a4 a5 := by
  have hE := hI.er hn
  have hU := hI.up hn
  obtain ⟨a, b, V, W, F, t, im, hb, mo, ⟨hB, mr, d, v⟩, i1, i2⟩ := hI
  have h := hB.1
  have tr := hB.2.1
  have kd := hB.2.2
  have c := hb.cx mo
  have d0 := d.1.1
  have d1 := d.1.2.1
  have d2 := d.1.2.2
  have dh := d.2.1
  have dt := d.2.2.2.2.1
  have f0 : Mc 30 0 = nI (a 0) := h.1.1
  have f1 : Mc 30 1 = nI (a 1) := h.1.2.1
  have f2 : Mc 30 2 = nI (a 2) := h.1.2.2
  have g0 : Mm 1 0 = nI (a 0) := mr 0 (by omega)
  have g1 : Mm 1 1 = nI (a 1) := mr 1 (by omega)
  have g2 : Mm 1 2 = nI (a 2) := mr 2 (by omega)
  unfold LO_9
  rcases rng a1 8 (by omega) with ⟨r, hr, rfl⟩ | xr | xr
  · simp (disch := omega) only [i_lit, l_0, l_1, l_2, l_3, l_5, l_6, l_8, l_9, l_23, l_24, l_48, l_57, l_69, l_100, in_e, ci_e, lt_t, lt_f, le_t, le_f, eq_t, eq_f, nI_add, Nat.add_zero, xl_t, xl_f, xg_t, xg_f, xle_t, xle_f, xge_t, xge_f, xe_f, ci_t, ci_f, cx_t, cx_f, cn_t, cn_f, cp_t, cp_f, vi_t, cl_nI, c_er, m_er, eq_self, true_and, and_true, true_implies, false_implies, implies_true, not_true_eq_false, not_false_eq_true, true_or, or_true, forall_eq, P_X11_air, P_X11_isRoom, P_X12_air]
    refine c_airOf (Or.inl rfl) h tr c d hr (fun M1 s1 c1 => ?_)
    refine m_airOf mr d v hr (fun M2 s2 => ⟨rfl, ?_⟩)
    exact Inv.sc hn hb ⟨hB, mr, d, v⟩ i1 i2 s1 c1.1 s2
  · simp (disch := omega) only [i_lit, l_0, l_1, l_2, l_3, l_5, l_6, l_8, l_9, l_23, l_24, l_48, l_57, l_69, l_100, in_e, ci_e, lt_t, lt_f, le_t, le_f, eq_t, eq_f, nI_add, Nat.add_zero, xl_t, xl_f, xg_t, xg_f, xle_t, xle_f, xge_t, xge_f, xe_f, ci_t, ci_f, cx_t, cx_f, cn_t, cn_f, cp_t, cp_f, vi_t, cl_nI, c_er, m_er, eq_self, true_and, and_true, true_implies, false_implies, implies_true, not_true_eq_false, not_false_eq_true, true_or, or_true, forall_eq, P_X11_air, P_X11_isRoom, P_X12_air]
    exact hE 1 (by omega)
  · simp (disch := omega) only [i_lit, l_0, l_1, l_2, l_3, l_5, l_6, l_8, l_9, l_23, l_24, l_48, l_57, l_69, l_100, in_e, ci_e, lt_t, lt_f, le_t, le_f, eq_t, eq_f, nI_add, Nat.add_zero, xl_t, xl_f, xg_t, xg_f, xle_t, xle_f, xge_t, xge_f, xe_f, ci_t, ci_f, cx_t, cx_f, cn_t, cn_f, cp_t, cp_f, vi_t, cl_nI, c_er, m_er, eq_self, true_and, and_true, true_implies, false_implies, implies_true, not_true_eq_false, not_false_eq_true, true_or, or_true, forall_eq, P_X11_air, P_X11_isRoom, P_X12_air]
    exact hE 1 (by omega)
