/-! ===== windows, cords, one by one ===== -/
theorem DOK.win {a a' : Nat → Nat} (d : DOK a) (ha : ∀ k, (k < 12 ∨ 44 ≤ k) → a' k = a k) (hw : ∀ w, w < a 0 → a' (12 + 4 * w) ≤ 8 ∧ a' (12 + 4 * w + 1) ≤ 9 ∧ a' (12 + 4 * w + 2) ≤ a 1 ∧ a' (12 + 4 * w + 3) ≤ 1) (hc : ∀ c, 0 < c → c ≤ a 1 → cntC a' c (a 0) ≤ 3) : DOK a' := by
  unfold DOK
  rw [ha 0 (by omega), ha 1 (by omega), ha 2 (by omega), ha 3 (by omega), ha 4 (by omega), ha 5 (by omega), ha 6 (by omega), ha 7 (by omega), ha 9 (by omega), ha 10 (by omega), ha 90 (by omega), ha 91 (by omega)]
  refine ⟨d.1, d.2.1, hw, fun l hl => ?_, d.2.2.2.2.1, fun i hi => ?_, fun i hi => ?_, hc⟩
  · rw [ha (44 + 3 * l) (by omega), ha (44 + 3 * l + 1) (by omega), ha (44 + 3 * l + 2) (by omega)]
    exact d.2.2.2.1 l hl
  · rw [ha (212 + i) (by omega)]
    exact d.2.2.2.2.2.1 i hi
  · rw [ha (112 + i) (by omega)]
    exact d.2.2.2.2.2.2.1 i hi
theorem lo_0 {n K : Nat} {Mc Mm : Mem} (a1 a2 a3 a4 a5 : Int32) (hn : n < 512) (hI : Inv n K Mc Mm) : LO_0 Inv n K Mc Mm a1 a2 a3 a4 a5 := by
  have hE := hI.er hn
  obtain ⟨a, b, V, W, F, t, im, hb, mo, ⟨hB, mr, d, v⟩, i1, i2⟩ := hI
  have h := hB.1
  have d0 := d.1.1
  have d1 := d.1.2.1
  have f0 : Mc 30 0 = nI (a 0) := h.1.1
  have g0 : Mm 1 0 = nI (a 0) := mr 0 (by omega)
  unfold LO_0
  rcases rng a1 8 (by omega) with ⟨r, hr, rfl⟩ | xr | xr
  · rcases rng a2 9 (by omega) with ⟨o, ho, rfl⟩ | xo | xo
    · by_cases q : a 0 < 8
      · simp (disch := omega) only [i_lit, l_0, l_1, l_2, l_3, l_5, l_6, l_8, l_9, l_23, l_24, l_48, l_57, l_69, l_100, in_e, ci_e, lt_t, lt_f, le_t, le_f, eq_t, eq_f, nI_add, Nat.add_zero, xl_t, xl_f, xg_t, xg_f, xle_t, xle_f, xge_t, xge_f, xe_f, ci_t, ci_f, cx_t, cx_f, cn_t, cn_f, cp_t, cp_f, vi_t, cl_nI, c_er, m_er, eq_self, true_and, and_true, true_implies, false_implies, implies_true, not_true_eq_false, not_false_eq_true, true_or, or_true, forall_eq, P_X11_window, P_X11_isRoom, P_X11_isNotch, P_X2_addWindow, P_X12_window, f0, g0, m_puts, sf_ne]
        refine Inv.go (a' := updN (updN (updN (updN (updN a 0 (a 0 + 1)) (12 + 4 * a 0) r) (12 + 4 * a 0 + 1) o) (12 + 4 * a 0 + 2) 0) (12 + 4 * a 0 + 3) 0) (V' := V) hn hb i1 i2 (FC.of (fun k k1 k2 => by simp (disch := omega) only [sf_ne])) (FMo.of (fun k k1 => by simp (disch := omega) only [sf_ne])) (mo.keep (by simp (disch := omega) only [sf_ne])) ⟨hB.up ?_ (fun k k1 => by simp (disch := omega) only [sf_ne]) (by simp (disch := omega) only [sf_ne]) (by simp (disch := omega) only [updN_n]) (by simp (disch := omega) only [updN_n]), ?_, ?_, v.ab d (fun k k1 k2 => by simp (disch := omega) only [updN_n])⟩
        · unfold HR
          simp (disch := omega) only [nI_add, updN_n, updN_e, sf_ne, sf_e, sf_j]
          refine ⟨⟨trivial, h.1.2⟩, h.2.1, fun w hw => ?_, h.2.2.2.1, h.2.2.2.2.1, h.2.2.2.2.2⟩
          by_cases e : w = a 0
          · subst e
            simp (disch := omega) only [nI_add, updN_n, updN_e, sf_ne, sf_e, sf_j, true_and, and_true]
            decide
          · simp (disch := omega) only [nI_add, updN_n, updN_e, sf_ne, sf_e, sf_j]
            exact h.2.2.1 w (by omega)
        · exact ((((mr.up 0 (a 0 + 1)).up (12 + 4 * a 0) r).up (12 + 4 * a 0 + 1) o).up (12 + 4 * a 0 + 2) 0).up (12 + 4 * a 0 + 3) 0
        · unfold DOK
          simp (disch := omega) only [nI_add, updN_n, updN_e, sf_ne, sf_e, sf_j]
          refine ⟨⟨by omega, d.1.2⟩, d.2.1, fun w hw => ?_, d.2.2.2.1, d.2.2.2.2.1, d.2.2.2.2.2.1, d.2.2.2.2.2.2.1, fun c c1 c2 => ?_⟩
          · by_cases e : w = a 0
            · subst e
              simp (disch := omega) only [nI_add, updN_n, updN_e, sf_ne, sf_e, sf_j]
              omega
            · simp (disch := omega) only [nI_add, updN_n, updN_e, sf_ne, sf_e, sf_j]
              exact d.2.2.1 w (by omega)
          · unfold cntC
            rw [cntC_eq (b := a) _ (fun i hi => by simp (disch := omega) only [updN_n])]
            have := d.2.2.2.2.2.2.2 c c1 c2
            simp (disch := omega) only [nI_add, updN_n, updN_e, sf_ne, sf_e, sf_j]
            rw [if_neg (by omega)]
            exact this
      · simp (disch := omega) only [i_lit, l_0, l_1, l_2, l_3, l_5, l_6, l_8, l_9, l_23, l_24, l_48, l_57, l_69, l_100, in_e, ci_e, lt_t, lt_f, le_t, le_f, eq_t, eq_f, nI_add, Nat.add_zero, xl_t, xl_f, xg_t, xg_f, xle_t, xle_f, xge_t, xge_f, xe_f, ci_t, ci_f, cx_t, cx_f, cn_t, cn_f, cp_t, cp_f, vi_t, cl_nI, c_er, m_er, eq_self, true_and, and_true, true_implies, false_implies, implies_true, not_true_eq_false, not_false_eq_true, true_or, or_true, forall_eq, P_X11_window, P_X11_isRoom, P_X11_isNotch, P_X12_window, f0, g0]
        exact hE 4 (by omega)
    · simp (disch := omega) only [i_lit, l_0, l_1, l_2, l_3, l_5, l_6, l_8, l_9, l_23, l_24, l_48, l_57, l_69, l_100, in_e, ci_e, lt_t, lt_f, le_t, le_f, eq_t, eq_f, nI_add, Nat.add_zero, xl_t, xl_f, xg_t, xg_f, xle_t, xle_f, xge_t, xge_f, xe_f, ci_t, ci_f, cx_t, cx_f, cn_t, cn_f, cp_t, cp_f, vi_t, cl_nI, c_er, m_er, eq_self, true_and, and_true, true_implies, false_implies, implies_true, not_true_eq_false, not_false_eq_true, true_or, or_true, forall_eq, P_X11_window, P_X11_isRoom, P_X11_isNotch, P_X12_window, f0, g0]
      exact hE 1 (by omega)
    · simp (disch := omega) only [i_lit, l_0, l_1, l_2, l_3, l_5, l_6, l_8, l_9, l_23, l_24, l_48, l_57, l_69, l_100, in_e, ci_e, lt_t, lt_f, le_t, le_f, eq_t, eq_f, nI_add, Nat.add_zero, xl_t, xl_f, xg_t, xg_f, xle_t, xle_f, xge_t, xge_f, xe_f, ci_t, ci_f, cx_t, cx_f, cn_t, cn_f, cp_t, cp_f, vi_t, cl_nI, c_er, m_er, eq_self, true_and, and_true, true_implies, false_implies, implies_true, not_true_eq_false, not_false_eq_true, true_or, or_true, forall_eq, P_X11_window, P_X11_isRoom, P_X11_isNotch, P_X12_window, f0, g0]
      exact hE 1 (by omega)
  · simp (disch := omega) only [i_lit, l_0, l_1, l_2, l_3, l_5, l_6, l_8, l_9, l_23, l_24, l_48, l_57, l_69, l_100, in_e, ci_e, lt_t, lt_f, le_t, le_f, eq_t, eq_f, nI_add, Nat.add_zero, xl_t, xl_f, xg_t, xg_f, xle_t, xle_f, xge_t, xge_f, xe_f, ci_t, ci_f, cx_t, cx_f, cn_t, cn_f, cp_t, cp_f, vi_t, cl_nI, c_er, m_er, eq_self, true_and, and_true, true_implies, false_implies, implies_true, not_true_eq_false, not_false_eq_true, true_or, or_true, forall_eq, P_X11_window, P_X11_isRoom, P_X12_window]
    exact hE 1 (by omega)
  · simp (disch := omega) only [i_lit, l_0, l_1, l_2, l_3, l_5, l_6, l_8, l_9, l_23, l_24, l_48, l_57, l_69, l_100, in_e, ci_e, lt_t, lt_f, le_t, le_f, eq_t, eq_f, nI_add, Nat.add_zero, xl_t, xl_f, xg_t, xg_f, xle_t, xle_f, xge_t, xge_f, xe_f, ci_t, ci_f, cx_t, cx_f, cn_t, cn_f, cp_t, cp_f, vi_t, cl_nI, c_er, m_er, eq_self, true_and, and_true, true_implies, false_implies, implies_true, not_true_eq_false, not_false_eq_true, true_or, or_true, forall_eq, P_X11_window, P_X11_isRoom, P_X12_window]
    exact hE 1 (by omega)
