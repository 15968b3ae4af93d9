/-! ===== lodgers ===== -/
theorem DOK.lod {a a' : Nat → Nat} (d : DOK a) (ha : ∀ k, (k < 44 ∨ 90 ≤ k) → a' k = a k) (hl : ∀ l, l < a 2 → a' (44 + 3 * l) ≤ 6 ∧ a' (44 + 3 * l + 1) ≤ 9 ∧ a' (44 + 3 * l + 2) ≤ 8) : DOK a' := by
  have d0 := d.1.1
  unfold DOK
  rw [ha 0 (by omega), ha 1 (by omega), ha 2 (by omega), ha 3 (by omega), ha 4 (by omega), ha 5 (by omega), ha 6 (by omega), ha 7 (by omega), ha 9 (by omega), ha 10 (by omega), ha 90 (by omega), ha 91 (by omega)]
  refine ⟨d.1, d.2.1, fun w hw => ?_, hl, d.2.2.2.2.1, fun i hi => ?_, fun i hi => ?_, fun c c1 c2 => ?_⟩
  · rw [ha (12 + 4 * w) (by omega), ha (12 + 4 * w + 1) (by omega), ha (12 + 4 * w + 2) (by omega), ha (12 + 4 * w + 3) (by omega)]
    exact d.2.2.1 w hw
  · rw [ha (212 + i) (by omega)]
    exact d.2.2.2.2.2.1 i hi
  · rw [ha (112 + i) (by omega)]
    exact d.2.2.2.2.2.2.1 i hi
  · rw [cntC_eq (b := a) _ (fun i hi => ha _ (by omega))]
    exact d.2.2.2.2.2.2.2 c c1 c2
theorem kd_up {M M' : Mem} {l k : Nat} (kd : KD 30 M) (hk : k ≤ 6) (e : ∀ i, i ≠ l → M' 35 i = M 35 i) (el : M' 35 l = nI (15 + k)) : KD 30 M' := fun i hi => by
  by_cases q : i = l
  · subst q
    rw [show M' (30 + 5) i = nI (15 + k) from el]
    exact kd15 hk
  · rw [show M' (30 + 5) i = M (30 + 5) i from e i q]
    exact kd i hi
theorem HB.upk {K t : Nat} {F : Ft} {M M' : Mem} {a a' : Nat → Nat} {V : Vt} (h : HB K t F 30 M a V) (h' : HR 30 M' a') (hk : ∀ k, (k < 30 ∨ 42 ≤ k) → M' k = M k) (e5 : KD 30 M') (e0 : a' 90 = a 90) (e1 : a' 91 = a 91) : HB K t F 30 M' a' V :=
  ⟨h', (h.2.1.keep (hk _ (by omega)) (fun k k1 _ => hk k (by omega))).ab e0 e1, e5⟩
theorem div10 {k : Nat} (h : k < 2147483648) : nI k / nI 10 = nI (k / 10) := pk_div (by omega) (by omega) (by omega)
theorem rem10 {k : Nat} (h : k < 2147483648) : nI k - nI (k / 10) * nI 10 = nI (k % 10) := by
  rw [← div10 h]
  exact pk_rem (by omega) (by omega) (by omega)
theorem lo_10 {n K : Nat} {Mc Mm : Mem} (a1 a2 a3 a4 a5 : Int32) (hn : n < 512) (hI : Inv n K Mc Mm) : LO_10 Inv n K Mc Mm a1 a2 a3 a4 a5 := by
  have hE := hI.er hn
  have hU := hI.up hn
  obtain ⟨a, b, V, W, F, t, im, hb, mo, ⟨hB, mr, d, v⟩, i1, i2⟩ := hI
  have h := hB.1
  have tr := hB.2.1
  have kd := hB.2.2
  have c := hb.cx mo
  have d0 := d.1.1
  have d1 := d.1.2.1
  have d2 := d.1.2.2
  have dh := d.2.1
  have dt := d.2.2.2.2.1
  have f0 : Mc 30 0 = nI (a 0) := h.1.1
  have f1 : Mc 30 1 = nI (a 1) := h.1.2.1
  have f2 : Mc 30 2 = nI (a 2) := h.1.2.2
  have g0 : Mm 1 0 = nI (a 0) := mr 0 (by omega)
  have g1 : Mm 1 1 = nI (a 1) := mr 1 (by omega)
  have g2 : Mm 1 2 = nI (a 2) := mr 2 (by omega)
  unfold LO_10
  rcases rng a1 69 (by omega) with ⟨k, hk, rfl⟩ | xk | xk
  · rcases rng a2 8 (by omega) with ⟨r, hr, rfl⟩ | xr | xr
    · by_cases q : a 2 < 6
      · simp (disch := omega) only [i_lit, l_0, l_1, l_2, l_3, l_5, l_6, l_8, l_9, l_23, l_24, l_48, l_57, l_69, l_100, in_e, ci_e, lt_t, lt_f, le_t, le_f, eq_t, eq_f, nI_add, Nat.add_zero, xl_t, xl_f, xg_t, xg_f, xle_t, xle_f, xge_t, xge_f, xe_f, ci_t, ci_f, cx_t, cx_f, cn_t, cn_f, cp_t, cp_f, vi_t, cl_nI, c_er, m_er, eq_self, true_and, and_true, true_implies, false_implies, implies_true, not_true_eq_false, not_false_eq_true, true_or, or_true, forall_eq, P_X11_lodger, P_X11_isKindAndNumber, P_X11_isRoom, P_X2_settle, P_X12_lodger, f2, g2, m_sets, div10, rem10]
        refine Inv.go (a' := updN (updN (updN (updN a 2 (a 2 + 1)) (44 + 3 * a 2) (k / 10)) (44 + 3 * a 2 + 1) (k % 10)) (44 + 3 * a 2 + 2) r) (V' := V) hn hb i1 i2 (FC.of (fun k k1 k2 => by simp (disch := omega) only [sf_ne])) (FMo.of (fun k k1 => by simp (disch := omega) only [sf_ne])) (mo.keep (by simp (disch := omega) only [sf_ne])) ⟨hB.upk ?_ (fun k k1 => by simp (disch := omega) only [sf_ne]) (kd_up (l := a 2) (k := k / 10) kd (by omega) (fun i hi => by simp (disch := omega) only [nI_add, updN_n, updN_e, sf_ne, sf_e, sf_j]) (by simp (disch := omega) only [nI_add, updN_n, updN_e, sf_ne, sf_e, sf_j])) (by simp (disch := omega) only [updN_n]) (by simp (disch := omega) only [updN_n]), ?_, ?_, v.ab d (fun k k1 k2 => by simp (disch := omega) only [updN_n])⟩
        · unfold HR
          simp (disch := omega) only [nI_add, updN_n, updN_e, sf_ne, sf_e, sf_j]
          refine ⟨⟨h.1.1, h.1.2.1, trivial⟩, h.2.1, fun w hw => by simp (disch := omega) only [updN_n]; exact h.2.2.1 w hw, fun l hl => ?_, h.2.2.2.2.1, h.2.2.2.2.2⟩
          by_cases e : l = a 2
          · subst e
            simp (disch := omega) only [nI_add, updN_n, updN_e, sf_ne, sf_e, sf_j, true_and, and_true]
          · simp (disch := omega) only [nI_add, updN_n, updN_e, sf_ne, sf_e, sf_j]
            exact h.2.2.2.1 l (by omega)
        · exact (((mr.up 2 (a 2 + 1)).up (44 + 3 * a 2) (k / 10)).up (44 + 3 * a 2 + 1) (k % 10)).up (44 + 3 * a 2 + 2) r
        · unfold DOK
          simp (disch := omega) only [nI_add, updN_n, updN_e, sf_ne, sf_e, sf_j]
          refine ⟨⟨d.1.1, d.1.2.1, by omega⟩, d.2.1, fun w hw => by simp (disch := omega) only [updN_n]; exact d.2.2.1 w hw, fun l hl => ?_, d.2.2.2.2.1, d.2.2.2.2.2.1, d.2.2.2.2.2.2.1, fun c c1 c2 => ?_⟩
          · by_cases e : l = a 2
            · subst e
              simp (disch := omega) only [nI_add, updN_n, updN_e, sf_ne, sf_e, sf_j]
              omega
            · simp (disch := omega) only [nI_add, updN_n, updN_e, sf_ne, sf_e, sf_j]
              exact d.2.2.2.1 l (by omega)
          · rw [cntC_eq (b := a) _ (fun i hi => by simp (disch := omega) only [updN_n])]
            exact d.2.2.2.2.2.2.2 c c1 c2
      · simp (disch := omega) only [i_lit, l_0, l_1, l_2, l_3, l_5, l_6, l_8, l_9, l_23, l_24, l_48, l_57, l_69, l_100, in_e, ci_e, lt_t, lt_f, le_t, le_f, eq_t, eq_f, nI_add, Nat.add_zero, xl_t, xl_f, xg_t, xg_f, xle_t, xle_f, xge_t, xge_f, xe_f, ci_t, ci_f, cx_t, cx_f, cn_t, cn_f, cp_t, cp_f, vi_t, cl_nI, c_er, m_er, eq_self, true_and, and_true, true_implies, false_implies, implies_true, not_true_eq_false, not_false_eq_true, true_or, or_true, forall_eq, P_X11_lodger, P_X11_isKindAndNumber, P_X11_isRoom, P_X12_lodger, f2, g2]
        exact hE 4 (by omega)
    · simp (disch := omega) only [i_lit, l_0, l_1, l_2, l_3, l_5, l_6, l_8, l_9, l_23, l_24, l_48, l_57, l_69, l_100, in_e, ci_e, lt_t, lt_f, le_t, le_f, eq_t, eq_f, nI_add, Nat.add_zero, xl_t, xl_f, xg_t, xg_f, xle_t, xle_f, xge_t, xge_f, xe_f, ci_t, ci_f, cx_t, cx_f, cn_t, cn_f, cp_t, cp_f, vi_t, cl_nI, c_er, m_er, eq_self, true_and, and_true, true_implies, false_implies, implies_true, not_true_eq_false, not_false_eq_true, true_or, or_true, forall_eq, P_X11_lodger, P_X11_isKindAndNumber, P_X11_isRoom, P_X12_lodger, f2, g2]
      exact hE 1 (by omega)
    · simp (disch := omega) only [i_lit, l_0, l_1, l_2, l_3, l_5, l_6, l_8, l_9, l_23, l_24, l_48, l_57, l_69, l_100, in_e, ci_e, lt_t, lt_f, le_t, le_f, eq_t, eq_f, nI_add, Nat.add_zero, xl_t, xl_f, xg_t, xg_f, xle_t, xle_f, xge_t, xge_f, xe_f, ci_t, ci_f, cx_t, cx_f, cn_t, cn_f, cp_t, cp_f, vi_t, cl_nI, c_er, m_er, eq_self, true_and, and_true, true_implies, false_implies, implies_true, not_true_eq_false, not_false_eq_true, true_or, or_true, forall_eq, P_X11_lodger, P_X11_isKindAndNumber, P_X11_isRoom, P_X12_lodger, f2, g2]
      exact hE 1 (by omega)
  · simp (disch := omega) only [i_lit, l_0, l_1, l_2, l_3, l_5, l_6, l_8, l_9, l_23, l_24, l_48, l_57, l_69, l_100, in_e, ci_e, lt_t, lt_f, le_t, le_f, eq_t, eq_f, nI_add, Nat.add_zero, xl_t, xl_f, xg_t, xg_f, xle_t, xle_f, xge_t, xge_f, xe_f, ci_t, ci_f, cx_t, cx_f, cn_t, cn_f, cp_t, cp_f, vi_t, cl_nI, c_er, m_er, eq_self, true_and, and_true, true_implies, false_implies, implies_true, not_true_eq_false, not_false_eq_true, true_or, or_true, forall_eq, P_X11_lodger, P_X11_isKindAndNumber, P_X12_lodger]
    exact hE 1 (by omega)
  · simp (disch := omega) only [i_lit, l_0, l_1, l_2, l_3, l_5, l_6, l_8, l_9, l_23, l_24, l_48, l_57, l_69, l_100, in_e, ci_e, lt_t, lt_f, le_t, le_f, eq_t, eq_f, nI_add, Nat.add_zero, xl_t, xl_f, xg_t, xg_f, xle_t, xle_f, xge_t, xge_f, xe_f, ci_t, ci_f, cx_t, cx_f, cn_t, cn_f, cp_t, cp_f, vi_t, cl_nI, c_er, m_er, eq_self, true_and, and_true, true_implies, false_implies, implies_true, not_true_eq_false, not_false_eq_true, true_or, or_true, forall_eq, P_X11_lodger, P_X11_isKindAndNumber, P_X12_lodger]
    exact hE 1 (by omega)
theorem sb15 (k : Nat) : nI (15 + k) - nI 15 = nI k := by rw [pk_sub (by omega)]; congr 1; omega
theorem b01 (b : Bool) {A B : Prop} : ((bI b = nI 0 → A) ∧ (¬ bI b = nI 0 → B)) = if b = true then B else A := by
  cases b with
  | true =>
    rw [if_pos rfl]
    exact propext ⟨fun h => h.2 (by decide), fun h => ⟨fun q => absurd q (by decide), fun _ => h⟩⟩
  | false =>
    rw [if_neg (by decide)]
    exact propext ⟨fun h => h.1 rfl, fun h => ⟨fun _ => h, fun q => absurd rfl q⟩⟩
theorem lo_11 {n K : Nat} {Mc Mm : Mem} (a1 a2 a3 a4 a5 : Int32) (hn : n < 512) (hI : Inv n K Mc Mm) : LO_11 Inv n K Mc Mm a1 a2 a3 a4 a5 := by
  have hE := hI.er hn
  have hU := hI.up hn
  obtain ⟨a, b, V, W, F, t, im, hb, mo, ⟨hB, mr, d, v⟩, i1, i2⟩ := hI
  have h := hB.1
  have tr := hB.2.1
  have kd := hB.2.2
  have c := hb.cx mo
  have d0 := d.1.1
  have d1 := d.1.2.1
  have d2 := d.1.2.2
  have dh := d.2.1
  have dt := d.2.2.2.2.1
  have f0 : Mc 30 0 = nI (a 0) := h.1.1
  have f1 : Mc 30 1 = nI (a 1) := h.1.2.1
  have f2 : Mc 30 2 = nI (a 2) := h.1.2.2
  have g0 : Mm 1 0 = nI (a 0) := mr 0 (by omega)
  have g1 : Mm 1 1 = nI (a 1) := mr 1 (by omega)
  have g2 : Mm 1 2 = nI (a 2) := mr 2 (by omega)
  unfold LO_11
  rcases rngl a1 (a 2) (by omega) with ⟨l, hl, rfl⟩ | xl | xl
  · have e5 : Mc 35 l = nI (15 + a (44 + 3 * l)) := (h.2.2.2.1 l hl).1
    have e6 : Mc 36 l = nI (a (44 + 3 * l + 1)) := (h.2.2.2.1 l hl).2.1
    have e7 : Mc 37 l = nI (a (44 + 3 * l + 2)) := (h.2.2.2.1 l hl).2.2
    have dl := d.2.2.2.1 l hl
    have k15 : isKd_X3 (nI (15 + a (44 + 3 * l))) = True := eq_true (kd15 dl.1)
    rcases rng a2 6 (by omega) with ⟨k, hk, rfl⟩ | xk | xk
    · rcases (show k = 0 ∨ k = 1 ∨ k = 2 ∨ k = 3 ∨ k = 4 ∨ k = 5 ∨ k = 6 by omega) with rfl | rfl | rfl | rfl | rfl | rfl | rfl
      · simp (disch := omega) only [i_lit, l_0, l_1, l_2, l_3, l_5, l_6, l_8, l_9, l_23, l_24, l_48, l_57, l_69, l_100, in_e, ci_e, lt_t, lt_f, le_t, le_f, eq_t, eq_f, nI_add, Nat.add_zero, xl_t, xl_f, xg_t, xg_f, xle_t, xle_f, xge_t, xge_f, xe_f, ci_t, ci_f, cx_t, cx_f, cn_t, cn_f, cp_t, cp_f, vi_t, cl_nI, c_er, m_er, eq_self, true_and, and_true, true_implies, false_implies, implies_true, not_true_eq_false, not_false_eq_true, true_or, or_true, forall_eq, P_X11_ofLodger, P_X11_isLodger, P_X12_ofLodger, P_X12_isLodger, f2, g2, e5, k15, sb15, m_of mr]
        exact hU
      · simp (disch := omega) only [i_lit, l_0, l_1, l_2, l_3, l_5, l_6, l_8, l_9, l_23, l_24, l_48, l_57, l_69, l_100, in_e, ci_e, lt_t, lt_f, le_t, le_f, eq_t, eq_f, nI_add, Nat.add_zero, xl_t, xl_f, xg_t, xg_f, xle_t, xle_f, xge_t, xge_f, xe_f, ci_t, ci_f, cx_t, cx_f, cn_t, cn_f, cp_t, cp_f, vi_t, cl_nI, c_er, m_er, eq_self, true_and, and_true, true_implies, false_implies, implies_true, not_true_eq_false, not_false_eq_true, true_or, or_true, forall_eq, P_X11_ofLodger, P_X11_isLodger, P_X12_ofLodger, P_X12_isLodger, f2, g2, e5, e6, k15, m_of mr]
        exact hU
      · simp (disch := omega) only [i_lit, l_0, l_1, l_2, l_3, l_5, l_6, l_8, l_9, l_23, l_24, l_48, l_57, l_69, l_100, in_e, ci_e, lt_t, lt_f, le_t, le_f, eq_t, eq_f, nI_add, Nat.add_zero, xl_t, xl_f, xg_t, xg_f, xle_t, xle_f, xge_t, xge_f, xe_f, ci_t, ci_f, cx_t, cx_f, cn_t, cn_f, cp_t, cp_f, vi_t, cl_nI, c_er, m_er, eq_self, true_and, and_true, true_implies, false_implies, implies_true, not_true_eq_false, not_false_eq_true, true_or, or_true, forall_eq, P_X11_ofLodger, P_X11_isLodger, P_X12_ofLodger, P_X12_isLodger, f2, g2, e5, e7, k15, m_of mr]
        exact hU
      · simp (disch := omega) only [i_lit, l_0, l_1, l_2, l_3, l_5, l_6, l_8, l_9, l_23, l_24, l_48, l_57, l_69, l_100, in_e, ci_e, lt_t, lt_f, le_t, le_f, eq_t, eq_f, nI_add, Nat.add_zero, xl_t, xl_f, xg_t, xg_f, xle_t, xle_f, xge_t, xge_f, xe_f, ci_t, ci_f, cx_t, cx_f, cn_t, cn_f, cp_t, cp_f, vi_t, cl_nI, c_er, m_er, eq_self, true_and, and_true, true_implies, false_implies, implies_true, not_true_eq_false, not_false_eq_true, true_or, or_true, forall_eq, P_X11_ofLodger, P_X11_isLodger, P_X12_ofLodger, P_X12_isLodger, f2, g2, e5, e6, k15]
        refine c_least dl.1 dl.2.1 (m_leastOf mr d hl ⟨rfl, hU⟩)
      · simp (disch := omega) only [i_lit, l_0, l_1, l_2, l_3, l_5, l_6, l_8, l_9, l_23, l_24, l_48, l_57, l_69, l_100, in_e, ci_e, lt_t, lt_f, le_t, le_f, eq_t, eq_f, nI_add, Nat.add_zero, xl_t, xl_f, xg_t, xg_f, xle_t, xle_f, xge_t, xge_f, xe_f, ci_t, ci_f, cx_t, cx_f, cn_t, cn_f, cp_t, cp_f, vi_t, cl_nI, c_er, m_er, eq_self, true_and, and_true, true_implies, false_implies, implies_true, not_true_eq_false, not_false_eq_true, true_or, or_true, forall_eq, P_X11_ofLodger, P_X11_isLodger, P_X12_ofLodger, P_X12_isLodger, f2, g2, e5, e6, k15]
        refine c_most dl.1 dl.2.1 (m_mostOf mr d hl ⟨rfl, hU⟩)
      · simp (disch := omega) only [i_lit, l_0, l_1, l_2, l_3, l_5, l_6, l_8, l_9, l_23, l_24, l_48, l_57, l_69, l_100, in_e, ci_e, lt_t, lt_f, le_t, le_f, eq_t, eq_f, nI_add, Nat.add_zero, xl_t, xl_f, xg_t, xg_f, xle_t, xle_f, xge_t, xge_f, xe_f, ci_t, ci_f, cx_t, cx_f, cn_t, cn_f, cp_t, cp_f, vi_t, cl_nI, c_er, m_er, eq_self, true_and, and_true, true_implies, false_implies, implies_true, not_true_eq_false, not_false_eq_true, true_or, or_true, forall_eq, P_X11_ofLodger, P_X11_isLodger, P_X12_ofLodger, P_X12_isLodger, f2, g2, e5, e6, k15]
        refine c_strength dl.1 (m_pullsOf mr d hl ⟨rfl, hU⟩)
      · simp (disch := omega) only [i_lit, l_0, l_1, l_2, l_3, l_5, l_6, l_8, l_9, l_23, l_24, l_48, l_57, l_69, l_100, in_e, ci_e, lt_t, lt_f, le_t, le_f, eq_t, eq_f, nI_add, Nat.add_zero, xl_t, xl_f, xg_t, xg_f, xle_t, xle_f, xge_t, xge_f, xe_f, ci_t, ci_f, cx_t, cx_f, cn_t, cn_f, cp_t, cp_f, vi_t, cl_nI, c_er, m_er, eq_self, true_and, and_true, true_implies, false_implies, implies_true, not_true_eq_false, not_false_eq_true, true_or, or_true, forall_eq, P_X11_ofLodger, P_X11_isLodger, P_X12_ofLodger, P_X12_isLodger, f2, g2, e5, e6, k15]
        refine c_isContent (Or.inl rfl) h tr c d hl (fun M1 s1 c1 => ?_)
        rw [b01]
        split
        · rename_i q
          refine m_isContent mr d v hl (fun M2 s2 => ?_)
          rw [q]
          refine ⟨fun q2 => absurd q2 (by decide), fun _ => ?_⟩
          exact Inv.sc hn hb ⟨hB, mr, d, v⟩ i1 i2 s1 c1.1 s2
        · rename_i q
          refine m_isContent mr d v hl (fun M2 s2 => ?_)
          rw [show conL a V l = false by cases hq : conL a V l; rfl; exact absurd hq q]
          refine ⟨fun _ => ?_, fun q2 => absurd rfl q2⟩
          exact Inv.sc hn hb ⟨hB, mr, d, v⟩ i1 i2 s1 c1.1 s2
    · simp (disch := omega) only [i_lit, l_0, l_1, l_2, l_3, l_5, l_6, l_8, l_9, l_23, l_24, l_48, l_57, l_69, l_100, in_e, ci_e, lt_t, lt_f, le_t, le_f, eq_t, eq_f, nI_add, Nat.add_zero, xl_t, xl_f, xg_t, xg_f, xle_t, xle_f, xge_t, xge_f, xe_f, ci_t, ci_f, cx_t, cx_f, cn_t, cn_f, cp_t, cp_f, vi_t, cl_nI, c_er, m_er, eq_self, true_and, and_true, true_implies, false_implies, implies_true, not_true_eq_false, not_false_eq_true, true_or, or_true, forall_eq, P_X11_ofLodger, P_X11_isLodger, P_X12_ofLodger, P_X12_isLodger, f2, g2, e5, k15]
      exact hE 1 (by omega)
    · simp (disch := omega) only [i_lit, l_0, l_1, l_2, l_3, l_5, l_6, l_8, l_9, l_23, l_24, l_48, l_57, l_69, l_100, in_e, ci_e, lt_t, lt_f, le_t, le_f, eq_t, eq_f, nI_add, Nat.add_zero, xl_t, xl_f, xg_t, xg_f, xle_t, xle_f, xge_t, xge_f, xe_f, ci_t, ci_f, cx_t, cx_f, cn_t, cn_f, cp_t, cp_f, vi_t, cl_nI, c_er, m_er, eq_self, true_and, and_true, true_implies, false_implies, implies_true, not_true_eq_false, not_false_eq_true, true_or, or_true, forall_eq, P_X11_ofLodger, P_X11_isLodger, P_X12_ofLodger, P_X12_isLodger, f2, g2, e5, k15]
      exact hE 1 (by omega)
  · simp (disch := omega) only [i_lit, l_0, l_1, l_2, l_3, l_5, l_6, l_8, l_9, l_23, l_24, l_48, l_57, l_69, l_100, in_e, ci_e, lt_t, lt_f, le_t, le_f, eq_t, eq_f, nI_add, Nat.add_zero, xl_t, xl_f, xg_t, xg_f, xle_t, xle_f, xge_t, xge_f, xe_f, ci_t, ci_f, cx_t, cx_f, cn_t, cn_f, cp_t, cp_f, vi_t, cl_nI, c_er, m_er, eq_self, true_and, and_true, true_implies, false_implies, implies_true, not_true_eq_false, not_false_eq_true, true_or, or_true, forall_eq, P_X11_ofLodger, P_X11_isLodger, P_X12_ofLodger, P_X12_isLodger, f2, g2]
    exact hE 1 (by omega)
  · simp (disch := omega) only [i_lit, l_0, l_1, l_2, l_3, l_5, l_6, l_8, l_9, l_23, l_24, l_48, l_57, l_69, l_100, in_e, ci_e, lt_t, lt_f, le_t, le_f, eq_t, eq_f, nI_add, Nat.add_zero, xl_t, xl_f, xg_t, xg_f, xle_t, xle_f, xge_t, xge_f, xe_f, ci_t, ci_f, cx_t, cx_f, cn_t, cn_f, cp_t, cp_f, vi_t, cl_nI, c_er, m_er, eq_self, true_and, and_true, true_implies, false_implies, implies_true, not_true_eq_false, not_false_eq_true, true_or, or_true, forall_eq, P_X11_ofLodger, P_X11_isLodger, P_X12_ofLodger, P_X12_isLodger, f2, g2]
    exact hE 1 (by omega)
theorem lo_12 {n K : Nat} {Mc Mm : Mem} (a1 a2 a3 a4 a5 : Int32) (hn : n < 512) (hI : Inv n K Mc Mm) : LO_12 Inv n K Mc Mm a1 a2 a3 a4 a5 := by
  have hE := hI.er hn
  have hU := hI.up hn
  obtain ⟨a, b, V, W, F, t, im, hb, mo, ⟨hB, mr, d, v⟩, i1, i2⟩ := hI
  have h := hB.1
  have tr := hB.2.1
  have kd := hB.2.2
  have c := hb.cx mo
  have d0 := d.1.1
  have d1 := d.1.2.1
  have d2 := d.1.2.2
  have dh := d.2.1
  have dt := d.2.2.2.2.1
  have f0 : Mc 30 0 = nI (a 0) := h.1.1
  have f1 : Mc 30 1 = nI (a 1) := h.1.2.1
  have f2 : Mc 30 2 = nI (a 2) := h.1.2.2
  have g0 : Mm 1 0 = nI (a 0) := mr 0 (by omega)
  have g1 : Mm 1 1 = nI (a 1) := mr 1 (by omega)
  have g2 : Mm 1 2 = nI (a 2) := mr 2 (by omega)
  unfold LO_12
  rcases rngl a1 (a 2) (by omega) with ⟨l, hl, rfl⟩ | xl | xl
  · have e5 : Mc 35 l = nI (15 + a (44 + 3 * l)) := (h.2.2.2.1 l hl).1
    have dl := d.2.2.2.1 l hl
    have k15 : isKd_X3 (nI (15 + a (44 + 3 * l))) = True := eq_true (kd15 dl.1)
    rcases rng a2 69 (by omega) with ⟨k, hk, rfl⟩ | xk | xk
    · simp (disch := omega) only [i_lit, l_0, l_1, l_2, l_3, l_5, l_6, l_8, l_9, l_23, l_24, l_48, l_57, l_69, l_100, in_e, ci_e, lt_t, lt_f, le_t, le_f, eq_t, eq_f, nI_add, Nat.add_zero, xl_t, xl_f, xg_t, xg_f, xle_t, xle_f, xge_t, xge_f, xe_f, ci_t, ci_f, cx_t, cx_f, cn_t, cn_f, cp_t, cp_f, vi_t, cl_nI, c_er, m_er, eq_self, true_and, and_true, true_implies, false_implies, implies_true, not_true_eq_false, not_false_eq_true, true_or, or_true, forall_eq, P_X11_become, P_X11_isLodger, P_X11_isKindAndNumber, P_X2_settle, P_X12_become, P_X12_isLodger, f2, g2, e5, k15, sb15, m_of mr, m_sets, div10, rem10]
      refine Inv.go (a' := updN (updN a (44 + 3 * l) (k / 10)) (44 + 3 * l + 1) (k % 10)) (V' := V) hn hb i1 i2 (FC.of (fun k k1 k2 => by simp (disch := omega) only [sf_ne])) (FMo.of (fun k k1 => by simp (disch := omega) only [sf_ne])) (mo.keep (by simp (disch := omega) only [sf_ne])) ⟨hB.upk (h.lod d.1.1 (fun k k1 k2 k3 => by simp (disch := omega) only [sf_ne]) (fun k k1 => by simp (disch := omega) only [updN_n]) (fun j hj => ?_)) (fun k k1 => by simp (disch := omega) only [sf_ne]) (kd_up (l := l) (k := k / 10) kd (by omega) (fun i hi => by simp (disch := omega) only [nI_add, updN_n, updN_e, sf_ne, sf_e, sf_j]) (by simp (disch := omega) only [nI_add, updN_n, updN_e, sf_ne, sf_e, sf_j])) (by simp (disch := omega) only [updN_n]) (by simp (disch := omega) only [updN_n]), (mr.up _ _).up _ _, d.lod (fun k k1 => by simp (disch := omega) only [updN_n]) (fun j hj => ?_), v.ab d (fun k k1 k2 => by simp (disch := omega) only [updN_n])⟩
      · have e := h.2.2.2.1 j hj
        by_cases q : j = l
        · subst q
          simp (disch := omega) only [nI_add, updN_n, updN_e, sf_ne, sf_e, sf_j, true_and]
          exact e.2.2
        · simp (disch := omega) only [nI_add, updN_n, updN_e, sf_ne, sf_e, sf_j]
          exact e
      · have e := d.2.2.2.1 j hj
        by_cases q : j = l
        · subst q
          simp (disch := omega) only [nI_add, updN_n, updN_e, sf_ne, sf_e, sf_j]
          exact ⟨by omega, by omega, e.2.2⟩
        · simp (disch := omega) only [nI_add, updN_n, updN_e, sf_ne, sf_e, sf_j]
          exact e
    · simp (disch := omega) only [i_lit, l_0, l_1, l_2, l_3, l_5, l_6, l_8, l_9, l_23, l_24, l_48, l_57, l_69, l_100, in_e, ci_e, lt_t, lt_f, le_t, le_f, eq_t, eq_f, nI_add, Nat.add_zero, xl_t, xl_f, xg_t, xg_f, xle_t, xle_f, xge_t, xge_f, xe_f, ci_t, ci_f, cx_t, cx_f, cn_t, cn_f, cp_t, cp_f, vi_t, cl_nI, c_er, m_er, eq_self, true_and, and_true, true_implies, false_implies, implies_true, not_true_eq_false, not_false_eq_true, true_or, or_true, forall_eq, P_X11_become, P_X11_isLodger, P_X11_isKindAndNumber, P_X12_become, P_X12_isLodger, f2, g2]
      exact hE 1 (by omega)
    · simp (disch := omega) only [i_lit, l_0, l_1, l_2, l_3, l_5, l_6, l_8, l_9, l_23, l_24, l_48, l_57, l_69, l_100, in_e, ci_e, lt_t, lt_f, le_t, le_f, eq_t, eq_f, nI_add, Nat.add_zero, xl_t, xl_f, xg_t, xg_f, xle_t, xle_f, xge_t, xge_f, xe_f, ci_t, ci_f, cx_t, cx_f, cn_t, cn_f, cp_t, cp_f, vi_t, cl_nI, c_er, m_er, eq_self, true_and, and_true, true_implies, false_implies, implies_true, not_true_eq_false, not_false_eq_true, true_or, or_true, forall_eq, P_X11_become, P_X11_isLodger, P_X11_isKindAndNumber, P_X12_become, P_X12_isLodger, f2, g2]
      exact hE 1 (by omega)
  · simp (disch := omega) only [i_lit, l_0, l_1, l_2, l_3, l_5, l_6, l_8, l_9, l_23, l_24, l_48, l_57, l_69, l_100, in_e, ci_e, lt_t, lt_f, le_t, le_f, eq_t, eq_f, nI_add, Nat.add_zero, xl_t, xl_f, xg_t, xg_f, xle_t, xle_f, xge_t, xge_f, xe_f, ci_t, ci_f, cx_t, cx_f, cn_t, cn_f, cp_t, cp_f, vi_t, cl_nI, c_er, m_er, eq_self, true_and, and_true, true_implies, false_implies, implies_true, not_true_eq_false, not_false_eq_true, true_or, or_true, forall_eq, P_X11_become, P_X11_isLodger, P_X12_become, P_X12_isLodger, f2, g2]
    exact hE 1 (by omega)
  · simp (disch := omega) only [i_lit, l_0, l_1, l_2, l_3, l_5, l_6, l_8, l_9, l_23, l_24, l_48, l_57, l_69, l_100, in_e, ci_e, lt_t, lt_f, le_t, le_f, eq_t, eq_f, nI_add, Nat.add_zero, xl_t, xl_f, xg_t, xg_f, xle_t, xle_f, xge_t, xge_f, xe_f, ci_t, ci_f, cx_t, cx_f, cn_t, cn_f, cp_t, cp_f, vi_t, cl_nI, c_er, m_er, eq_self, true_and, and_true, true_implies, false_implies, implies_true, not_true_eq_false, not_false_eq_true, true_or, or_true, forall_eq, P_X11_become, P_X11_isLodger, P_X12_become, P_X12_isLodger, f2, g2]
    exact hE 1 (by omega)
theorem lo_14 {n K : Nat} {Mc Mm : Mem} (a1 a2 a3 a4 a5 : Int32) (hn : n < 512) (hI : Inv n K Mc Mm) : LO_14 Inv n K Mc Mm a1 a2 a3 a4 a5 := by
  have hE := hI.er hn
  have hU := hI.up hn
  obtain ⟨a, b, V, W, F, t, im, hb, mo, ⟨hB, mr, d, v⟩, i1, i2⟩ := hI
  have h := hB.1
  have tr := hB.2.1
  have kd := hB.2.2
  have c := hb.cx mo
  have d0 := d.1.1
  have d1 := d.1.2.1
  have d2 := d.1.2.2
  have dh := d.2.1
  have dt := d.2.2.2.2.1
  have f0 : Mc 30 0 = nI (a 0) := h.1.1
  have f1 : Mc 30 1 = nI (a 1) := h.1.2.1
  have f2 : Mc 30 2 = nI (a 2) := h.1.2.2
  have g0 : Mm 1 0 = nI (a 0) := mr 0 (by omega)
  have g1 : Mm 1 1 = nI (a 1) := mr 1 (by omega)
  have g2 : Mm 1 2 = nI (a 2) := mr 2 (by omega)
  unfold LO_14
  rcases rngl a1 (a 2) (by omega) with ⟨l, hl, rfl⟩ | xl | xl
  · have e7 : Mc 37 l = nI (a (44 + 3 * l + 2)) := (h.2.2.2.1 l hl).2.2
    have dl := d.2.2.2.1 l hl
    rcases rng a2 8 (by omega) with ⟨r, hr, rfl⟩ | xr | xr
    · simp (disch := omega) only [i_lit, l_0, l_1, l_2, l_3, l_5, l_6, l_8, l_9, l_23, l_24, l_48, l_57, l_69, l_100, in_e, ci_e, lt_t, lt_f, le_t, le_f, eq_t, eq_f, nI_add, Nat.add_zero, xl_t, xl_f, xg_t, xg_f, xle_t, xle_f, xge_t, xge_f, xe_f, ci_t, ci_f, cx_t, cx_f, cn_t, cn_f, cp_t, cp_f, vi_t, cl_nI, c_er, m_er, eq_self, true_and, and_true, true_implies, false_implies, implies_true, not_true_eq_false, not_false_eq_true, true_or, or_true, forall_eq, P_X11_goes, P_X11_isLodger, P_X11_isRoom, P_X12_goes, P_X12_isLodger, f2, g2, e7, m_of mr, m_sets]
      refine Inv.go (a' := updN a (44 + 3 * l + 2) r) (V' := V) hn hb i1 i2 (FC.of (fun k k1 k2 => by simp (disch := omega) only [sf_ne])) (FMo.of (fun k k1 => by simp (disch := omega) only [sf_ne])) (mo.keep (by simp (disch := omega) only [sf_ne])) ⟨hB.up (h.lod d.1.1 (fun k k1 k2 k3 => by simp (disch := omega) only [sf_ne]) (fun k k1 => by simp (disch := omega) only [updN_n]) (fun j hj => ?_)) (fun k k1 => by simp (disch := omega) only [sf_ne]) (by simp (disch := omega) only [sf_ne]) (by simp (disch := omega) only [updN_n]) (by simp (disch := omega) only [updN_n]), mr.up _ _, d.lod (fun k k1 => by simp (disch := omega) only [updN_n]) (fun j hj => ?_), v.ab d (fun k k1 k2 => by simp (disch := omega) only [updN_n])⟩
      · have e := h.2.2.2.1 j hj
        by_cases q : j = l
        · subst q
          simp (disch := omega) only [nI_add, updN_n, updN_e, sf_ne, sf_e, sf_j]
          exact ⟨e.1, e.2.1, trivial⟩
        · simp (disch := omega) only [nI_add, updN_n, updN_e, sf_ne, sf_e, sf_j]
          exact e
      · have e := d.2.2.2.1 j hj
        by_cases q : j = l
        · subst q
          simp (disch := omega) only [nI_add, updN_n, updN_e, sf_ne, sf_e, sf_j]
          exact ⟨e.1, e.2.1, hr⟩
        · simp (disch := omega) only [nI_add, updN_n, updN_e, sf_ne, sf_e, sf_j]
          exact e
    · simp (disch := omega) only [i_lit, l_0, l_1, l_2, l_3, l_5, l_6, l_8, l_9, l_23, l_24, l_48, l_57, l_69, l_100, in_e, ci_e, lt_t, lt_f, le_t, le_f, eq_t, eq_f, nI_add, Nat.add_zero, xl_t, xl_f, xg_t, xg_f, xle_t, xle_f, xge_t, xge_f, xe_f, ci_t, ci_f, cx_t, cx_f, cn_t, cn_f, cp_t, cp_f, vi_t, cl_nI, c_er, m_er, eq_self, true_and, and_true, true_implies, false_implies, implies_true, not_true_eq_false, not_false_eq_true, true_or, or_true, forall_eq, P_X11_goes, P_X11_isLodger, P_X11_isRoom, P_X12_goes, P_X12_isLodger, f2, g2]
      exact hE 1 (by omega)
    · simp (disch := omega) only [i_lit, l_0, l_1, l_2, l_3, l_5, l_6, l_8, l_9, l_23, l_24, l_48, l_57, l_69, l_100, in_e, ci_e, lt_t, lt_f, le_t, le_f, eq_t, eq_f, nI_add, Nat.add_zero, xl_t, xl_f, xg_t, xg_f, xle_t, xle_f, xge_t, xge_f, xe_f, ci_t, ci_f, cx_t, cx_f, cn_t, cn_f, cp_t, cp_f, vi_t, cl_nI, c_er, m_er, eq_self, true_and, and_true, true_implies, false_implies, implies_true, not_true_eq_false, not_false_eq_true, true_or, or_true, forall_eq, P_X11_goes, P_X11_isLodger, P_X11_isRoom, P_X12_goes, P_X12_isLodger, f2, g2]
      exact hE 1 (by omega)
  · simp (disch := omega) only [i_lit, l_0, l_1, l_2, l_3, l_5, l_6, l_8, l_9, l_23, l_24, l_48, l_57, l_69, l_100, in_e, ci_e, lt_t, lt_f, le_t, le_f, eq_t, eq_f, nI_add, Nat.add_zero, xl_t, xl_f, xg_t, xg_f, xle_t, xle_f, xge_t, xge_f, xe_f, ci_t, ci_f, cx_t, cx_f, cn_t, cn_f, cp_t, cp_f, vi_t, cl_nI, c_er, m_er, eq_self, true_and, and_true, true_implies, false_implies, implies_true, not_true_eq_false, not_false_eq_true, true_or, or_true, forall_eq, P_X11_goes, P_X11_isLodger, P_X12_goes, P_X12_isLodger, f2, g2]
    exact hE 1 (by omega)
  · simp (disch := omega) only [i_lit, l_0, l_1, l_2, l_3, l_5, l_6, l_8, l_9, l_23, l_24, l_48, l_57, l_69, l_100, in_e, ci_e, lt_t, lt_f, le_t, le_f, eq_t, eq_f, nI_add, Nat.add_zero, xl_t, xl_f, xg_t, xg_f, xle_t, xle_f, xge_t, xge_f, xe_f, ci_t, ci_f, cx_t, cx_f, cn_t, cn_f, cp_t, cp_f, vi_t, cl_nI, c_er, m_er, eq_self, true_and, and_true, true_implies, false_implies, implies_true, not_true_eq_false, not_false_eq_true, true_or, or_true, forall_eq, P_X11_goes, P_X11_isLodger, P_X12_goes, P_X12_isLodger, f2, g2]
    exact hE 1 (by omega)
theorem lo_15 {n K : Nat} {Mc Mm : Mem} (a1 a2 a3 a4 a5 : Int32) (hn : n < 512) (hI : Inv n K Mc Mm) : LO_15 Inv n K Mc Mm a1 a2 a3 a4 a5 := by
  have hE := hI.er hn
  have hU := hI.up hn
  obtain ⟨a, b, V, W, F, t, im, hb, mo, ⟨hB, mr, d, v⟩, i1, i2⟩ := hI
  have h := hB.1
  have tr := hB.2.1
  have kd := hB.2.2
  have c := hb.cx mo
  have d0 := d.1.1
  have d1 := d.1.2.1
  have d2 := d.1.2.2
  have dh := d.2.1
  have dt := d.2.2.2.2.1
  have f0 : Mc 30 0 = nI (a 0) := h.1.1
  have f1 : Mc 30 1 = nI (a 1) := h.1.2.1
  have f2 : Mc 30 2 = nI (a 2) := h.1.2.2
  have g0 : Mm 1 0 = nI (a 0) := mr 0 (by omega)
  have g1 : Mm 1 1 = nI (a 1) := mr 1 (by omega)
  have g2 : Mm 1 2 = nI (a 2) := mr 2 (by omega)
  unfold LO_15
  unfold P_X11_content P_X12_content
  exact c_contentSet (Or.inl rfl) h tr c d (fun M1 s1 c1 => m_allContent mr d v (fun M2 s2 => ⟨rfl, Inv.sc hn hb ⟨hB, mr, d, v⟩ i1 i2 s1 c1.1 s2⟩))
def kaN (k : Nat) : Nat := k - 3
theorem ka_1 : kAbove 0 = -1 ∧ kAbove 1 = nI 0 ∧ kAbove 2 = nI 0 ∧ kAbove 3 = nI 0 ∧ kAbove 4 = nI 1 ∧ kAbove 5 = nI 2 ∧ kAbove 6 = nI 3 := by decide
theorem c_under {k j : Nat} {Q : Int32 → Prop} (hk : k ≤ 6) (hj : j ≤ 6) (hQ : Q (bI (decide (j = 0 ∨ j = k ∨ j = kaN k)))) : P_X11_isUnder (nI k) (nI j) Q := by
  unfold P_X11_isUnder B_X11_isUnder_4
  intro X hX
  obtain ⟨z0, z1, z2, z3, z4, z5, z6⟩ := ka_1
  have last : ∀ s, s ≤ 6 → Q (bI false) → X (-1) (nI s) := fun s hs q => by
    apply hX
    exact ⟨fun z => absurd z (by show ¬ nI 7 ≤ nI s; exact nI_ge (by omega) (by omega)), fun _ => ⟨fun _ => q, fun z => absurd (by decide) z⟩⟩
  have at0 : ∀ s, s ≤ 5 → (j = 0 → Q (bI true)) → (j ≠ 0 → Q (bI false)) → X (nI 0) (nI s) := fun s hs q1 q2 => by
    apply hX
    refine ⟨fun z => absurd z (by show ¬ nI 7 ≤ nI s; exact nI_ge (by omega) (by omega)), fun _ => ⟨fun z => absurd z (by decide), fun _ => ⟨fun z => ⟨vp_in_nI (by omega) (by omega), ?_⟩, fun z => q1 ((eq_nI (by omega) (by omega)).mp z).symm⟩⟩⟩
    rintro _ rfl _ rfl
    rw [show (nI 0).toNatClampNeg = 0 from rfl, z0, nI_1]
    exact last (s + 1) (by omega) (q2 (fun e => z (by rw [e])))
  have step : ∀ m s up, m ≤ 6 → 0 < m → s ≤ 4 → kAbove m = nI up → (j = m → Q (bI true)) → (j ≠ m → X (nI up) (nI (s + 1))) → X (nI m) (nI s) := fun m s up hm h0 hs e q1 q2 => by
    apply hX
    refine ⟨fun z => absurd z (by show ¬ nI 7 ≤ nI s; exact nI_ge (by omega) (by omega)), fun _ => ⟨fun z => absurd z (nI_pos (by omega)), fun _ => ⟨fun z => ⟨vp_in_nI (by omega) (by omega), ?_⟩, fun z => q1 ((eq_nI (by omega) (by omega)).mp z).symm⟩⟩⟩
    rintro _ rfl _ rfl
    rw [cl_nI (by omega), e, nI_1]
    exact q2 (fun e => z (by rw [e]))
  have tt : ∀ {p : Prop} [Decidable p], p → Q (bI (decide p)) → Q (bI true) := fun hp q => by rw [decide_eq_true hp] at q; exact q
  have ff : ∀ {p : Prop} [Decidable p], ¬ p → Q (bI (decide p)) → Q (bI false) := fun hp q => by rw [decide_eq_false hp] at q; exact q
  rcases k7 hk with rfl | rfl | rfl | rfl | rfl | rfl | rfl
  · exact at0 0 (by omega) (fun e => tt (Or.inl e) hQ) (fun e => ff (fun q => by unfold kaN at q; omega) hQ)
  · exact step 1 0 0 (by omega) (by omega) (by omega) z1 (fun e => tt (by omega) hQ) (fun e1 => at0 1 (by omega) (fun e => tt (Or.inl e) hQ) (fun e => ff (fun q => by unfold kaN at q; omega) hQ))
  · exact step 2 0 0 (by omega) (by omega) (by omega) z2 (fun e => tt (by omega) hQ) (fun e1 => at0 1 (by omega) (fun e => tt (Or.inl e) hQ) (fun e => ff (fun q => by unfold kaN at q; omega) hQ))
  · exact step 3 0 0 (by omega) (by omega) (by omega) z3 (fun e => tt (by omega) hQ) (fun e1 => at0 1 (by omega) (fun e => tt (Or.inl e) hQ) (fun e => ff (fun q => by unfold kaN at q; omega) hQ))
  · exact step 4 0 1 (by omega) (by omega) (by omega) z4 (fun e => tt (by omega) hQ) (fun e1 => step 1 1 0 (by omega) (by omega) (by omega) z1 (fun e => tt (by unfold kaN; omega) hQ) (fun e2 => at0 2 (by omega) (fun e => tt (Or.inl e) hQ) (fun e => ff (fun q => by unfold kaN at q; omega) hQ)))
  · exact step 5 0 2 (by omega) (by omega) (by omega) z5 (fun e => tt (by omega) hQ) (fun e1 => step 2 1 0 (by omega) (by omega) (by omega) z2 (fun e => tt (by unfold kaN; omega) hQ) (fun e2 => at0 2 (by omega) (fun e => tt (Or.inl e) hQ) (fun e => ff (fun q => by unfold kaN at q; omega) hQ)))
  · exact step 6 0 3 (by omega) (by omega) (by omega) z6 (fun e => tt (by omega) hQ) (fun e1 => step 3 1 0 (by omega) (by omega) (by omega) z3 (fun e => tt (by unfold kaN; omega) hQ) (fun e2 => at0 2 (by omega) (fun e => tt (Or.inl e) hQ) (fun e => ff (fun q => by unfold kaN at q; omega) hQ)))
theorem m_above {k : Nat} {Q : Int32 → Prop} (hk : k ≤ 6) : P_X12_above (nI k) Q = Q (nI (kaN k)) := by
  unfold P_X12_above kaN
  by_cases h : k < 4
  · simp (disch := omega) only [i_lit, l_0, l_1, l_2, l_3, l_5, l_6, l_8, l_9, l_23, l_24, l_48, l_57, l_69, l_100, in_e, ci_e, lt_t, lt_f, le_t, le_f, eq_t, eq_f, nI_add, Nat.add_zero, xl_t, xl_f, xg_t, xg_f, xle_t, xle_f, xge_t, xge_f, xe_f, ci_t, ci_f, cx_t, cx_f, cn_t, cn_f, cp_t, cp_f, vi_t, cl_nI, c_er, m_er, eq_self, true_and, and_true, true_implies, false_implies, implies_true, not_true_eq_false, not_false_eq_true, true_or, or_true, forall_eq]
    rw [show k - 3 = 0 by omega]
  · simp (disch := omega) only [i_lit, l_0, l_1, l_2, l_3, l_5, l_6, l_8, l_9, l_23, l_24, l_48, l_57, l_69, l_100, in_e, ci_e, lt_t, lt_f, le_t, le_f, eq_t, eq_f, nI_add, Nat.add_zero, xl_t, xl_f, xg_t, xg_f, xle_t, xle_f, xge_t, xge_f, xe_f, ci_t, ci_f, cx_t, cx_f, cn_t, cn_f, cp_t, cp_f, vi_t, cl_nI, c_er, m_er, eq_self, true_and, and_true, true_implies, false_implies, implies_true, not_true_eq_false, not_false_eq_true, true_or, or_true, forall_eq, sb_nI]
theorem lo_13 {n K : Nat} {Mc Mm : Mem} (a1 a2 a3 a4 a5 : Int32) (hn : n < 512) (hI : Inv n K Mc Mm) : LO_13 Inv n K Mc Mm a1 a2 a3 a4 a5 := by
  have hE := hI.er hn
  have hU := hI.up hn
  obtain ⟨a, b, V, W, F, t, im, hb, mo, ⟨hB, mr, d, v⟩, i1, i2⟩ := hI
  have h := hB.1
  have tr := hB.2.1
  have kd := hB.2.2
  have c := hb.cx mo
  have d0 := d.1.1
  have d1 := d.1.2.1
  have d2 := d.1.2.2
  have dh := d.2.1
  have dt := d.2.2.2.2.1
  have f0 : Mc 30 0 = nI (a 0) := h.1.1
  have f1 : Mc 30 1 = nI (a 1) := h.1.2.1
  have f2 : Mc 30 2 = nI (a 2) := h.1.2.2
  have g0 : Mm 1 0 = nI (a 0) := mr 0 (by omega)
  have g1 : Mm 1 1 = nI (a 1) := mr 1 (by omega)
  have g2 : Mm 1 2 = nI (a 2) := mr 2 (by omega)
  unfold LO_13
  rcases rngl a1 (a 2) (by omega) with ⟨l, hl, rfl⟩ | xl | xl
  · have e5 : Mc 35 l = nI (15 + a (44 + 3 * l)) := (h.2.2.2.1 l hl).1
    have e6 : Mc 36 l = nI (a (44 + 3 * l + 1)) := (h.2.2.2.1 l hl).2.1
    have dl := d.2.2.2.1 l hl
    have k15 : isKd_X3 (nI (15 + a (44 + 3 * l))) = True := eq_true (kd15 dl.1)
    rcases rng a2 6 (by omega) with ⟨k, hk, rfl⟩ | xk | xk
    · simp (disch := omega) only [i_lit, l_0, l_1, l_2, l_3, l_5, l_6, l_8, l_9, l_23, l_24, l_48, l_57, l_69, l_100, in_e, ci_e, lt_t, lt_f, le_t, le_f, eq_t, eq_f, nI_add, Nat.add_zero, xl_t, xl_f, xg_t, xg_f, xle_t, xle_f, xge_t, xge_f, xe_f, ci_t, ci_f, cx_t, cx_f, cn_t, cn_f, cp_t, cp_f, vi_t, cl_nI, c_er, m_er, eq_self, true_and, and_true, true_implies, false_implies, implies_true, not_true_eq_false, not_false_eq_true, true_or, or_true, forall_eq, P_X11_as, P_X11_isLodger, f2, e5, e6, k15, sb15]
      refine c_under dl.1 hk ?_
      by_cases q0 : k = 0
      · simp (disch := omega) only [i_lit, l_0, l_1, l_2, l_3, l_5, l_6, l_8, l_9, l_23, l_24, l_48, l_57, l_69, l_100, in_e, ci_e, lt_t, lt_f, le_t, le_f, eq_t, eq_f, nI_add, Nat.add_zero, xl_t, xl_f, xg_t, xg_f, xle_t, xle_f, xge_t, xge_f, xe_f, ci_t, ci_f, cx_t, cx_f, cn_t, cn_f, cp_t, cp_f, vi_t, cl_nI, c_er, m_er, eq_self, true_and, and_true, true_implies, false_implies, implies_true, not_true_eq_false, not_false_eq_true, true_or, or_true, forall_eq, q0, P_X12_as, B_X12_as_50, P_X12_isLodger, g2, m_of mr, decide_true, bI, ite_true, if_true]
        exact hU
      · by_cases q1 : k = a (44 + 3 * l)
        · rw [decide_eq_true (Or.inr (Or.inl q1))]
          simp (disch := omega) only [i_lit, l_0, l_1, l_2, l_3, l_5, l_6, l_8, l_9, l_23, l_24, l_48, l_57, l_69, l_100, in_e, ci_e, lt_t, lt_f, le_t, le_f, eq_t, eq_f, nI_add, Nat.add_zero, xl_t, xl_f, xg_t, xg_f, xle_t, xle_f, xge_t, xge_f, xe_f, ci_t, ci_f, cx_t, cx_f, cn_t, cn_f, cp_t, cp_f, vi_t, cl_nI, c_er, m_er, eq_self, true_and, and_true, true_implies, false_implies, implies_true, not_true_eq_false, not_false_eq_true, true_or, or_true, forall_eq, P_X12_as, B_X12_as_50, P_X12_isLodger, g2, m_of mr, bI, if_true]
          exact hU
        · by_cases q2 : k = kaN (a (44 + 3 * l))
          · rw [decide_eq_true (Or.inr (Or.inr q2))]
            simp (disch := omega) only [i_lit, l_0, l_1, l_2, l_3, l_5, l_6, l_8, l_9, l_23, l_24, l_48, l_57, l_69, l_100, in_e, ci_e, lt_t, lt_f, le_t, le_f, eq_t, eq_f, nI_add, Nat.add_zero, xl_t, xl_f, xg_t, xg_f, xle_t, xle_f, xge_t, xge_f, xe_f, ci_t, ci_f, cx_t, cx_f, cn_t, cn_f, cp_t, cp_f, vi_t, cl_nI, c_er, m_er, eq_self, true_and, and_true, true_implies, false_implies, implies_true, not_true_eq_false, not_false_eq_true, true_or, or_true, forall_eq, P_X12_as, B_X12_as_50, P_X12_isLodger, g2, m_of mr, m_above, bI, if_true]
            exact hU
          · rw [decide_eq_false (by omega)]
            have q3 : kaN (a (44 + 3 * l)) ≤ 6 := by unfold kaN; omega
            simp (disch := omega) only [i_lit, l_0, l_1, l_2, l_3, l_5, l_6, l_8, l_9, l_23, l_24, l_48, l_57, l_69, l_100, in_e, ci_e, lt_t, lt_f, le_t, le_f, eq_t, eq_f, nI_add, Nat.add_zero, xl_t, xl_f, xg_t, xg_f, xle_t, xle_f, xge_t, xge_f, xe_f, ci_t, ci_f, cx_t, cx_f, cn_t, cn_f, cp_t, cp_f, vi_t, cl_nI, c_er, m_er, eq_self, true_and, and_true, true_implies, false_implies, implies_true, not_true_eq_false, not_false_eq_true, true_or, or_true, forall_eq, P_X12_as, P_X12_isLodger, g2, m_of mr, m_above, bI, if_false, Bool.false_eq_true]
            exact hE 5 (by omega)
    · simp (disch := omega) only [i_lit, l_0, l_1, l_2, l_3, l_5, l_6, l_8, l_9, l_23, l_24, l_48, l_57, l_69, l_100, in_e, ci_e, lt_t, lt_f, le_t, le_f, eq_t, eq_f, nI_add, Nat.add_zero, xl_t, xl_f, xg_t, xg_f, xle_t, xle_f, xge_t, xge_f, xe_f, ci_t, ci_f, cx_t, cx_f, cn_t, cn_f, cp_t, cp_f, vi_t, cl_nI, c_er, m_er, eq_self, true_and, and_true, true_implies, false_implies, implies_true, not_true_eq_false, not_false_eq_true, true_or, or_true, forall_eq, P_X11_as, P_X11_isLodger, P_X12_as, P_X12_isLodger, f2, g2]
      exact hE 1 (by omega)
    · simp (disch := omega) only [i_lit, l_0, l_1, l_2, l_3, l_5, l_6, l_8, l_9, l_23, l_24, l_48, l_57, l_69, l_100, in_e, ci_e, lt_t, lt_f, le_t, le_f, eq_t, eq_f, nI_add, Nat.add_zero, xl_t, xl_f, xg_t, xg_f, xle_t, xle_f, xge_t, xge_f, xe_f, ci_t, ci_f, cx_t, cx_f, cn_t, cn_f, cp_t, cp_f, vi_t, cl_nI, c_er, m_er, eq_self, true_and, and_true, true_implies, false_implies, implies_true, not_true_eq_false, not_false_eq_true, true_or, or_true, forall_eq, P_X11_as, P_X11_isLodger, P_X12_as, P_X12_isLodger, f2, g2]
      exact hE 1 (by omega)
  · simp (disch := omega) only [i_lit, l_0, l_1, l_2, l_3, l_5, l_6, l_8, l_9, l_23, l_24, l_48, l_57, l_69, l_100, in_e, ci_e, lt_t, lt_f, le_t, le_f, eq_t, eq_f, nI_add, Nat.add_zero, xl_t, xl_f, xg_t, xg_f, xle_t, xle_f, xge_t, xge_f, xe_f, ci_t, ci_f, cx_t, cx_f, cn_t, cn_f, cp_t, cp_f, vi_t, cl_nI, c_er, m_er, eq_self, true_and, and_true, true_implies, false_implies, implies_true, not_true_eq_false, not_false_eq_true, true_or, or_true, forall_eq, P_X11_as, P_X11_isLodger, P_X12_as, P_X12_isLodger, f2, g2]
    exact hE 1 (by omega)
  · simp (disch := omega) only [i_lit, l_0, l_1, l_2, l_3, l_5, l_6, l_8, l_9, l_23, l_24, l_48, l_57, l_69, l_100, in_e, ci_e, lt_t, lt_f, le_t, le_f, eq_t, eq_f, nI_add, Nat.add_zero, xl_t, xl_f, xg_t, xg_f, xle_t, xle_f, xge_t, xge_f, xe_f, ci_t, ci_f, cx_t, cx_f, cn_t, cn_f, cp_t, cp_f, vi_t, cl_nI, c_er, m_er, eq_self, true_and, and_true, true_implies, false_implies, implies_true, not_true_eq_false, not_false_eq_true, true_or, or_true, forall_eq, P_X11_as, P_X11_isLodger, P_X12_as, P_X12_isLodger, f2, g2]
    exact hE 1 (by omega)
