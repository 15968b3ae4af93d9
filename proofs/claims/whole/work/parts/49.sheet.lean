/-! ===== sheets ===== -/
theorem Inv.she {n K t im : Nat} {F : Ft} {Mc Mm Mc' Mm' : Mem} {a b : Nat → Nat} {V W : Vt} (hn : n < 512) (hb : Ivb n K t im) (mo : MOK t F Mc) (hs : Iv0 K t F Mc Mm a V) (i1 : Iv1 K t F Mc Mm b W im) (i2 : Iv2 Mc Mm t im) (hc : ∀ k, (k < 22 ∨ 30 ≤ k) → Mc' k = Mc k) (hm : ∀ k, k < 12 → Mm' k = Mm k) (hsh : ∀ s, s < 4 → Sh Mc' Mm' s) : Inv (n + 1) K Mc' Mm' := by
  obtain ⟨h1, h2, h3, h4⟩ := hs
  obtain ⟨j1, j2, j3, j4, j5, j6⟩ := i2
  refine ⟨a, b, V, W, F, t, im, hb.up hn, mo.keep (hc 2 (by omega)), ⟨h1.keep (fun k k1 k2 => hc k (by omega)) (fun k k1 k2 => hc k (by omega)), fun k hk => by rw [hm 1 (by omega)]; exact h2 k hk, h3, h4⟩, ?_, ?_, ?_, ?_, fun i hi => ?_, ?_, hsh⟩
  · refine ⟨i1.1.keep (hc _ (by omega)) (hc _ (by omega)), ?_⟩
    rcases i1.2 with ⟨q, r⟩ | ⟨q1, q2, q3, q4⟩
    · exact Or.inl ⟨q, r.keep (hc _ (by omega)) (hc _ (by omega))⟩
    · exact Or.inr ⟨q1.keep (fun k k1 k2 => hc k (by omega)) (fun k k1 k2 => hc k (by omega)), fun k hk => by rw [hm 2 (by omega)]; exact q2 k hk, q3, q4⟩
  · rw [hc 0 (by omega)]; exact j1
  · rw [hm 0 (by omega)]; exact j2
  · rw [hc 0 (by omega)]; exact j3
  · rw [hc 4 (by omega), hm 4 (by omega)]; exact j4 i hi
  · unfold Tc
    rw [hc 5 (by omega), hc 6 (by omega), hm 0 (by omega), hm 11 (by omega)]
    exact j5
theorem c_fill {M : Mem} {r n0 : Nat} {x : Int32} {Q : Mem → Prop} (hn : n0 < 2147483648) (hQ : ∀ M' : Mem, (∀ k, k ≠ r → M' k = M k) → (∀ i, i < n0 → M' r i = x) → Q M') : P_J7_fill_53178 M r n0 x Q := by
  unfold P_J7_fill_53178
  rintro _ rfl
  unfold B_J7_fill_53178_5
  intro X hX
  have key : ∀ f i (M1 : Mem), i + f = n0 → (∀ k, k ≠ r → M1 k = M k) → (∀ j, j < i → M1 r j = x) → X (nI i) M1 := by
    intro f
    induction f with
    | zero =>
      intro i M1 hi hk hj
      obtain rfl : i = n0 := by omega
      apply hX
      exact br_t (nI_le (Nat.le_refl _) (by omega)) (hQ M1 hk hj)
    | succ f ih =>
      intro i M1 hi hk hj
      apply hX
      refine br_f (nI_ge (by omega) (by omega)) ⟨vp_in_nI (by omega) (by omega), ?_⟩
      rw [cl_nI (by omega)]
      rintro _ rfl _ rfl
      rw [nI_1]
      refine ih (i + 1) _ (by omega) (fun k k3 => by rw [sf_ne k3]; exact hk k k3) (fun j hj2 => ?_)
      rw [sf_at, if_pos rfl]
      by_cases q : j = i
      · rw [if_pos q]
      · rw [if_neg q]
        exact hj j (by omega)
  exact key n0 0 M (by omega) (fun _ _ => rfl) (fun j hj => absurd hj (by omega))
theorem rL_sh {s : Nat} (hs : s < 4) : rLen (22 + 2 * s) = 40 := by
  rcases (show s = 0 ∨ s = 1 ∨ s = 2 ∨ s = 3 by omega) with rfl | rfl | rfl | rfl <;> rfl
theorem c_sheetS {K s B L : Nat} {M : Mem} {Q : Mem → Prop} (hs : s < 4) (hQ : ∀ M' : Mem, (∀ k, k ≠ 22 + 2 * s → k ≠ 23 + 2 * s → M' k = M k) → M' (22 + 2 * s) 1 = nI L → M' (22 + 2 * s) 2 = nI B → (∀ i, i < 40 → M' (22 + 2 * s + 1) i = nI 0) → Q M') : P_X4_start K M (22 + 2 * s) (nI B) (nI L) Q := by
  unfold P_X4_start
  rw [rL_sh hs]
  refine c_fill (by omega) (fun M1 k1 h1 => ?_)
  rintro _ rfl _ rfl
  refine hQ _ (fun k q1 q2 => by rw [sf_ne q1, sf_ne q1]; exact k1 k (by omega)) (sf_e rfl rfl) (by rw [sf_j (by omega)]; exact sf_e rfl rfl) (fun i hi => ?_)
  rw [sf_ne (by omega), sf_ne (by omega), h1 i hi]
  rfl
theorem m_sheetS {s B L : Nat} {M : Mem} {Q : Int32 → Mem → Prop} (hs : s < 4) (hQ : ∀ M' : Mem, (∀ k, k < 12 → M' k = M k) → (∀ j, j ≠ s → M' 12 j = M 12 j ∧ M' 13 j = M 13 j) → M' 12 s = nI B → M' 13 s = nI L → (∀ i, i < 40 → M' 14 (40 * s + i) = nI 0) → (∀ j, (j < 40 * s ∨ 40 * s + 40 ≤ j) → M' 14 j = M 14 j) → Q (nI 1) M') : B_X12_sheet_90 Q (nI s) (nI 0) (sf (sf M 12 s (nI B)) 13 s (nI L)) := by
  unfold B_X12_sheet_90
  intro X hX
  have key : ∀ f i (M1 : Mem), i + f = 40 → (∀ k, k ≠ 14 → M1 k = sf (sf M 12 s (nI B)) 13 s (nI L) k) → (∀ j, j < i → M1 14 (40 * s + j) = nI 0) → (∀ j, (j < 40 * s ∨ 40 * s + 40 ≤ j) → M1 14 j = M 14 j) → X (nI i) M1 := by
    intro f
    induction f with
    | zero =>
      intro i M1 hi hk hj ho
      obtain rfl : i = 40 := by omega
      apply hX
      simp (disch := omega) only [i_lit, l_0, l_1, l_2, l_3, l_5, l_6, l_8, l_9, l_23, l_24, l_48, l_57, l_69, l_100, in_e, ci_e, lt_t, lt_f, le_t, le_f, eq_t, eq_f, nI_add, Nat.add_zero, xl_t, xl_f, xg_t, xg_f, xle_t, xle_f, xge_t, xge_f, xe_f, ci_t, ci_f, cx_t, cx_f, cn_t, cn_f, cp_t, cp_f, vi_t, cl_nI, c_er, m_er, eq_self, true_and, and_true, true_implies, false_implies, implies_true, not_true_eq_false, not_false_eq_true, true_or, or_true, forall_eq]
      refine hQ M1 (fun k q => by rw [hk k (by omega), sf_ne (by omega), sf_ne (by omega)]) (fun j q => ⟨?_, ?_⟩) ?_ ?_ hj ho
      · rw [hk 12 (by omega), sf_ne (by omega), sf_j q]
      · rw [hk 13 (by omega), sf_j q, sf_ne (by omega)]
      · rw [hk 12 (by omega), sf_ne (by omega), sf_e rfl rfl]
      · rw [hk 13 (by omega), sf_e rfl rfl]
    | succ f ih =>
      intro i M1 hi hk hj ho
      apply hX
      simp (disch := omega) only [i_lit, l_0, l_1, l_2, l_3, l_5, l_6, l_8, l_9, l_23, l_24, l_48, l_57, l_69, l_100, in_e, ci_e, lt_t, lt_f, le_t, le_f, eq_t, eq_f, nI_add, Nat.add_zero, xl_t, xl_f, xg_t, xg_f, xle_t, xle_f, xge_t, xge_f, xe_f, ci_t, ci_f, cx_t, cx_f, cn_t, cn_f, cp_t, cp_f, vi_t, cl_nI, c_er, m_er, eq_self, true_and, and_true, true_implies, false_implies, implies_true, not_true_eq_false, not_false_eq_true, true_or, or_true, forall_eq, pk_mul]
      refine ih (i + 1) _ (by omega) (fun k q => by rw [sf_ne q]; exact hk k q) (fun j q => ?_) (fun j q => by rw [sf_j (by omega)]; exact ho j q)
      by_cases e : j = i
      · subst e
        exact sf_e rfl rfl
      · rw [sf_j (by omega)]
        exact hj j (by omega)
  exact key 40 0 _ (by omega) (fun _ _ => rfl) (fun j hj => absurd hj (by omega)) (fun j _ => by rw [sf_ne (by omega), sf_ne (by omega)])
theorem b816 (x : Int32) : x = nI 0 ∨ x = nI 8 ∨ x = nI 16 ∨ x = nI 32 ∨ (¬ x = nI 0 ∧ ¬ x = nI 8 ∧ ¬ x = nI 16 ∧ ¬ x = nI 32) := by
  by_cases h0 : x = nI 0
  · exact Or.inl h0
  · by_cases h1 : x = nI 8
    · exact Or.inr (Or.inl h1)
    · by_cases h2 : x = nI 16
      · exact Or.inr (Or.inr (Or.inl h2))
      · by_cases h3 : x = nI 32
        · exact Or.inr (Or.inr (Or.inr (Or.inl h3)))
        · exact Or.inr (Or.inr (Or.inr (Or.inr ⟨h0, h1, h2, h3⟩)))
theorem lo_34 {n K : Nat} {Mc Mm : Mem} (a1 a2 a3 a4 a5 : Int32) (hn : n < 512) (hI : Inv n K Mc Mm) : LO_34 Inv n K Mc Mm a1 a2 a3 a4 a5 := by
  have hE := hI.er hn
  have hU := hI.up hn
  obtain ⟨a, b, V, W, F, t, im, hb, mo, ⟨hB, mr, d, v⟩, i1, i2⟩ := hI
  have h := hB.1
  have tr := hB.2.1
  have kd := hB.2.2
  have c := hb.cx mo
  have d0 := d.1.1
  have d1 := d.1.2.1
  have d2 := d.1.2.2
  have dh := d.2.1
  have dt := d.2.2.2.2.1
  have f0 : Mc 30 0 = nI (a 0) := h.1.1
  have f1 : Mc 30 1 = nI (a 1) := h.1.2.1
  have f2 : Mc 30 2 = nI (a 2) := h.1.2.2
  have g0 : Mm 1 0 = nI (a 0) := mr 0 (by omega)
  have g1 : Mm 1 1 = nI (a 1) := mr 1 (by omega)
  have g2 : Mm 1 2 = nI (a 2) := mr 2 (by omega)
  unfold LO_34
  rcases rng a1 3 (by omega) with ⟨s, hs, rfl⟩ | xs | xs
  · have fin : ∀ (B L : Nat), L ≤ 40 → (B = 0 ∨ B = 8 ∨ B = 16 ∨ B = 32) → P_X4_start K Mc (22 + 2 * s) (nI B) (nI L) (fun Mc1 => B_X12_sheet_90 (fun r2 Mm1 => nI 1 = r2 ∧ Inv (n + 1) K Mc1 Mm1) (nI s) (nI 0) (sf (sf Mm 12 s (nI B)) 13 s (nI L))) := fun B L hL hB8 => by
      refine c_sheetS (by omega) (fun M1 c1 c2 c3 c4 => m_sheetS (by omega) (fun M2 m1 m2 m3 m4 m5 m6 => ⟨rfl, Inv.she hn hb mo ⟨hB, mr, d, v⟩ i1 i2 (fun k q => c1 k (by omega) (by omega)) m1 (fun u hu => ?_)⟩))
      by_cases e : u = s
      · subst e
        exact ⟨L, B, hL, hB8, c2, m4, c3, m3, fun i hi o ho => by rw [c4 i hi, m5 i hi]⟩
      · obtain ⟨L', B', p1, p2, p3, p4, p5, p6, p7⟩ := i2.2.2.2.2.2 u hu
        refine ⟨L', B', p1, p2, ?_, ?_, ?_, ?_, fun i hi o ho => ?_⟩
        · rw [c1 _ (by omega) (by omega)]; exact p3
        · rw [(m2 u e).2]; exact p4
        · rw [c1 _ (by omega) (by omega)]; exact p5
        · rw [(m2 u e).1]; exact p6
        · rw [c1 _ (by omega) (by omega), m6 _ (by omega)]; exact p7 i hi o ho
    rcases b816 a2 with rfl | rfl | rfl | rfl | ⟨n0, n8, n16, n32⟩
    · simp (disch := omega) only [i_lit, l_0, l_1, l_2, l_3, l_5, l_6, l_8, l_9, l_23, l_24, l_48, l_57, l_69, l_100, in_e, ci_e, lt_t, lt_f, le_t, le_f, eq_t, eq_f, nI_add, Nat.add_zero, xl_t, xl_f, xg_t, xg_f, xle_t, xle_f, xge_t, xge_f, xe_f, ci_t, ci_f, cx_t, cx_f, cn_t, cn_f, cp_t, cp_f, vi_t, cl_nI, c_er, m_er, eq_self, true_and, and_true, true_implies, false_implies, implies_true, not_true_eq_false, not_false_eq_true, true_or, or_true, forall_eq, P_X11_sheet, B_X11_sheet_35, B_X11_sheet_49, B_X11_sheet_65, P_X11_isSheet, P_X12_sheet, B_X12_sheet_35, B_X12_sheet_49, B_X12_sheet_65, B_X12_sheet_86, P_X12_isSheet]
      exact fin 0 0 (by omega) (by omega)
    · rcases rng a3 40 (by omega) with ⟨l, hl, rfl⟩ | xl | xl
      · simp (disch := omega) only [i_lit, l_0, l_1, l_2, l_3, l_5, l_6, l_8, l_9, l_23, l_24, l_48, l_57, l_69, l_100, in_e, ci_e, lt_t, lt_f, le_t, le_f, eq_t, eq_f, nI_add, Nat.add_zero, xl_t, xl_f, xg_t, xg_f, xle_t, xle_f, xge_t, xge_f, xe_f, ci_t, ci_f, cx_t, cx_f, cn_t, cn_f, cp_t, cp_f, vi_t, cl_nI, c_er, m_er, eq_self, true_and, and_true, true_implies, false_implies, implies_true, not_true_eq_false, not_false_eq_true, true_or, or_true, forall_eq, P_X11_sheet, B_X11_sheet_35, B_X11_sheet_49, B_X11_sheet_65, P_X11_isSheet, P_X12_sheet, B_X12_sheet_35, B_X12_sheet_49, B_X12_sheet_65, B_X12_sheet_86, P_X12_isSheet]
        exact fin 8 l (by omega) (by omega)
      · simp (disch := omega) only [i_lit, l_0, l_1, l_2, l_3, l_5, l_6, l_8, l_9, l_23, l_24, l_48, l_57, l_69, l_100, in_e, ci_e, lt_t, lt_f, le_t, le_f, eq_t, eq_f, nI_add, Nat.add_zero, xl_t, xl_f, xg_t, xg_f, xle_t, xle_f, xge_t, xge_f, xe_f, ci_t, ci_f, cx_t, cx_f, cn_t, cn_f, cp_t, cp_f, vi_t, cl_nI, c_er, m_er, eq_self, true_and, and_true, true_implies, false_implies, implies_true, not_true_eq_false, not_false_eq_true, true_or, or_true, forall_eq, P_X11_sheet, B_X11_sheet_35, B_X11_sheet_49, P_X11_isSheet, P_X12_sheet, B_X12_sheet_35, B_X12_sheet_49, P_X12_isSheet]
        exact hE 3 (by omega)
      · simp (disch := omega) only [i_lit, l_0, l_1, l_2, l_3, l_5, l_6, l_8, l_9, l_23, l_24, l_48, l_57, l_69, l_100, in_e, ci_e, lt_t, lt_f, le_t, le_f, eq_t, eq_f, nI_add, Nat.add_zero, xl_t, xl_f, xg_t, xg_f, xle_t, xle_f, xge_t, xge_f, xe_f, ci_t, ci_f, cx_t, cx_f, cn_t, cn_f, cp_t, cp_f, vi_t, cl_nI, c_er, m_er, eq_self, true_and, and_true, true_implies, false_implies, implies_true, not_true_eq_false, not_false_eq_true, true_or, or_true, forall_eq, P_X11_sheet, B_X11_sheet_35, B_X11_sheet_49, P_X11_isSheet, P_X12_sheet, B_X12_sheet_35, B_X12_sheet_49, P_X12_isSheet]
        exact hE 1 (by omega)
    · rcases rng a3 40 (by omega) with ⟨l, hl, rfl⟩ | xl | xl
      · simp (disch := omega) only [i_lit, l_0, l_1, l_2, l_3, l_5, l_6, l_8, l_9, l_23, l_24, l_48, l_57, l_69, l_100, in_e, ci_e, lt_t, lt_f, le_t, le_f, eq_t, eq_f, nI_add, Nat.add_zero, xl_t, xl_f, xg_t, xg_f, xle_t, xle_f, xge_t, xge_f, xe_f, ci_t, ci_f, cx_t, cx_f, cn_t, cn_f, cp_t, cp_f, vi_t, cl_nI, c_er, m_er, eq_self, true_and, and_true, true_implies, false_implies, implies_true, not_true_eq_false, not_false_eq_true, true_or, or_true, forall_eq, P_X11_sheet, B_X11_sheet_35, B_X11_sheet_49, B_X11_sheet_65, P_X11_isSheet, P_X12_sheet, B_X12_sheet_35, B_X12_sheet_49, B_X12_sheet_65, B_X12_sheet_86, P_X12_isSheet]
        exact fin 16 l (by omega) (by omega)
      · simp (disch := omega) only [i_lit, l_0, l_1, l_2, l_3, l_5, l_6, l_8, l_9, l_23, l_24, l_48, l_57, l_69, l_100, in_e, ci_e, lt_t, lt_f, le_t, le_f, eq_t, eq_f, nI_add, Nat.add_zero, xl_t, xl_f, xg_t, xg_f, xle_t, xle_f, xge_t, xge_f, xe_f, ci_t, ci_f, cx_t, cx_f, cn_t, cn_f, cp_t, cp_f, vi_t, cl_nI, c_er, m_er, eq_self, true_and, and_true, true_implies, false_implies, implies_true, not_true_eq_false, not_false_eq_true, true_or, or_true, forall_eq, P_X11_sheet, B_X11_sheet_35, B_X11_sheet_49, P_X11_isSheet, P_X12_sheet, B_X12_sheet_35, B_X12_sheet_49, P_X12_isSheet]
        exact hE 3 (by omega)
      · simp (disch := omega) only [i_lit, l_0, l_1, l_2, l_3, l_5, l_6, l_8, l_9, l_23, l_24, l_48, l_57, l_69, l_100, in_e, ci_e, lt_t, lt_f, le_t, le_f, eq_t, eq_f, nI_add, Nat.add_zero, xl_t, xl_f, xg_t, xg_f, xle_t, xle_f, xge_t, xge_f, xe_f, ci_t, ci_f, cx_t, cx_f, cn_t, cn_f, cp_t, cp_f, vi_t, cl_nI, c_er, m_er, eq_self, true_and, and_true, true_implies, false_implies, implies_true, not_true_eq_false, not_false_eq_true, true_or, or_true, forall_eq, P_X11_sheet, B_X11_sheet_35, B_X11_sheet_49, P_X11_isSheet, P_X12_sheet, B_X12_sheet_35, B_X12_sheet_49, P_X12_isSheet]
        exact hE 1 (by omega)
    · rcases rng a3 40 (by omega) with ⟨l, hl, rfl⟩ | xl | xl
      · simp (disch := omega) only [i_lit, l_0, l_1, l_2, l_3, l_5, l_6, l_8, l_9, l_23, l_24, l_48, l_57, l_69, l_100, in_e, ci_e, lt_t, lt_f, le_t, le_f, eq_t, eq_f, nI_add, Nat.add_zero, xl_t, xl_f, xg_t, xg_f, xle_t, xle_f, xge_t, xge_f, xe_f, ci_t, ci_f, cx_t, cx_f, cn_t, cn_f, cp_t, cp_f, vi_t, cl_nI, c_er, m_er, eq_self, true_and, and_true, true_implies, false_implies, implies_true, not_true_eq_false, not_false_eq_true, true_or, or_true, forall_eq, P_X11_sheet, B_X11_sheet_35, B_X11_sheet_49, B_X11_sheet_65, P_X11_isSheet, P_X12_sheet, B_X12_sheet_35, B_X12_sheet_49, B_X12_sheet_65, B_X12_sheet_86, P_X12_isSheet]
        exact fin 32 l (by omega) (by omega)
      · simp (disch := omega) only [i_lit, l_0, l_1, l_2, l_3, l_5, l_6, l_8, l_9, l_23, l_24, l_48, l_57, l_69, l_100, in_e, ci_e, lt_t, lt_f, le_t, le_f, eq_t, eq_f, nI_add, Nat.add_zero, xl_t, xl_f, xg_t, xg_f, xle_t, xle_f, xge_t, xge_f, xe_f, ci_t, ci_f, cx_t, cx_f, cn_t, cn_f, cp_t, cp_f, vi_t, cl_nI, c_er, m_er, eq_self, true_and, and_true, true_implies, false_implies, implies_true, not_true_eq_false, not_false_eq_true, true_or, or_true, forall_eq, P_X11_sheet, B_X11_sheet_35, B_X11_sheet_49, P_X11_isSheet, P_X12_sheet, B_X12_sheet_35, B_X12_sheet_49, P_X12_isSheet]
        exact hE 3 (by omega)
      · simp (disch := omega) only [i_lit, l_0, l_1, l_2, l_3, l_5, l_6, l_8, l_9, l_23, l_24, l_48, l_57, l_69, l_100, in_e, ci_e, lt_t, lt_f, le_t, le_f, eq_t, eq_f, nI_add, Nat.add_zero, xl_t, xl_f, xg_t, xg_f, xle_t, xle_f, xge_t, xge_f, xe_f, ci_t, ci_f, cx_t, cx_f, cn_t, cn_f, cp_t, cp_f, vi_t, cl_nI, c_er, m_er, eq_self, true_and, and_true, true_implies, false_implies, implies_true, not_true_eq_false, not_false_eq_true, true_or, or_true, forall_eq, P_X11_sheet, B_X11_sheet_35, B_X11_sheet_49, P_X11_isSheet, P_X12_sheet, B_X12_sheet_35, B_X12_sheet_49, P_X12_isSheet]
        exact hE 1 (by omega)
    · simp (disch := omega) only [i_lit, l_0, l_1, l_2, l_3, l_5, l_6, l_8, l_9, l_23, l_24, l_48, l_57, l_69, l_100, in_e, ci_e, lt_t, lt_f, le_t, le_f, eq_t, eq_f, nI_add, Nat.add_zero, xl_t, xl_f, xg_t, xg_f, xle_t, xle_f, xge_t, xge_f, xe_f, ci_t, ci_f, cx_t, cx_f, cn_t, cn_f, cp_t, cp_f, vi_t, cl_nI, c_er, m_er, eq_self, true_and, and_true, true_implies, false_implies, implies_true, not_true_eq_false, not_false_eq_true, true_or, or_true, forall_eq, P_X11_sheet, P_X11_isSheet, P_X12_sheet, P_X12_isSheet, n0, n8, n16, n32]
      exact hE 1 (by omega)
  · simp (disch := omega) only [i_lit, l_0, l_1, l_2, l_3, l_5, l_6, l_8, l_9, l_23, l_24, l_48, l_57, l_69, l_100, in_e, ci_e, lt_t, lt_f, le_t, le_f, eq_t, eq_f, nI_add, Nat.add_zero, xl_t, xl_f, xg_t, xg_f, xle_t, xle_f, xge_t, xge_f, xe_f, ci_t, ci_f, cx_t, cx_f, cn_t, cn_f, cp_t, cp_f, vi_t, cl_nI, c_er, m_er, eq_self, true_and, and_true, true_implies, false_implies, implies_true, not_true_eq_false, not_false_eq_true, true_or, or_true, forall_eq, P_X11_sheet, P_X11_isSheet, P_X12_sheet, P_X12_isSheet]
    exact hE 1 (by omega)
  · simp (disch := omega) only [i_lit, l_0, l_1, l_2, l_3, l_5, l_6, l_8, l_9, l_23, l_24, l_48, l_57, l_69, l_100, in_e, ci_e, lt_t, lt_f, le_t, le_f, eq_t, eq_f, nI_add, Nat.add_zero, xl_t, xl_f, xg_t, xg_f, xle_t, xle_f, xge_t, xge_f, xe_f, ci_t, ci_f, cx_t, cx_f, cn_t, cn_f, cp_t, cp_f, vi_t, cl_nI, c_er, m_er, eq_self, true_and, and_true, true_implies, false_implies, implies_true, not_true_eq_false, not_false_eq_true, true_or, or_true, forall_eq, P_X11_sheet, P_X11_isSheet, P_X12_sheet, P_X12_isSheet]
    exact hE 1 (by omega)
theorem b8_eq (x : Int32) (o : Nat) (ho : o ≤ 9) : (x &&& nI 255 = nI o ↔ x.toInt8.toInt32 = nI o) := by
  rw [pk_and x (m := nI 255) 8 (by decide), eq_nI (by omega) (by omega), ← Int32.toInt_inj, Int8.toInt_toInt32, Int32.toInt_toInt8, nI_toInt (by omega)]
  have h : x.toInt = x.toBitVec.toInt := rfl
  rw [h, BitVec.toInt_eq_toNat_cond, Int.bmod_def]
  have := x.toBitVec.isLt
  split <;> split <;> omega
theorem b16_eq (x : Int32) (o : Nat) (ho : o ≤ 9) : (x &&& nI 65535 = nI o ↔ x.toInt16.toInt32 = nI o) := by
  rw [pk_and x (m := nI 65535) 16 (by decide), eq_nI (by omega) (by omega), ← Int32.toInt_inj, Int16.toInt_toInt32, Int32.toInt_toInt16, nI_toInt (by omega)]
  have h : x.toInt = x.toBitVec.toInt := rfl
  rw [h, BitVec.toInt_eq_toNat_cond, Int.bmod_def]
  have := x.toBitVec.isLt
  split <;> split <;> omega
theorem mk8 : (nI 1 <<< (nI 8 &&& nI 31)) - nI 1 = nI 255 := by decide
theorem mk16 : (nI 1 <<< (nI 16 &&& nI 31)) - nI 1 = nI 65535 := by decide
theorem lo_35 {n K : Nat} {Mc Mm : Mem} (a1 a2 a3 a4 a5 : Int32) (hn : n < 512) (hI : Inv n K Mc Mm) : LO_35 Inv n K Mc Mm a1 a2 a3 a4 a5 := by
  have hE := hI.er hn
  have hU := hI.up hn
  obtain ⟨a, b, V, W, F, t, im, hb, mo, ⟨hB, mr, d, v⟩, i1, i2⟩ := hI
  have h := hB.1
  have tr := hB.2.1
  have kd := hB.2.2
  have c := hb.cx mo
  have d0 := d.1.1
  have d1 := d.1.2.1
  have d2 := d.1.2.2
  have dh := d.2.1
  have dt := d.2.2.2.2.1
  have f0 : Mc 30 0 = nI (a 0) := h.1.1
  have f1 : Mc 30 1 = nI (a 1) := h.1.2.1
  have f2 : Mc 30 2 = nI (a 2) := h.1.2.2
  have g0 : Mm 1 0 = nI (a 0) := mr 0 (by omega)
  have g1 : Mm 1 1 = nI (a 1) := mr 1 (by omega)
  have g2 : Mm 1 2 = nI (a 2) := mr 2 (by omega)
  unfold LO_35
  rcases rng a1 3 (by omega) with ⟨s, hs, rfl⟩ | xs | xs
  · obtain ⟨L, B, p1, p2, p3, p4, p5, p6, p7⟩ := i2.2.2.2.2.2 s (by omega)
    have rl := rL_sh (s := s) (by omega)
    have fin : ∀ (x y : Int32) (k : Nat), k < L → (∀ o, o ≤ 9 → (x = nI o ↔ y = nI o)) → Inv (n + 1) K (sf Mc (22 + 2 * s + 1) k x) (sf Mm 14 (40 * s + k) y) := fun x y k hk hxy => by
      refine Inv.she hn hb mo ⟨hB, mr, d, v⟩ i1 i2 (fun k q => sf_ne (by omega)) (fun k q => sf_ne (by omega)) (fun u hu => ?_)
      obtain ⟨L', B', q1, q2, q3, q4, q5, q6, q7⟩ := i2.2.2.2.2.2 u hu
      refine ⟨L', B', q1, q2, ?_, ?_, ?_, ?_, fun i hi o ho => ?_⟩
      · rw [sf_ne (by omega)]; exact q3
      · rw [sf_ne (by omega)]; exact q4
      · rw [sf_ne (by omega)]; exact q5
      · rw [sf_ne (by omega)]; exact q6
      · by_cases e : u = s ∧ i = k
        · obtain ⟨rfl, rfl⟩ := e
          rw [sf_e rfl rfl, sf_e rfl rfl]
          exact hxy o ho
        · rw [sf_at Mm, if_pos rfl, if_neg (by omega)]
          by_cases e2 : u = s
          · subst e2
            rw [sf_j (by omega)]
            exact q7 i hi o ho
          · rw [sf_ne (by omega)]
            exact q7 i hi o ho
    rcases p2 with rfl | rfl | rfl | rfl
    · simp (disch := omega) only [i_lit, l_0, l_1, l_2, l_3, l_5, l_6, l_8, l_9, l_23, l_24, l_48, l_57, l_69, l_100, in_e, ci_e, lt_t, lt_f, le_t, le_f, eq_t, eq_f, nI_add, Nat.add_zero, xl_t, xl_f, xg_t, xg_f, xle_t, xle_f, xge_t, xge_f, xe_f, ci_t, ci_f, cx_t, cx_f, cn_t, cn_f, cp_t, cp_f, vi_t, cl_nI, c_er, m_er, eq_self, true_and, and_true, true_implies, false_implies, implies_true, not_true_eq_false, not_false_eq_true, true_or, or_true, forall_eq, P_X11_put, P_X11_isSheet, P_X12_put, P_X12_isSheet, p3, p4, p5, p6]
      exact hE 2 (by omega)
    · rcases rngl a2 L (by omega) with ⟨k, hk, rfl⟩ | xk | xk
      · simp (disch := omega) only [i_lit, l_0, l_1, l_2, l_3, l_5, l_6, l_8, l_9, l_23, l_24, l_48, l_57, l_69, l_100, in_e, ci_e, lt_t, lt_f, le_t, le_f, eq_t, eq_f, nI_add, Nat.add_zero, xl_t, xl_f, xg_t, xg_f, xle_t, xle_f, xge_t, xge_f, xe_f, ci_t, ci_f, cx_t, cx_f, cn_t, cn_f, cp_t, cp_f, vi_t, cl_nI, c_er, m_er, eq_self, true_and, and_true, true_implies, false_implies, implies_true, not_true_eq_false, not_false_eq_true, true_or, or_true, forall_eq, P_X11_put, P_X11_isSheet, P_X12_put, P_X12_isSheet, p3, p4, p5, p6, rl, pk_mul]
        rw [mk8]
        exact fin _ _ k hk (b8_eq a3)
      · simp (disch := omega) only [i_lit, l_0, l_1, l_2, l_3, l_5, l_6, l_8, l_9, l_23, l_24, l_48, l_57, l_69, l_100, in_e, ci_e, lt_t, lt_f, le_t, le_f, eq_t, eq_f, nI_add, Nat.add_zero, xl_t, xl_f, xg_t, xg_f, xle_t, xle_f, xge_t, xge_f, xe_f, ci_t, ci_f, cx_t, cx_f, cn_t, cn_f, cp_t, cp_f, vi_t, cl_nI, c_er, m_er, eq_self, true_and, and_true, true_implies, false_implies, implies_true, not_true_eq_false, not_false_eq_true, true_or, or_true, forall_eq, P_X11_put, P_X11_isSheet, P_X12_put, P_X12_isSheet, p3, p4, p5, p6]
        exact hE 1 (by omega)
      · simp (disch := omega) only [i_lit, l_0, l_1, l_2, l_3, l_5, l_6, l_8, l_9, l_23, l_24, l_48, l_57, l_69, l_100, in_e, ci_e, lt_t, lt_f, le_t, le_f, eq_t, eq_f, nI_add, Nat.add_zero, xl_t, xl_f, xg_t, xg_f, xle_t, xle_f, xge_t, xge_f, xe_f, ci_t, ci_f, cx_t, cx_f, cn_t, cn_f, cp_t, cp_f, vi_t, cl_nI, c_er, m_er, eq_self, true_and, and_true, true_implies, false_implies, implies_true, not_true_eq_false, not_false_eq_true, true_or, or_true, forall_eq, P_X11_put, P_X11_isSheet, P_X12_put, P_X12_isSheet, p3, p4, p5, p6]
        exact hE 1 (by omega)
    · rcases rngl a2 L (by omega) with ⟨k, hk, rfl⟩ | xk | xk
      · simp (disch := omega) only [i_lit, l_0, l_1, l_2, l_3, l_5, l_6, l_8, l_9, l_23, l_24, l_48, l_57, l_69, l_100, in_e, ci_e, lt_t, lt_f, le_t, le_f, eq_t, eq_f, nI_add, Nat.add_zero, xl_t, xl_f, xg_t, xg_f, xle_t, xle_f, xge_t, xge_f, xe_f, ci_t, ci_f, cx_t, cx_f, cn_t, cn_f, cp_t, cp_f, vi_t, cl_nI, c_er, m_er, eq_self, true_and, and_true, true_implies, false_implies, implies_true, not_true_eq_false, not_false_eq_true, true_or, or_true, forall_eq, P_X11_put, P_X11_isSheet, P_X12_put, P_X12_isSheet, p3, p4, p5, p6, rl, pk_mul]
        rw [mk16]
        exact fin _ _ k hk (b16_eq a3)
      · simp (disch := omega) only [i_lit, l_0, l_1, l_2, l_3, l_5, l_6, l_8, l_9, l_23, l_24, l_48, l_57, l_69, l_100, in_e, ci_e, lt_t, lt_f, le_t, le_f, eq_t, eq_f, nI_add, Nat.add_zero, xl_t, xl_f, xg_t, xg_f, xle_t, xle_f, xge_t, xge_f, xe_f, ci_t, ci_f, cx_t, cx_f, cn_t, cn_f, cp_t, cp_f, vi_t, cl_nI, c_er, m_er, eq_self, true_and, and_true, true_implies, false_implies, implies_true, not_true_eq_false, not_false_eq_true, true_or, or_true, forall_eq, P_X11_put, P_X11_isSheet, P_X12_put, P_X12_isSheet, p3, p4, p5, p6]
        exact hE 1 (by omega)
      · simp (disch := omega) only [i_lit, l_0, l_1, l_2, l_3, l_5, l_6, l_8, l_9, l_23, l_24, l_48, l_57, l_69, l_100, in_e, ci_e, lt_t, lt_f, le_t, le_f, eq_t, eq_f, nI_add, Nat.add_zero, xl_t, xl_f, xg_t, xg_f, xle_t, xle_f, xge_t, xge_f, xe_f, ci_t, ci_f, cx_t, cx_f, cn_t, cn_f, cp_t, cp_f, vi_t, cl_nI, c_er, m_er, eq_self, true_and, and_true, true_implies, false_implies, implies_true, not_true_eq_false, not_false_eq_true, true_or, or_true, forall_eq, P_X11_put, P_X11_isSheet, P_X12_put, P_X12_isSheet, p3, p4, p5, p6]
        exact hE 1 (by omega)
    · rcases rngl a2 L (by omega) with ⟨k, hk, rfl⟩ | xk | xk
      · simp (disch := omega) only [i_lit, l_0, l_1, l_2, l_3, l_5, l_6, l_8, l_9, l_23, l_24, l_48, l_57, l_69, l_100, in_e, ci_e, lt_t, lt_f, le_t, le_f, eq_t, eq_f, nI_add, Nat.add_zero, xl_t, xl_f, xg_t, xg_f, xle_t, xle_f, xge_t, xge_f, xe_f, ci_t, ci_f, cx_t, cx_f, cn_t, cn_f, cp_t, cp_f, vi_t, cl_nI, c_er, m_er, eq_self, true_and, and_true, true_implies, false_implies, implies_true, not_true_eq_false, not_false_eq_true, true_or, or_true, forall_eq, P_X11_put, P_X11_isSheet, P_X12_put, P_X12_isSheet, p3, p4, p5, p6, rl, pk_mul]
        exact fin _ _ k hk (fun o ho => Iff.rfl)
      · simp (disch := omega) only [i_lit, l_0, l_1, l_2, l_3, l_5, l_6, l_8, l_9, l_23, l_24, l_48, l_57, l_69, l_100, in_e, ci_e, lt_t, lt_f, le_t, le_f, eq_t, eq_f, nI_add, Nat.add_zero, xl_t, xl_f, xg_t, xg_f, xle_t, xle_f, xge_t, xge_f, xe_f, ci_t, ci_f, cx_t, cx_f, cn_t, cn_f, cp_t, cp_f, vi_t, cl_nI, c_er, m_er, eq_self, true_and, and_true, true_implies, false_implies, implies_true, not_true_eq_false, not_false_eq_true, true_or, or_true, forall_eq, P_X11_put, P_X11_isSheet, P_X12_put, P_X12_isSheet, p3, p4, p5, p6]
        exact hE 1 (by omega)
      · simp (disch := omega) only [i_lit, l_0, l_1, l_2, l_3, l_5, l_6, l_8, l_9, l_23, l_24, l_48, l_57, l_69, l_100, in_e, ci_e, lt_t, lt_f, le_t, le_f, eq_t, eq_f, nI_add, Nat.add_zero, xl_t, xl_f, xg_t, xg_f, xle_t, xle_f, xge_t, xge_f, xe_f, ci_t, ci_f, cx_t, cx_f, cn_t, cn_f, cp_t, cp_f, vi_t, cl_nI, c_er, m_er, eq_self, true_and, and_true, true_implies, false_implies, implies_true, not_true_eq_false, not_false_eq_true, true_or, or_true, forall_eq, P_X11_put, P_X11_isSheet, P_X12_put, P_X12_isSheet, p3, p4, p5, p6]
        exact hE 1 (by omega)
  · simp (disch := omega) only [i_lit, l_0, l_1, l_2, l_3, l_5, l_6, l_8, l_9, l_23, l_24, l_48, l_57, l_69, l_100, in_e, ci_e, lt_t, lt_f, le_t, le_f, eq_t, eq_f, nI_add, Nat.add_zero, xl_t, xl_f, xg_t, xg_f, xle_t, xle_f, xge_t, xge_f, xe_f, ci_t, ci_f, cx_t, cx_f, cn_t, cn_f, cp_t, cp_f, vi_t, cl_nI, c_er, m_er, eq_self, true_and, and_true, true_implies, false_implies, implies_true, not_true_eq_false, not_false_eq_true, true_or, or_true, forall_eq, P_X11_put, P_X11_isSheet, P_X12_put, P_X12_isSheet]
    exact hE 1 (by omega)
  · simp (disch := omega) only [i_lit, l_0, l_1, l_2, l_3, l_5, l_6, l_8, l_9, l_23, l_24, l_48, l_57, l_69, l_100, in_e, ci_e, lt_t, lt_f, le_t, le_f, eq_t, eq_f, nI_add, Nat.add_zero, xl_t, xl_f, xg_t, xg_f, xle_t, xle_f, xge_t, xge_f, xe_f, ci_t, ci_f, cx_t, cx_f, cn_t, cn_f, cp_t, cp_f, vi_t, cl_nI, c_er, m_er, eq_self, true_and, and_true, true_implies, false_implies, implies_true, not_true_eq_false, not_false_eq_true, true_or, or_true, forall_eq, P_X11_put, P_X11_isSheet, P_X12_put, P_X12_isSheet]
    exact hE 1 (by omega)
