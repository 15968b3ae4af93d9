/-! ===== move, judge, image, restore ===== -/
theorem cpy_at' {α : Type} (f g : Nat → α) (i j n k : Nat) : va_cpy f g i j n k = if j ≤ k ∧ k < j + n then f (i + (k - j)) else g k := by
  by_cases h : j ≤ k ∧ k < j + n
  · rw [if_pos h, pk_cpy_in h.1 h.2]
  · rw [if_neg h, pk_cpy_out (by omega)]
theorem m_lift {s i m : Nat} {u : Int32} {M : Mem} {Q : Int32 → Mem → Prop} {x3 x4 : Int32} (hs : s < 4) (hi : i + m ≤ 40) (hQ : ∀ M' : Mem, (∀ k, k ≠ 15 → M' k = M k) → (∀ j, j < m → M' 15 j = M 14 (40 * s + (i + j))) → B_X12_move_152 Q x3 x4 (nI m) 0 M') : B_X12_move_115 Q (nI s) (nI i) x3 x4 (nI m) 0 M := by
  unfold B_X12_move_115
  intro X hX
  have key : ∀ f k (M1 : Mem), k + f = m → (∀ k, k ≠ 15 → M1 k = M k) → (∀ j, j < k → M1 15 j = M 14 (40 * s + (i + j))) → X (nI k) M1 := by
    intro f
    induction f with
    | zero =>
      intro k M1 hk h1 h2
      obtain rfl : k = m := by omega
      apply hX
      refine br_t (nI_le (Nat.le_refl _) (by omega)) (hQ M1 h1 h2)
    | succ f ih =>
      intro k M1 hk h1 h2
      apply hX
      have e : (40 : Int32) * nI s + nI i + nI k = nI (40 * s + (i + k)) := by
        rw [show (40 : Int32) = nI 40 from rfl, pk_mul, nI_add, nI_add]
        congr 1
        omega
      rw [e]
      refine br_f (nI_ge (by omega) (by omega)) ⟨vp_in_nI (by omega) (by omega), vp_in_nI (by omega) (by omega), ?_⟩
      rw [cl_nI (by omega), cl_nI (by omega), h1 14 (by omega)]
      rintro _ rfl _ rfl
      rw [nI_1]
      refine ih (k + 1) _ (by omega) (fun q q5 => by rw [sf_ne q5]; exact h1 q q5) (fun j hj => ?_)
      by_cases q : j = k
      · subst q
        exact sf_e rfl rfl
      · rw [sf_j q]
        exact h2 j (by omega)
  exact key m 0 M (by omega) (fun _ _ => rfl) (fun j hj => absurd hj (by omega))
theorem m_lay {s j m : Nat} {M : Mem} {Q : Int32 → Mem → Prop} (hs : s < 4) (hj : j + m ≤ 40) (hQ : ∀ M' : Mem, (∀ k, k ≠ 14 → M' k = M k) → (∀ k, M' 14 k = if 40 * s + j ≤ k ∧ k < 40 * s + j + m then M 15 (k - (40 * s + j)) else M 14 k) → Q (nI m) M') : B_X12_move_152 Q (nI s) (nI j) (nI m) 0 M := by
  unfold B_X12_move_152
  intro X hX
  have key : ∀ f k (M1 : Mem), k + f = m → (∀ k, k ≠ 14 → M1 k = M k) → (∀ q, M1 14 q = if 40 * s + j ≤ q ∧ q < 40 * s + j + k then M 15 (q - (40 * s + j)) else M 14 q) → X (nI k) M1 := by
    intro f
    induction f with
    | zero =>
      intro k M1 hk h1 h2
      obtain rfl : k = m := by omega
      apply hX
      refine br_t (nI_le (Nat.le_refl _) (by omega)) (hQ M1 h1 h2)
    | succ f ih =>
      intro k M1 hk h1 h2
      apply hX
      have e : (40 : Int32) * nI s + nI j + nI k = nI (40 * s + j + k) := by
        rw [show (40 : Int32) = nI 40 from rfl, pk_mul, nI_add, nI_add]
      rw [e]
      refine br_f (nI_ge (by omega) (by omega)) ⟨vp_in_nI (by omega) (by omega), vp_in_nI (by omega) (by omega), ?_⟩
      rw [cl_nI (by omega), cl_nI (by omega), h1 15 (by omega)]
      rintro _ rfl _ rfl
      rw [nI_1]
      refine ih (k + 1) _ (by omega) (fun q q5 => by rw [sf_ne q5]; exact h1 q q5) (fun q => ?_)
      by_cases e2 : q = 40 * s + j + k
      · subst e2
        rw [sf_e rfl rfl, if_pos (by omega)]
        congr 1
        omega
      · rw [sf_j e2, h2 q]
        by_cases e3 : 40 * s + j ≤ q ∧ q < 40 * s + j + k
        · rw [if_pos e3, if_pos (by omega)]
        · rw [if_neg e3, if_neg (by omega)]
  exact key m 0 M (by omega) (fun _ _ => rfl) (fun q => by rw [if_neg (by omega)])
theorem sbx {L m : Nat} {x : Int32} (hm : m ≤ L) (hL : L ≤ 40) : nI L - nI m < x ↔ (L : Int) - m < x.toInt := by
  rw [Int32.lt_iff_toInt_lt, pk_sub_toInt (by omega) (by omega)]
theorem xsb {L : Nat} {x y : Int32} (hL : L ≤ 40) (hx : 0 ≤ x.toInt) (hy : 0 ≤ y.toInt) : nI L - x < y ↔ (L : Int) - x.toInt < y.toInt := by
  have b1 := Int32.toInt_lt x
  have e : (nI L - x).toInt = (L : Int) - x.toInt := by
    rw [Int32.toInt_sub, nI_toInt (by omega)]
    exact Int.bmod_eq_of_le (by omega) (by omega)
  rw [Int32.lt_iff_toInt_lt, e]
theorem c_holds {K s L : Nat} {M : Mem} {x y : Int32} {Q : Int32 → Prop} (hL : L ≤ 40) (hl : M s 1 = nI L) (h1 : ∀ i m, i + m ≤ L → x = nI i → y = nI m → Q 1) (h0 : (x.toInt < 0 ∨ y.toInt < 0 ∨ (0 ≤ x.toInt ∧ 0 ≤ y.toInt ∧ (L : Int) < x.toInt + y.toInt)) → Q 0) : P_X4_holds K M s x y Q := by
  unfold P_X4_holds
  rw [hl]
  refine ⟨fun q => h0 (Or.inl ?_), fun q => ⟨fun q2 => h0 (Or.inr (Or.inl ?_)), fun q2 => ?_⟩⟩
  · rw [Int32.lt_iff_toInt_lt] at q; exact q
  · rw [Int32.lt_iff_toInt_lt] at q2; exact q2
  · obtain ⟨i, hi, rfl⟩ := nI_of q
    obtain ⟨m, hm, rfl⟩ := nI_of q2
    rw [nI_toInt (by omega), nI_toInt (by omega)] at h0
    refine ⟨fun z => h0 ?_, fun z => ?_⟩
    · rw [lt_nI (by omega) (by omega)] at z
      omega
    · rw [lt_nI (by omega) (by omega)] at z
      rw [sb_nI (by omega), lt_nI (by omega) (by omega)]
      exact ⟨fun z2 => h0 (by omega), fun z2 => h1 i m (by omega) rfl rfl⟩
theorem lo_36 {n K : Nat} {Mc Mm : Mem} (a1 a2 a3 a4 a5 : Int32) (hn : n < 512) (hI : Inv n K Mc Mm) : LO_36 Inv n K Mc Mm a1 a2 a3 a4 a5 := by
  have hE := hI.er hn
  have hU := hI.up hn
  obtain ⟨a, b, V, W, F, t, im, hb, mo, ⟨hB, mr, d, v⟩, i1, i2⟩ := hI
  have h := hB.1
  have tr := hB.2.1
  have kd := hB.2.2
  have c := hb.cx mo
  have d0 := d.1.1
  have d1 := d.1.2.1
  have d2 := d.1.2.2
  have dh := d.2.1
  have dt := d.2.2.2.2.1
  have f0 : Mc 30 0 = nI (a 0) := h.1.1
  have f1 : Mc 30 1 = nI (a 1) := h.1.2.1
  have f2 : Mc 30 2 = nI (a 2) := h.1.2.2
  have g0 : Mm 1 0 = nI (a 0) := mr 0 (by omega)
  have g1 : Mm 1 1 = nI (a 1) := mr 1 (by omega)
  have g2 : Mm 1 2 = nI (a 2) := mr 2 (by omega)
  unfold LO_36
  rcases rng a1 3 (by omega) with ⟨s, hs, rfl⟩ | xs | xs
  · rcases rng a3 3 (by omega) with ⟨u, hu, rfl⟩ | xu | xu
    · obtain ⟨L, B, p1, p2, p3, p4, p5, p6, p7⟩ := i2.2.2.2.2.2 s (by omega)
      obtain ⟨L', B', q1, q2, q3, q4, q5, q6, q7⟩ := i2.2.2.2.2.2 u (by omega)
      have rl := rL_sh (s := s) (by omega)
      have rl' := rL_sh (s := u) (by omega)
      by_cases b0 : B = 0
      · simp (disch := omega) only [i_lit, l_0, l_1, l_2, l_3, l_5, l_6, l_8, l_9, l_23, l_24, l_48, l_57, l_69, l_100, in_e, ci_e, lt_t, lt_f, le_t, le_f, eq_t, eq_f, nI_add, Nat.add_zero, xl_t, xl_f, xg_t, xg_f, xle_t, xle_f, xge_t, xge_f, xe_f, ci_t, ci_f, cx_t, cx_f, cn_t, cn_f, cp_t, cp_f, vi_t, cl_nI, c_er, m_er, eq_self, true_and, and_true, true_implies, false_implies, implies_true, not_true_eq_false, not_false_eq_true, true_or, or_true, forall_eq, P_X11_move, P_X11_isSheet, P_X12_move, P_X12_isSheet, p3, p4, p5, p6]
        exact hE 2 (by omega)
      · by_cases b0' : B' = 0
        · simp (disch := omega) only [i_lit, l_0, l_1, l_2, l_3, l_5, l_6, l_8, l_9, l_23, l_24, l_48, l_57, l_69, l_100, in_e, ci_e, lt_t, lt_f, le_t, le_f, eq_t, eq_f, nI_add, Nat.add_zero, xl_t, xl_f, xg_t, xg_f, xle_t, xle_f, xge_t, xge_f, xe_f, ci_t, ci_f, cx_t, cx_f, cn_t, cn_f, cp_t, cp_f, vi_t, cl_nI, c_er, m_er, eq_self, true_and, and_true, true_implies, false_implies, implies_true, not_true_eq_false, not_false_eq_true, true_or, or_true, forall_eq, P_X11_move, P_X11_isSheet, P_X12_move, P_X12_isSheet, p3, p4, p5, p6, q3, q4, q5, q6]
          exact hE 2 (by omega)
        · by_cases bb : B = B'
          · subst bb
            simp (disch := omega) only [i_lit, l_0, l_1, l_2, l_3, l_5, l_6, l_8, l_9, l_23, l_24, l_48, l_57, l_69, l_100, in_e, ci_e, lt_t, lt_f, le_t, le_f, eq_t, eq_f, nI_add, Nat.add_zero, xl_t, xl_f, xg_t, xg_f, xle_t, xle_f, xge_t, xge_f, xe_f, ci_t, ci_f, cx_t, cx_f, cn_t, cn_f, cp_t, cp_f, vi_t, cl_nI, c_er, m_er, eq_self, true_and, and_true, true_implies, false_implies, implies_true, not_true_eq_false, not_false_eq_true, true_or, or_true, forall_eq, P_X11_move, P_X11_isSheet, p3, p4, p5, p6, q3, q4, q5, q6]
            refine c_holds p1 p3 (fun i m him e1 e2 => ?_) (fun ho => ?_)
            · subst e1 e2
              simp (disch := omega) only [i_lit, l_0, l_1, l_2, l_3, l_5, l_6, l_8, l_9, l_23, l_24, l_48, l_57, l_69, l_100, in_e, ci_e, lt_t, lt_f, le_t, le_f, eq_t, eq_f, nI_add, Nat.add_zero, xl_t, xl_f, xg_t, xg_f, xle_t, xle_f, xge_t, xge_f, xe_f, ci_t, ci_f, cx_t, cx_f, cn_t, cn_f, cp_t, cp_f, vi_t, cl_nI, c_er, m_er, eq_self, true_and, and_true, true_implies, false_implies, implies_true, not_true_eq_false, not_false_eq_true, true_or, or_true, forall_eq]
              refine c_holds q1 q3 (fun j m' hjm e1 e2 => ?_) (fun ho => ?_)
              · subst e1
                obtain rfl : m = m' := (eq_nI (by omega) (by omega)).mp e2
                simp (disch := omega) only [i_lit, l_0, l_1, l_2, l_3, l_5, l_6, l_8, l_9, l_23, l_24, l_48, l_57, l_69, l_100, in_e, ci_e, lt_t, lt_f, le_t, le_f, eq_t, eq_f, nI_add, Nat.add_zero, xl_t, xl_f, xg_t, xg_f, xle_t, xle_f, xge_t, xge_f, xe_f, ci_t, ci_f, cx_t, cx_f, cn_t, cn_f, cp_t, cp_f, vi_t, cl_nI, c_er, m_er, eq_self, true_and, and_true, true_implies, false_implies, implies_true, not_true_eq_false, not_false_eq_true, true_or, or_true, forall_eq, rl, rl', P_X12_move, P_X12_isSheet, p4, q4, p6, q6, sb_nI]
                refine ⟨by omega, by omega, ?_⟩
                refine m_lift (u := 0) (by omega) (by omega) (fun M1 k1 h1 => m_lay (by omega) (by omega) (fun M2 k2 h2 => ⟨rfl, ?_⟩))
                refine Inv.she hn hb mo ⟨hB, mr, d, v⟩ i1 i2 (fun k q => mu_n _ _ (by omega)) (fun k q => by rw [k2 k (by omega), k1 k (by omega)]) (fun w hw => ?_)
                obtain ⟨Lw, Bw, r1, r2, r3, r4, r5, r6, r7⟩ := i2.2.2.2.2.2 w hw
                refine ⟨Lw, Bw, r1, r2, ?_, ?_, ?_, ?_, fun c1 hc1 o ho => ?_⟩
                · rw [mu_n _ _ (by omega)]; exact r3
                · rw [k2 13 (by omega), k1 13 (by omega)]; exact r4
                · rw [mu_n _ _ (by omega)]; exact r5
                · rw [k2 12 (by omega), k1 12 (by omega)]; exact r6
                · rw [h2, k1 14 (by omega)]
                  by_cases e : w = u
                  · subst e
                    rw [mu_at, if_pos rfl, cpy_at']
                    by_cases e2 : j ≤ c1 ∧ c1 < j + m
                    · rw [if_pos e2, if_pos (by omega), h1 _ (by omega), p7 _ (by omega) o ho, show 40 * s + (i + (40 * w + c1 - (40 * w + j))) = 40 * s + (i + (c1 - j)) by omega]
                    · rw [if_neg e2, if_neg (by omega)]
                      exact r7 c1 hc1 o ho
                  · rw [mu_at, if_neg (by omega), if_neg (by omega)]
                    exact r7 c1 hc1 o ho
              · rw [nI_toInt (by omega)] at ho
                rcases ho with q | q | ⟨z1, z2, z3⟩
                · simp (disch := omega) only [i_lit, l_0, l_1, l_2, l_3, l_5, l_6, l_8, l_9, l_23, l_24, l_48, l_57, l_69, l_100, in_e, ci_e, lt_t, lt_f, le_t, le_f, eq_t, eq_f, nI_add, Nat.add_zero, xl_t, xl_f, xg_t, xg_f, xle_t, xle_f, xge_t, xge_f, xe_f, ci_t, ci_f, cx_t, cx_f, cn_t, cn_f, cp_t, cp_f, vi_t, cl_nI, c_er, m_er, eq_self, true_and, and_true, true_implies, false_implies, implies_true, not_true_eq_false, not_false_eq_true, true_or, or_true, forall_eq, P_X12_move, P_X12_isSheet, p4, q4, p6, q6]
                  exact hE 1 (by omega)
                · omega
                · obtain ⟨j, hj, rfl⟩ := nI_of (x := a4) (by rw [Int32.lt_iff_toInt_lt]; have : (0 : Int32).toInt = 0 := rfl; omega)
                  rw [nI_toInt (by omega)] at z3
                  have e3 : (nI m ≤ nI L' - nI j) = False := eq_false (by
                    by_cases z : j ≤ L'
                    · rw [sb_nI z, le_nI (by omega) (by omega)]
                      omega
                    · have z4 : (nI L' - nI j).toInt < 0 := by
                        rw [Int32.toInt_sub, nI_toInt (by omega), nI_toInt (by omega), Int.bmod_eq_of_le (by omega) (by omega)]
                        omega
                      rw [Int32.le_iff_toInt_le, nI_toInt (by omega)]
                      omega)
                  simp (disch := omega) only [i_lit, l_0, l_1, l_2, l_3, l_5, l_6, l_8, l_9, l_23, l_24, l_48, l_57, l_69, l_100, in_e, ci_e, lt_t, lt_f, le_t, le_f, eq_t, eq_f, nI_add, Nat.add_zero, xl_t, xl_f, xg_t, xg_f, xle_t, xle_f, xge_t, xge_f, xe_f, ci_t, ci_f, cx_t, cx_f, cn_t, cn_f, cp_t, cp_f, vi_t, cl_nI, c_er, m_er, eq_self, true_and, and_true, true_implies, false_implies, implies_true, not_true_eq_false, not_false_eq_true, true_or, or_true, forall_eq, P_X12_move, P_X12_isSheet, p4, q4, p6, q6, sb_nI (a := L) (b := i), e3]
                  exact hE 1 (by omega)
            · have e1 : a5.toInt < 0 ∨ a2.toInt < 0 ∨ a4.toInt < 0 ∨ (0 ≤ a5.toInt ∧ 0 ≤ a2.toInt ∧ 0 ≤ a4.toInt ∧ (L : Int) < a2.toInt + a5.toInt) := by omega
              rcases e1 with q | q | q | ⟨z1, z2, z0, z3⟩
              · simp (disch := omega) only [i_lit, l_0, l_1, l_2, l_3, l_5, l_6, l_8, l_9, l_23, l_24, l_48, l_57, l_69, l_100, in_e, ci_e, lt_t, lt_f, le_t, le_f, eq_t, eq_f, nI_add, Nat.add_zero, xl_t, xl_f, xg_t, xg_f, xle_t, xle_f, xge_t, xge_f, xe_f, ci_t, ci_f, cx_t, cx_f, cn_t, cn_f, cp_t, cp_f, vi_t, cl_nI, c_er, m_er, eq_self, true_and, and_true, true_implies, false_implies, implies_true, not_true_eq_false, not_false_eq_true, true_or, or_true, forall_eq, P_X12_move, P_X12_isSheet, p4, q4, p6, q6]
                exact hE 1 (by omega)
              · by_cases q9 : a5.toInt < 0
                · simp (disch := omega) only [i_lit, l_0, l_1, l_2, l_3, l_5, l_6, l_8, l_9, l_23, l_24, l_48, l_57, l_69, l_100, in_e, ci_e, lt_t, lt_f, le_t, le_f, eq_t, eq_f, nI_add, Nat.add_zero, xl_t, xl_f, xg_t, xg_f, xle_t, xle_f, xge_t, xge_f, xe_f, ci_t, ci_f, cx_t, cx_f, cn_t, cn_f, cp_t, cp_f, vi_t, cl_nI, c_er, m_er, eq_self, true_and, and_true, true_implies, false_implies, implies_true, not_true_eq_false, not_false_eq_true, true_or, or_true, forall_eq, P_X12_move, P_X12_isSheet, p4, q4, p6, q6]
                  exact hE 1 (by omega)
                · simp (disch := omega) only [i_lit, l_0, l_1, l_2, l_3, l_5, l_6, l_8, l_9, l_23, l_24, l_48, l_57, l_69, l_100, in_e, ci_e, lt_t, lt_f, le_t, le_f, eq_t, eq_f, nI_add, Nat.add_zero, xl_t, xl_f, xg_t, xg_f, xle_t, xle_f, xge_t, xge_f, xe_f, ci_t, ci_f, cx_t, cx_f, cn_t, cn_f, cp_t, cp_f, vi_t, cl_nI, c_er, m_er, eq_self, true_and, and_true, true_implies, false_implies, implies_true, not_true_eq_false, not_false_eq_true, true_or, or_true, forall_eq, P_X12_move, P_X12_isSheet, p4, q4, p6, q6]
                  exact hE 1 (by omega)
              · by_cases q9 : a5.toInt < 0
                · simp (disch := omega) only [i_lit, l_0, l_1, l_2, l_3, l_5, l_6, l_8, l_9, l_23, l_24, l_48, l_57, l_69, l_100, in_e, ci_e, lt_t, lt_f, le_t, le_f, eq_t, eq_f, nI_add, Nat.add_zero, xl_t, xl_f, xg_t, xg_f, xle_t, xle_f, xge_t, xge_f, xe_f, ci_t, ci_f, cx_t, cx_f, cn_t, cn_f, cp_t, cp_f, vi_t, cl_nI, c_er, m_er, eq_self, true_and, and_true, true_implies, false_implies, implies_true, not_true_eq_false, not_false_eq_true, true_or, or_true, forall_eq, P_X12_move, P_X12_isSheet, p4, q4, p6, q6]
                  exact hE 1 (by omega)
                · by_cases q8 : a2.toInt < 0
                  · simp (disch := omega) only [i_lit, l_0, l_1, l_2, l_3, l_5, l_6, l_8, l_9, l_23, l_24, l_48, l_57, l_69, l_100, in_e, ci_e, lt_t, lt_f, le_t, le_f, eq_t, eq_f, nI_add, Nat.add_zero, xl_t, xl_f, xg_t, xg_f, xle_t, xle_f, xge_t, xge_f, xe_f, ci_t, ci_f, cx_t, cx_f, cn_t, cn_f, cp_t, cp_f, vi_t, cl_nI, c_er, m_er, eq_self, true_and, and_true, true_implies, false_implies, implies_true, not_true_eq_false, not_false_eq_true, true_or, or_true, forall_eq, P_X12_move, P_X12_isSheet, p4, q4, p6, q6]
                    exact hE 1 (by omega)
                  · simp (disch := omega) only [i_lit, l_0, l_1, l_2, l_3, l_5, l_6, l_8, l_9, l_23, l_24, l_48, l_57, l_69, l_100, in_e, ci_e, lt_t, lt_f, le_t, le_f, eq_t, eq_f, nI_add, Nat.add_zero, xl_t, xl_f, xg_t, xg_f, xle_t, xle_f, xge_t, xge_f, xe_f, ci_t, ci_f, cx_t, cx_f, cn_t, cn_f, cp_t, cp_f, vi_t, cl_nI, c_er, m_er, eq_self, true_and, and_true, true_implies, false_implies, implies_true, not_true_eq_false, not_false_eq_true, true_or, or_true, forall_eq, P_X12_move, P_X12_isSheet, p4, q4, p6, q6]
                    exact hE 1 (by omega)
              · have e3 : (nI L - a2 < a5) = True := eq_true ((xsb p1 z2 z1).mpr (by omega))
                simp (disch := omega) only [i_lit, l_0, l_1, l_2, l_3, l_5, l_6, l_8, l_9, l_23, l_24, l_48, l_57, l_69, l_100, in_e, ci_e, lt_t, lt_f, le_t, le_f, eq_t, eq_f, nI_add, Nat.add_zero, xl_t, xl_f, xg_t, xg_f, xle_t, xle_f, xge_t, xge_f, xe_f, ci_t, ci_f, cx_t, cx_f, cn_t, cn_f, cp_t, cp_f, vi_t, cl_nI, c_er, m_er, eq_self, true_and, and_true, true_implies, false_implies, implies_true, not_true_eq_false, not_false_eq_true, true_or, or_true, forall_eq, P_X12_move, P_X12_isSheet, p4, q4, p6, q6, e3]
                exact hE 1 (by omega)
          · simp (disch := omega) only [i_lit, l_0, l_1, l_2, l_3, l_5, l_6, l_8, l_9, l_23, l_24, l_48, l_57, l_69, l_100, in_e, ci_e, lt_t, lt_f, le_t, le_f, eq_t, eq_f, nI_add, Nat.add_zero, xl_t, xl_f, xg_t, xg_f, xle_t, xle_f, xge_t, xge_f, xe_f, ci_t, ci_f, cx_t, cx_f, cn_t, cn_f, cp_t, cp_f, vi_t, cl_nI, c_er, m_er, eq_self, true_and, and_true, true_implies, false_implies, implies_true, not_true_eq_false, not_false_eq_true, true_or, or_true, forall_eq, P_X11_move, P_X11_isSheet, P_X12_move, P_X12_isSheet, p3, p4, p5, p6, q3, q4, q5, q6]
            exact hE 5 (by omega)
    · simp (disch := omega) only [i_lit, l_0, l_1, l_2, l_3, l_5, l_6, l_8, l_9, l_23, l_24, l_48, l_57, l_69, l_100, in_e, ci_e, lt_t, lt_f, le_t, le_f, eq_t, eq_f, nI_add, Nat.add_zero, xl_t, xl_f, xg_t, xg_f, xle_t, xle_f, xge_t, xge_f, xe_f, ci_t, ci_f, cx_t, cx_f, cn_t, cn_f, cp_t, cp_f, vi_t, cl_nI, c_er, m_er, eq_self, true_and, and_true, true_implies, false_implies, implies_true, not_true_eq_false, not_false_eq_true, true_or, or_true, forall_eq, P_X11_move, P_X11_isSheet, P_X12_move, P_X12_isSheet]
      exact hE 1 (by omega)
    · simp (disch := omega) only [i_lit, l_0, l_1, l_2, l_3, l_5, l_6, l_8, l_9, l_23, l_24, l_48, l_57, l_69, l_100, in_e, ci_e, lt_t, lt_f, le_t, le_f, eq_t, eq_f, nI_add, Nat.add_zero, xl_t, xl_f, xg_t, xg_f, xle_t, xle_f, xge_t, xge_f, xe_f, ci_t, ci_f, cx_t, cx_f, cn_t, cn_f, cp_t, cp_f, vi_t, cl_nI, c_er, m_er, eq_self, true_and, and_true, true_implies, false_implies, implies_true, not_true_eq_false, not_false_eq_true, true_or, or_true, forall_eq, P_X11_move, P_X11_isSheet, P_X12_move, P_X12_isSheet]
      exact hE 1 (by omega)
  · simp (disch := omega) only [i_lit, l_0, l_1, l_2, l_3, l_5, l_6, l_8, l_9, l_23, l_24, l_48, l_57, l_69, l_100, in_e, ci_e, lt_t, lt_f, le_t, le_f, eq_t, eq_f, nI_add, Nat.add_zero, xl_t, xl_f, xg_t, xg_f, xle_t, xle_f, xge_t, xge_f, xe_f, ci_t, ci_f, cx_t, cx_f, cn_t, cn_f, cp_t, cp_f, vi_t, cl_nI, c_er, m_er, eq_self, true_and, and_true, true_implies, false_implies, implies_true, not_true_eq_false, not_false_eq_true, true_or, or_true, forall_eq, P_X11_move, P_X11_isSheet, P_X12_move, P_X12_isSheet]
    exact hE 1 (by omega)
  · simp (disch := omega) only [i_lit, l_0, l_1, l_2, l_3, l_5, l_6, l_8, l_9, l_23, l_24, l_48, l_57, l_69, l_100, in_e, ci_e, lt_t, lt_f, le_t, le_f, eq_t, eq_f, nI_add, Nat.add_zero, xl_t, xl_f, xg_t, xg_f, xle_t, xle_f, xge_t, xge_f, xe_f, ci_t, ci_f, cx_t, cx_f, cn_t, cn_f, cp_t, cp_f, vi_t, cl_nI, c_er, m_er, eq_self, true_and, and_true, true_implies, false_implies, implies_true, not_true_eq_false, not_false_eq_true, true_or, or_true, forall_eq, P_X11_move, P_X11_isSheet, P_X12_move, P_X12_isSheet]
    exact hE 1 (by omega)
