/-! ===== judge, image, restore ===== -/
/-- the first that isn't so, one more; 0: all are -/
def unl (p : Nat → Bool) : Nat → Nat → Nat
  | 0, _ => 0
  | f + 1, i => if p i = true then unl p f (i + 1) else i + 1
theorem unl_s (p : Nat → Bool) (f i : Nat) : unl p (f + 1) i = if p i = true then unl p f (i + 1) else i + 1 := rfl
theorem unl_0 {p : Nat → Bool} : ∀ f i, unl p f i = 0 ↔ ∀ j, i ≤ j → j < i + f → p j = true
  | 0, i => ⟨fun _ j h1 h2 => absurd h2 (by omega), fun _ => rfl⟩
  | f + 1, i => by
    rw [unl_s]
    by_cases h : p i = true
    · rw [if_pos h, unl_0 f (i + 1)]
      constructor
      · intro q j h1 h2
        by_cases e : j = i
        · rw [e]; exact h
        · exact q j (by omega) (by omega)
      · intro q j h1 h2
        exact q j (by omega) (by omega)
    · rw [if_neg h]
      constructor
      · intro q; omega
      · intro q
        exact absurd (q i (by omega) (by omega)) h
def jdg (p : Nat → Bool) (L n : Nat) : Nat := if unl p (if L < n then L else n) 0 = 0 then (if L = n then 0 else (if L < n then L else n) + 1) else unl p (if L < n then L else n) 0
theorem c_unlike {K g r L n : Nat} {M : Mem} {p : Nat → Bool} {Q : Int32 → Prop} (hL : L ≤ 40) (hn : n ≤ 8) (hr : rLen r = 40) (e1 : M r 1 = nI L) (e0 : M g 0 = nI n) (hp : ∀ i, i < L → i < n → (M (r + 1) i = M (g + 2) i ↔ p i = true)) (hQ : Q (cI (jdg p L n))) : P_X2_firstUnlike K M g r Q := by
  unfold P_X2_firstUnlike
  rintro _ rfl
  rw [e1, e0]
  have e : (if nI n < nI L then nI n else nI L) = nI (if L < n then L else n) := by
    rw [mn_nI (by omega) (by omega)]
    congr 1
    split <;> split <;> omega
  rw [e]
  unfold jdg at hQ
  generalize hb : (if L < n then L else n) = b at *
  have hbL : b ≤ L ∧ b ≤ n := by
    rw [← hb]
    split <;> omega
  unfold B_X2_firstUnlike_14
  intro X hX
  have key : ∀ f i, i + f = b → unl p f i = unl p b 0 → X (nI i) := by
    intro f
    induction f with
    | zero =>
      intro i hi e
      obtain rfl : i = b := by omega
      apply hX
      rw [e1, e0]
      have e : 0 = unl p i 0 := e
      rw [if_pos e.symm] at hQ
      by_cases q : L = n
      · rw [if_pos q] at hQ
        simp (disch := omega) only [i_lit, l_0, l_1, l_2, l_3, l_5, l_6, l_8, l_9, l_23, l_24, l_48, l_57, l_69, l_100, in_e, ci_e, lt_t, lt_f, le_t, le_f, eq_t, eq_f, nI_add, Nat.add_zero, xl_t, xl_f, xg_t, xg_f, xle_t, xle_f, xge_t, xge_f, xe_f, ci_t, ci_f, cx_t, cx_f, cn_t, cn_f, cp_t, cp_f, vi_t, cl_nI, c_er, m_er, eq_self, true_and, and_true, true_implies, false_implies, implies_true, not_true_eq_false, not_false_eq_true, true_or, or_true, forall_eq]
        exact hQ
      · rw [if_neg q, cI_s] at hQ
        simp (disch := omega) only [i_lit, l_0, l_1, l_2, l_3, l_5, l_6, l_8, l_9, l_23, l_24, l_48, l_57, l_69, l_100, in_e, ci_e, lt_t, lt_f, le_t, le_f, eq_t, eq_f, nI_add, Nat.add_zero, xl_t, xl_f, xg_t, xg_f, xle_t, xle_f, xge_t, xge_f, xe_f, ci_t, ci_f, cx_t, cx_f, cn_t, cn_f, cp_t, cp_f, vi_t, cl_nI, c_er, m_er, eq_self, true_and, and_true, true_implies, false_implies, implies_true, not_true_eq_false, not_false_eq_true, true_or, or_true, forall_eq]
        exact hQ
    | succ f ih =>
      intro i hi e
      rw [unl_s] at e
      apply hX
      rw [hr]
      simp (disch := omega) only [i_lit, l_0, l_1, l_2, l_3, l_5, l_6, l_8, l_9, l_23, l_24, l_48, l_57, l_69, l_100, in_e, ci_e, lt_t, lt_f, le_t, le_f, eq_t, eq_f, nI_add, Nat.add_zero, xl_t, xl_f, xg_t, xg_f, xle_t, xle_f, xge_t, xge_f, xe_f, ci_t, ci_f, cx_t, cx_f, cn_t, cn_f, cp_t, cp_f, vi_t, cl_nI, c_er, m_er, eq_self, true_and, and_true, true_implies, false_implies, implies_true, not_true_eq_false, not_false_eq_true, true_or, or_true, forall_eq]
      refine ⟨fun q => ?_, fun q => ?_⟩
      · rw [if_pos ((hp i (by omega) (by omega)).mp q)] at e
        exact ih (i + 1) (by omega) e
      · rw [if_neg (fun z => q ((hp i (by omega) (by omega)).mpr z))] at e
        rw [if_neg (by omega), ← e, cI_s] at hQ
        exact hQ
  exact key b 0 (by omega) rfl
/-- a sheet's number is as a window stands -/
theorem sh_p {Mc Mm : Mem} {s x : Nat} {r : Nat} (h : Sh Mc Mm s) {i : Nat} (hi : i < 40) (hx : x ≤ 9) : (Mc (22 + 2 * s + 1) i = nI x ↔ decide (Mm 14 (40 * s + i) = nI x) = true) := by
  obtain ⟨L, B, p1, p2, p3, p4, p5, p6, p7⟩ := h
  rw [decide_eq_true_eq]
  exact p7 i hi x hx
theorem m_judge {s L : Nat} {M : Mem} {a : Nat → Nat} {Q : Int32 → Mem → Prop} (h : MR M a) (d : DOK a) (hs : s < 4) (hL : L ≤ 40) (e1 : M 13 s = nI L) (hQ : Q (cI (jdg (fun i => decide (M 14 (40 * s + i) = nI (a (12 + 4 * i + 1)))) L (a 0))) M) : B_X12_judge_30 Q (nI s) (nI 0) M := by
  have d0 := d.1.1
  have g0 := h 0 (by omega)
  unfold B_X12_judge_30
  intro X hX
  unfold jdg at hQ
  generalize hp : (fun i => decide (M 14 (40 * s + i) = nI (a (12 + 4 * i + 1)))) = p at *
  generalize hb : (if L < a 0 then L else a 0) = b at *
  have hbL : b ≤ L ∧ b ≤ a 0 ∧ (b = L ∨ b = a 0) := by
    rw [← hb]
    split <;> omega
  have key : ∀ f i, i + f = b → unl p f i = unl p b 0 → X (nI i) M := by
    intro f
    induction f with
    | zero =>
      intro i hi e
      obtain rfl : i = b := by omega
      have e : 0 = unl p i 0 := e
      rw [if_pos e.symm] at hQ
      apply hX
      have fin : B_X12_judge_76 Q (nI s) (nI i) M := by
        unfold B_X12_judge_76
        by_cases q : L = a 0
        · rw [if_pos q] at hQ
          simp (disch := omega) only [i_lit, l_0, l_1, l_2, l_3, l_5, l_6, l_8, l_9, l_23, l_24, l_48, l_57, l_69, l_100, in_e, ci_e, lt_t, lt_f, le_t, le_f, eq_t, eq_f, nI_add, Nat.add_zero, xl_t, xl_f, xg_t, xg_f, xle_t, xle_f, xge_t, xge_f, xe_f, ci_t, ci_f, cx_t, cx_f, cn_t, cn_f, cp_t, cp_f, vi_t, cl_nI, c_er, m_er, eq_self, true_and, and_true, true_implies, false_implies, implies_true, not_true_eq_false, not_false_eq_true, true_or, or_true, forall_eq, e1, g0]
          exact hQ
        · rw [if_neg q, cI_s] at hQ
          by_cases q2 : i = L
          · simp (disch := omega) only [i_lit, l_0, l_1, l_2, l_3, l_5, l_6, l_8, l_9, l_23, l_24, l_48, l_57, l_69, l_100, in_e, ci_e, lt_t, lt_f, le_t, le_f, eq_t, eq_f, nI_add, Nat.add_zero, xl_t, xl_f, xg_t, xg_f, xle_t, xle_f, xge_t, xge_f, xe_f, ci_t, ci_f, cx_t, cx_f, cn_t, cn_f, cp_t, cp_f, vi_t, cl_nI, c_er, m_er, eq_self, true_and, and_true, true_implies, false_implies, implies_true, not_true_eq_false, not_false_eq_true, true_or, or_true, forall_eq, e1, g0]
            exact hQ
          · simp (disch := omega) only [i_lit, l_0, l_1, l_2, l_3, l_5, l_6, l_8, l_9, l_23, l_24, l_48, l_57, l_69, l_100, in_e, ci_e, lt_t, lt_f, le_t, le_f, eq_t, eq_f, nI_add, Nat.add_zero, xl_t, xl_f, xg_t, xg_f, xle_t, xle_f, xge_t, xge_f, xe_f, ci_t, ci_f, cx_t, cx_f, cn_t, cn_f, cp_t, cp_f, vi_t, cl_nI, c_er, m_er, eq_self, true_and, and_true, true_implies, false_implies, implies_true, not_true_eq_false, not_false_eq_true, true_or, or_true, forall_eq, e1, g0]
            exact hQ
      by_cases q2 : L ≤ i
      · simp (disch := omega) only [i_lit, l_0, l_1, l_2, l_3, l_5, l_6, l_8, l_9, l_23, l_24, l_48, l_57, l_69, l_100, in_e, ci_e, lt_t, lt_f, le_t, le_f, eq_t, eq_f, nI_add, Nat.add_zero, xl_t, xl_f, xg_t, xg_f, xle_t, xle_f, xge_t, xge_f, xe_f, ci_t, ci_f, cx_t, cx_f, cn_t, cn_f, cp_t, cp_f, vi_t, cl_nI, c_er, m_er, eq_self, true_and, and_true, true_implies, false_implies, implies_true, not_true_eq_false, not_false_eq_true, true_or, or_true, forall_eq, e1, g0]
        exact fin
      · simp (disch := omega) only [i_lit, l_0, l_1, l_2, l_3, l_5, l_6, l_8, l_9, l_23, l_24, l_48, l_57, l_69, l_100, in_e, ci_e, lt_t, lt_f, le_t, le_f, eq_t, eq_f, nI_add, Nat.add_zero, xl_t, xl_f, xg_t, xg_f, xle_t, xle_f, xge_t, xge_f, xe_f, ci_t, ci_f, cx_t, cx_f, cn_t, cn_f, cp_t, cp_f, vi_t, cl_nI, c_er, m_er, eq_self, true_and, and_true, true_implies, false_implies, implies_true, not_true_eq_false, not_false_eq_true, true_or, or_true, forall_eq, e1, g0]
        exact fin
    | succ f ih =>
      intro i hi e
      rw [unl_s] at e
      apply hX
      simp (disch := omega) only [i_lit, l_0, l_1, l_2, l_3, l_5, l_6, l_8, l_9, l_23, l_24, l_48, l_57, l_69, l_100, in_e, ci_e, lt_t, lt_f, le_t, le_f, eq_t, eq_f, nI_add, Nat.add_zero, xl_t, xl_f, xg_t, xg_f, xle_t, xle_f, xge_t, xge_f, xe_f, ci_t, ci_f, cx_t, cx_f, cn_t, cn_f, cp_t, cp_f, vi_t, cl_nI, c_er, m_er, eq_self, true_and, and_true, true_implies, false_implies, implies_true, not_true_eq_false, not_false_eq_true, true_or, or_true, forall_eq, e1, g0, pk_mul, m_its h]
      have ep : p i = decide (M 14 (40 * s + i) = nI (a (12 + 4 * i + 1))) := by rw [← hp]
      refine ⟨fun q => ?_, fun q => ?_⟩
      · rw [if_neg (by rw [ep, decide_eq_true_eq]; exact q)] at e
        rw [if_neg (by omega), ← e, cI_s] at hQ
        unfold B_X12_judge_76
        by_cases q2 : i = L
        · omega
        · simp (disch := omega) only [i_lit, l_0, l_1, l_2, l_3, l_5, l_6, l_8, l_9, l_23, l_24, l_48, l_57, l_69, l_100, in_e, ci_e, lt_t, lt_f, le_t, le_f, eq_t, eq_f, nI_add, Nat.add_zero, xl_t, xl_f, xg_t, xg_f, xle_t, xle_f, xge_t, xge_f, xe_f, ci_t, ci_f, cx_t, cx_f, cn_t, cn_f, cp_t, cp_f, vi_t, cl_nI, c_er, m_er, eq_self, true_and, and_true, true_implies, false_implies, implies_true, not_true_eq_false, not_false_eq_true, true_or, or_true, forall_eq, e1]
          exact hQ
      · rw [if_pos (by rw [ep, decide_eq_true_eq]; exact q)] at e
        exact ih (i + 1) (by omega) e
  exact key b 0 (by omega) rfl
theorem lo_37 {n K : Nat} {Mc Mm : Mem} (a1 a2 a3 a4 a5 : Int32) (hn : n < 512) (hI : Inv n K Mc Mm) : LO_37 Inv n K Mc Mm a1 a2 a3 a4 a5 := by
  have hE := hI.er hn
  have hU := hI.up hn
  obtain ⟨a, b, V, W, F, t, im, hb, mo, ⟨hB, mr, d, v⟩, i1, i2⟩ := hI
  have h := hB.1
  have tr := hB.2.1
  have kd := hB.2.2
  have c := hb.cx mo
  have d0 := d.1.1
  have d1 := d.1.2.1
  have d2 := d.1.2.2
  have dh := d.2.1
  have dt := d.2.2.2.2.1
  have f0 : Mc 30 0 = nI (a 0) := h.1.1
  have f1 : Mc 30 1 = nI (a 1) := h.1.2.1
  have f2 : Mc 30 2 = nI (a 2) := h.1.2.2
  have g0 : Mm 1 0 = nI (a 0) := mr 0 (by omega)
  have g1 : Mm 1 1 = nI (a 1) := mr 1 (by omega)
  have g2 : Mm 1 2 = nI (a 2) := mr 2 (by omega)
  unfold LO_37
  rcases rng a1 3 (by omega) with ⟨s, hs, rfl⟩ | xs | xs
  · have hsh := i2.2.2.2.2.2 s (by omega)
    obtain ⟨L, B, p1, p2, p3, p4, p5, p6, p7⟩ := hsh
    by_cases b0 : B = 0
    · simp (disch := omega) only [i_lit, l_0, l_1, l_2, l_3, l_5, l_6, l_8, l_9, l_23, l_24, l_48, l_57, l_69, l_100, in_e, ci_e, lt_t, lt_f, le_t, le_f, eq_t, eq_f, nI_add, Nat.add_zero, xl_t, xl_f, xg_t, xg_f, xle_t, xle_f, xge_t, xge_f, xe_f, ci_t, ci_f, cx_t, cx_f, cn_t, cn_f, cp_t, cp_f, vi_t, cl_nI, c_er, m_er, eq_self, true_and, and_true, true_implies, false_implies, implies_true, not_true_eq_false, not_false_eq_true, true_or, or_true, forall_eq, P_X11_judge, P_X11_isSheet, P_X12_judge, P_X12_isSheet, p5, p6]
      exact hE 2 (by omega)
    · simp (disch := omega) only [i_lit, l_0, l_1, l_2, l_3, l_5, l_6, l_8, l_9, l_23, l_24, l_48, l_57, l_69, l_100, in_e, ci_e, lt_t, lt_f, le_t, le_f, eq_t, eq_f, nI_add, Nat.add_zero, xl_t, xl_f, xg_t, xg_f, xle_t, xle_f, xge_t, xge_f, xe_f, ci_t, ci_f, cx_t, cx_f, cn_t, cn_f, cp_t, cp_f, vi_t, cl_nI, c_er, m_er, eq_self, true_and, and_true, true_implies, false_implies, implies_true, not_true_eq_false, not_false_eq_true, true_or, or_true, forall_eq, P_X11_judge, P_X11_isSheet, P_X12_judge, P_X12_isSheet, p5, p6]
      refine c_unlike (L := L) (n := a 0) (p := fun i => decide (Mm 14 (40 * s + i) = nI (a (12 + 4 * i + 1)))) p1 d0 (rL_sh (by omega)) p3 f0 (fun i h1 h2 => ?_) ?_
      · rw [(h.2.2.1 i h2).2.1, decide_eq_true_eq]
        exact p7 i (by omega) _ (d.2.2.1 i h2).2.1
      · exact m_judge mr d (by omega) p1 p4 ⟨rfl, hU⟩
  · simp (disch := omega) only [i_lit, l_0, l_1, l_2, l_3, l_5, l_6, l_8, l_9, l_23, l_24, l_48, l_57, l_69, l_100, in_e, ci_e, lt_t, lt_f, le_t, le_f, eq_t, eq_f, nI_add, Nat.add_zero, xl_t, xl_f, xg_t, xg_f, xle_t, xle_f, xge_t, xge_f, xe_f, ci_t, ci_f, cx_t, cx_f, cn_t, cn_f, cp_t, cp_f, vi_t, cl_nI, c_er, m_er, eq_self, true_and, and_true, true_implies, false_implies, implies_true, not_true_eq_false, not_false_eq_true, true_or, or_true, forall_eq, P_X11_judge, P_X11_isSheet, P_X12_judge, P_X12_isSheet]
    exact hE 1 (by omega)
  · simp (disch := omega) only [i_lit, l_0, l_1, l_2, l_3, l_5, l_6, l_8, l_9, l_23, l_24, l_48, l_57, l_69, l_100, in_e, ci_e, lt_t, lt_f, le_t, le_f, eq_t, eq_f, nI_add, Nat.add_zero, xl_t, xl_f, xg_t, xg_f, xle_t, xle_f, xge_t, xge_f, xe_f, ci_t, ci_f, cx_t, cx_f, cn_t, cn_f, cp_t, cp_f, vi_t, cl_nI, c_er, m_er, eq_self, true_and, and_true, true_implies, false_implies, implies_true, not_true_eq_false, not_false_eq_true, true_or, or_true, forall_eq, P_X11_judge, P_X11_isSheet, P_X12_judge, P_X12_isSheet]
    exact hE 1 (by omega)
theorem m_image {M : Mem} {a : Nat → Nat} {im : Nat} {Q : Int32 → Mem → Prop} (h : MR M a) (e3 : M 0 3 = nI im) (hQ : ∀ M' : Mem, (∀ k, k ≠ 0 → k ≠ 2 → M' k = M k) → (∀ j, j ≠ 3 → M' 0 j = M 0 j) → M' 0 3 = nI (im + 1) → (∀ k, k < 264 → M' 2 k = nI (a k)) → Q (nI (im + 1)) M') : P_X12_image M Q := by
  unfold P_X12_image B_X12_image_2
  intro X hX
  have key : ∀ f i (M1 : Mem), i + f = 264 → (∀ k, k ≠ 2 → M1 k = M k) → (∀ j, j < i → M1 2 j = nI (a j)) → X (nI i) M1 := by
    intro f
    induction f with
    | zero =>
      intro i M1 hi hk hj
      obtain rfl : i = 264 := by omega
      apply hX
      have e : M1 0 3 = nI im := by rw [hk 0 (by omega)]; exact e3
      simp (disch := omega) only [i_lit, l_0, l_1, l_2, l_3, l_5, l_6, l_8, l_9, l_23, l_24, l_48, l_57, l_69, l_100, in_e, ci_e, lt_t, lt_f, le_t, le_f, eq_t, eq_f, nI_add, Nat.add_zero, xl_t, xl_f, xg_t, xg_f, xle_t, xle_f, xge_t, xge_f, xe_f, ci_t, ci_f, cx_t, cx_f, cn_t, cn_f, cp_t, cp_f, vi_t, cl_nI, c_er, m_er, eq_self, true_and, and_true, true_implies, false_implies, implies_true, not_true_eq_false, not_false_eq_true, true_or, or_true, forall_eq, e, sf_e]
      exact hQ _ (fun k q0 q2 => by rw [sf_ne q0]; exact hk k q2) (fun j q => by rw [sf_j q, hk 0 (by omega)]) (sf_e rfl rfl) (fun k q => by rw [sf_ne (by omega)]; exact hj k q)
    | succ f ih =>
      intro i M1 hi hk hj
      apply hX
      have e : M1 1 i = nI (a i) := by rw [hk 1 (by omega)]; exact h i (by omega)
      simp (disch := omega) only [i_lit, l_0, l_1, l_2, l_3, l_5, l_6, l_8, l_9, l_23, l_24, l_48, l_57, l_69, l_100, in_e, ci_e, lt_t, lt_f, le_t, le_f, eq_t, eq_f, nI_add, Nat.add_zero, xl_t, xl_f, xg_t, xg_f, xle_t, xle_f, xge_t, xge_f, xe_f, ci_t, ci_f, cx_t, cx_f, cn_t, cn_f, cp_t, cp_f, vi_t, cl_nI, c_er, m_er, eq_self, true_and, and_true, true_implies, false_implies, implies_true, not_true_eq_false, not_false_eq_true, true_or, or_true, forall_eq, e]
      refine ih (i + 1) _ (by omega) (fun k q => by rw [sf_ne q]; exact hk k q) (fun j q => ?_)
      by_cases e2 : j = i
      · subst e2
        exact sf_e rfl rfl
      · rw [sf_j e2]
        exact hj j (by omega)
  exact key 264 0 M (by omega) (fun _ _ => rfl) (fun j hj => absurd hj (by omega))
theorem m_restore {M : Mem} {b : Nat → Nat} {Q : Int32 → Mem → Prop} (h : ∀ k, k < 264 → M 2 k = nI (b k)) (hQ : ∀ M' : Mem, (∀ k, k ≠ 1 → M' k = M k) → MR M' b → Q (nI (b 3)) M') : B_X12_restore_15 Q (nI 0) M := by
  unfold B_X12_restore_15
  intro X hX
  have key : ∀ f i (M1 : Mem), i + f = 264 → (∀ k, k ≠ 1 → M1 k = M k) → (∀ j, j < i → M1 1 j = nI (b j)) → X (nI i) M1 := by
    intro f
    induction f with
    | zero =>
      intro i M1 hi hk hj
      obtain rfl : i = 264 := by omega
      apply hX
      have e : M1 1 3 = nI (b 3) := hj 3 (by omega)
      simp (disch := omega) only [i_lit, l_0, l_1, l_2, l_3, l_5, l_6, l_8, l_9, l_23, l_24, l_48, l_57, l_69, l_100, in_e, ci_e, lt_t, lt_f, le_t, le_f, eq_t, eq_f, nI_add, Nat.add_zero, xl_t, xl_f, xg_t, xg_f, xle_t, xle_f, xge_t, xge_f, xe_f, ci_t, ci_f, cx_t, cx_f, cn_t, cn_f, cp_t, cp_f, vi_t, cl_nI, c_er, m_er, eq_self, true_and, and_true, true_implies, false_implies, implies_true, not_true_eq_false, not_false_eq_true, true_or, or_true, forall_eq, e]
      exact hQ M1 hk hj
    | succ f ih =>
      intro i M1 hi hk hj
      apply hX
      have e : M1 2 i = nI (b i) := by rw [hk 2 (by omega)]; exact h i (by omega)
      simp (disch := omega) only [i_lit, l_0, l_1, l_2, l_3, l_5, l_6, l_8, l_9, l_23, l_24, l_48, l_57, l_69, l_100, in_e, ci_e, lt_t, lt_f, le_t, le_f, eq_t, eq_f, nI_add, Nat.add_zero, xl_t, xl_f, xg_t, xg_f, xle_t, xle_f, xge_t, xge_f, xe_f, ci_t, ci_f, cx_t, cx_f, cn_t, cn_f, cp_t, cp_f, vi_t, cl_nI, c_er, m_er, eq_self, true_and, and_true, true_implies, false_implies, implies_true, not_true_eq_false, not_false_eq_true, true_or, or_true, forall_eq, e]
      refine ih (i + 1) _ (by omega) (fun k q => by rw [sf_ne q]; exact hk k q) (fun j q => ?_)
      by_cases e2 : j = i
      · subst e2
        exact sf_e rfl rfl
      · rw [sf_j e2]
        exact hj j (by omega)
  exact key 264 0 M (by omega) (fun _ _ => rfl) (fun j hj => absurd hj (by omega))
theorem HB.cg {K t g : Nat} {F : Ft} {M M' : Mem} {a : Nat → Nat} {V : Vt} (h : HB K t F g M a V) (e : ∀ k, (k = g ∨ k = g + 1 ∨ k = g + 2 ∨ k = g + 3 ∨ k = g + 4 ∨ k = g + 5 ∨ k = g + 6 ∨ k = g + 7 ∨ k = g + 8 ∨ k = g + 9 ∨ k = g + 10 ∨ k = g + 11 ∨ k = g + 12 ∨ 69 ≤ k) → M' k = M k) : HB K t F g M' a V :=
  h.keep (fun k k1 k2 => e k (by omega)) (fun k k1 _ => e k (by omega))
theorem lo_38 {n K : Nat} {Mc Mm : Mem} (a1 a2 a3 a4 a5 : Int32) (hn : n < 512) (hI : Inv n K Mc Mm) : LO_38 Inv n K Mc Mm a1 a2 a3 a4 a5 := by
  have hE := hI.er hn
  have hU := hI.up hn
  obtain ⟨a, b, V, W, F, t, im, hb, mo, ⟨hB, mr, d, v⟩, i1, i2⟩ := hI
  have h := hB.1
  have tr := hB.2.1
  have kd := hB.2.2
  have c := hb.cx mo
  have d0 := d.1.1
  have d1 := d.1.2.1
  have d2 := d.1.2.2
  have dh := d.2.1
  have dt := d.2.2.2.2.1
  have f0 : Mc 30 0 = nI (a 0) := h.1.1
  have f1 : Mc 30 1 = nI (a 1) := h.1.2.1
  have f2 : Mc 30 2 = nI (a 2) := h.1.2.2
  have g0 : Mm 1 0 = nI (a 0) := mr 0 (by omega)
  have g1 : Mm 1 1 = nI (a 1) := mr 1 (by omega)
  have g2 : Mm 1 2 = nI (a 2) := mr 2 (by omega)
  unfold LO_38
  obtain ⟨j1, j2, j3, j4, j5, j6⟩ := i2
  have hm512 := hb.2.2.2.2
  unfold P_X11_image
  refine c_copyFrom (Or.inr (Or.inr rfl)) (Or.inl rfl) (by omega) h kd tr c d (fun M1 k1 h1 kd1 tr1 => ?_)
  have e9 : M1 0 9 = nI im := by rw [k1 0 (by omega)]; exact j1
  simp (disch := omega) only [i_lit, l_0, l_1, l_2, l_3, l_5, l_6, l_8, l_9, l_23, l_24, l_48, l_57, l_69, l_100, in_e, ci_e, lt_t, lt_f, le_t, le_f, eq_t, eq_f, nI_add, Nat.add_zero, xl_t, xl_f, xg_t, xg_f, xle_t, xle_f, xge_t, xge_f, xe_f, ci_t, ci_f, cx_t, cx_f, cn_t, cn_f, cp_t, cp_f, vi_t, cl_nI, c_er, m_er, eq_self, true_and, and_true, true_implies, false_implies, implies_true, not_true_eq_false, not_false_eq_true, true_or, or_true, forall_eq, e9, sf_e]
  refine m_image mr j2 (fun M2 k2 m0 m3 m2 => ⟨rfl, ?_⟩)
  have hk : ∀ k, k ≠ 0 → sf M1 0 9 (nI (im + 1)) k = M1 k := fun k q => sf_ne q
  have e09 : sf M1 0 9 (nI (im + 1)) 0 9 = nI (im + 1) := sf_e rfl rfl
  have e010 : sf M1 0 9 (nI (im + 1)) 0 10 = Mc 0 10 := by rw [sf_j (by omega), k1 0 (by omega)]
  generalize sf M1 0 9 (nI (im + 1)) = M3 at *
  have hk3 : ∀ k, k ≠ 0 → (k < 56 ∨ 68 < k) → M3 k = Mc k := fun k q q2 => by rw [hk k q, k1 k q2]
  refine ⟨a, a, V, V, F, t, im + 1, ⟨by omega, by have := hb.2.1; omega, by have := hb.2.2.1; omega, hb.2.2.2.1, by omega⟩, mo.keep (hk3 2 (by omega) (by omega)), ⟨hB.keep (fun k q1 q2 => hk3 k (by omega) (by omega)) (fun k q1 q2 => hk3 k (by omega) (by omega)), fun k q => by rw [k2 1 (by omega) (by omega)]; exact mr k q, d, v⟩, ⟨i1.1.keep (hk3 _ (by omega) (by omega)) (hk3 _ (by omega) (by omega)), Or.inr ⟨HB.keep ⟨h1, tr1, kd1⟩ (fun k q1 q2 => hk k (by omega)) (fun k q1 q2 => hk k (by omega)), m2, d, v⟩⟩, e09, m3, ?_, fun i hi => ?_, ?_, fun s hs => ?_⟩
  · rw [e010]; exact j3
  · rw [hk3 4 (by omega) (by omega), k2 4 (by omega) (by omega)]; exact j4 i hi
  · unfold Tc
    rw [hk3 5 (by omega) (by omega), hk3 6 (by omega) (by omega), m0 23 (by omega), k2 11 (by omega) (by omega)]
    exact j5
  · exact (j6 s hs).keep (hk3 _ (by omega) (by omega)) (hk3 _ (by omega) (by omega)) (k2 _ (by omega) (by omega)) (k2 _ (by omega) (by omega)) (k2 _ (by omega) (by omega))
theorem lo_39 {n K : Nat} {Mc Mm : Mem} (a1 a2 a3 a4 a5 : Int32) (hn : n < 512) (hI : Inv n K Mc Mm) : LO_39 Inv n K Mc Mm a1 a2 a3 a4 a5 := by
  have hE := hI.er hn
  have hU := hI.up hn
  obtain ⟨a, b, V, W, F, t, im, hb, mo, ⟨hB, mr, d, v⟩, i1, i2⟩ := hI
  have h := hB.1
  have tr := hB.2.1
  have kd := hB.2.2
  have c := hb.cx mo
  have d0 := d.1.1
  have d1 := d.1.2.1
  have d2 := d.1.2.2
  have dh := d.2.1
  have dt := d.2.2.2.2.1
  have f0 : Mc 30 0 = nI (a 0) := h.1.1
  have f1 : Mc 30 1 = nI (a 1) := h.1.2.1
  have f2 : Mc 30 2 = nI (a 2) := h.1.2.2
  have g0 : Mm 1 0 = nI (a 0) := mr 0 (by omega)
  have g1 : Mm 1 1 = nI (a 1) := mr 1 (by omega)
  have g2 : Mm 1 2 = nI (a 2) := mr 2 (by omega)
  unfold LO_39
  have j1 := i2.1
  have j2 := i2.2.1
  have hm512 := hb.2.2.2.2
  by_cases z : im = 0
  · simp (disch := omega) only [i_lit, l_0, l_1, l_2, l_3, l_5, l_6, l_8, l_9, l_23, l_24, l_48, l_57, l_69, l_100, in_e, ci_e, lt_t, lt_f, le_t, le_f, eq_t, eq_f, nI_add, Nat.add_zero, xl_t, xl_f, xg_t, xg_f, xle_t, xle_f, xge_t, xge_f, xe_f, ci_t, ci_f, cx_t, cx_f, cn_t, cn_f, cp_t, cp_f, vi_t, cl_nI, c_er, m_er, eq_self, true_and, and_true, true_implies, false_implies, implies_true, not_true_eq_false, not_false_eq_true, true_or, or_true, forall_eq, P_X11_restore, P_X12_restore, j1, j2]
    exact hE 2 (by omega)
  · rcases i1 with ⟨r43, ⟨q, _⟩ | ⟨hW, m2, dB, vW⟩⟩
    · exact absurd q z
    · simp (disch := omega) only [i_lit, l_0, l_1, l_2, l_3, l_5, l_6, l_8, l_9, l_23, l_24, l_48, l_57, l_69, l_100, in_e, ci_e, lt_t, lt_f, le_t, le_f, eq_t, eq_f, nI_add, Nat.add_zero, xl_t, xl_f, xg_t, xg_f, xle_t, xle_f, xge_t, xge_f, xe_f, ci_t, ci_f, cx_t, cx_f, cn_t, cn_f, cp_t, cp_f, vi_t, cl_nI, c_er, m_er, eq_self, true_and, and_true, true_implies, false_implies, implies_true, not_true_eq_false, not_false_eq_true, true_or, or_true, forall_eq, P_X11_restore, P_X12_restore, j1, j2]
      refine c_copyFrom (Or.inl rfl) (Or.inr (Or.inr rfl)) (by omega) hW.1 hW.2.2 hW.2.1 c dB (fun M1 k1 h1 kd1 tr1 => ?_)
      have e3 : M1 30 10 = nI (b 3) := h1.2.1.1
      rw [e3]
      refine m_restore m2 (fun M2 k2 mr2 => ⟨rfl, ?_⟩)
      exact Inv.go hn hb ⟨r43, Or.inr ⟨hW, m2, dB, vW⟩⟩ i2 (FC.of (fun k q1 q2 => k1 k (by omega))) (FMo.of k2) (mo.keep (k1 2 (by omega))) ⟨⟨h1, tr1, kd1⟩, mr2, dB, vW⟩
