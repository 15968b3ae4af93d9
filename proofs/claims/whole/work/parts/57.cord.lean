/-! ===== cord, drop, ofCord ===== -/
theorem m_lengthOf {c : Nat} {M : Mem} {a : Nat → Nat} {Q : Int32 → Prop} (h : MR M a) (d : DOK a) (hc : c ≤ 100) (hQ : Q (nI (opP a (fun w => decide (a (12 + 4 * w + 2) = c + 1)) (a 0)))) : P_X12_lengthOf M (nI c) Q := by
  unfold P_X12_lengthOf B_X12_lengthOf_4
  intro X hX
  have d0 := d.1.1
  have d1 := d.1.2.1
  have g0 := h 0 (by omega)
  have key : ∀ f w, w + f = a 0 → X (nI (opP a (fun w => decide (a (12 + 4 * w + 2) = c + 1)) w)) (nI w) := by
    intro f
    induction f with
    | zero =>
      intro w hw
      obtain rfl : w = a 0 := by omega
      apply hX
      rw [g0]
      exact br_t (nI_le (Nat.le_refl _) (by omega)) hQ
    | succ f ih =>
      intro w hw
      have b := d.2.2.1 w (by omega)
      have n := ih (w + 1) (by omega)
      have es : opP a (fun w => decide (a (12 + 4 * w + 2) = c + 1)) (w + 1) = opP a (fun w => decide (a (12 + 4 * w + 2) = c + 1)) w + if decide (a (12 + 4 * w + 2) = c + 1) = true then a (12 + 4 * w + 1) else 0 := rfl
      rw [es] at n
      apply hX
      rw [g0]
      refine br_f (nI_ge (by omega) (by omega)) ?_
      unfold B_X12_lengthOf_37
      rw [show (2 : Int32) = nI 2 from rfl, show (1 : Int32) = nI 1 from rfl, m_its h (by omega), m_its h (by omega), nI_add, eq_nI (by omega) (by omega)]
      refine ⟨fun q => ?_, fun q => ?_⟩
      · rw [if_neg (by rw [decide_eq_true_eq]; omega), Nat.add_zero] at n
        rintro _ rfl _ rfl
        rw [show (0 : Int32) = nI 0 from rfl, nI_add, nI_add]
        exact n
      · rw [if_pos (by rw [decide_eq_true_eq]; omega)] at n
        rintro _ rfl _ rfl
        rw [nI_add, nI_add]
        exact n
  exact key (a 0) 0 (by omega)
theorem lo_4 {n K : Nat} {Mc Mm : Mem} (a1 a2 a3 a4 a5 : Int32) (hn : n < 512) (hI : Inv n K Mc Mm) : LO_4 Inv n K Mc Mm a1 a2 a3 a4 a5 := by
  have hE := hI.er hn
  have hU := hI.up hn
  obtain ⟨a, b, V, W, F, t, im, hb, mo, ⟨hB, mr, d, v⟩, i1, i2⟩ := hI
  have h := hB.1
  have tr := hB.2.1
  have kd := hB.2.2
  have c := hb.cx mo
  have d0 := d.1.1
  have d1 := d.1.2.1
  have d2 := d.1.2.2
  have dh := d.2.1
  have dt := d.2.2.2.2.1
  have f0 : Mc 30 0 = nI (a 0) := h.1.1
  have f1 : Mc 30 1 = nI (a 1) := h.1.2.1
  have f2 : Mc 30 2 = nI (a 2) := h.1.2.2
  have g0 : Mm 1 0 = nI (a 0) := mr 0 (by omega)
  have g1 : Mm 1 1 = nI (a 1) := mr 1 (by omega)
  have g2 : Mm 1 2 = nI (a 2) := mr 2 (by omega)
  unfold LO_4
  rcases rngl a1 (a 1) (by omega) with ⟨c, hc, rfl⟩ | xc | xc
  · rcases rng a2 1 (by omega) with ⟨k, hk, rfl⟩ | xk | xk
    · rcases (show k = 0 ∨ k = 1 by omega) with rfl | rfl
      · simp (disch := omega) only [i_lit, l_0, l_1, l_2, l_3, l_5, l_6, l_8, l_9, l_23, l_24, l_48, l_57, l_69, l_100, in_e, ci_e, lt_t, lt_f, le_t, le_f, eq_t, eq_f, nI_add, Nat.add_zero, xl_t, xl_f, xg_t, xg_f, xle_t, xle_f, xge_t, xge_f, xe_f, ci_t, ci_f, cx_t, cx_f, cn_t, cn_f, cp_t, cp_f, vi_t, cl_nI, c_er, m_er, eq_self, true_and, and_true, true_implies, false_implies, implies_true, not_true_eq_false, not_false_eq_true, true_or, or_true, forall_eq, P_X11_ofCord, P_X12_ofCord, f1, g1]
        refine c_setOf h d (by omega) (m_windowsOf mr d (by omega) ⟨rfl, hU⟩)
      · simp (disch := omega) only [i_lit, l_0, l_1, l_2, l_3, l_5, l_6, l_8, l_9, l_23, l_24, l_48, l_57, l_69, l_100, in_e, ci_e, lt_t, lt_f, le_t, le_f, eq_t, eq_f, nI_add, Nat.add_zero, xl_t, xl_f, xg_t, xg_f, xle_t, xle_f, xge_t, xge_f, xe_f, ci_t, ci_f, cx_t, cx_f, cn_t, cn_f, cp_t, cp_f, vi_t, cl_nI, c_er, m_er, eq_self, true_and, and_true, true_implies, false_implies, implies_true, not_true_eq_false, not_false_eq_true, true_or, or_true, forall_eq, P_X11_ofCord, P_X12_ofCord, f1, g1]
        refine c_setOf h d (by omega) (c_openOf h d (m_lengthOf mr d (by omega) ⟨rfl, hU⟩))
    · simp (disch := omega) only [i_lit, l_0, l_1, l_2, l_3, l_5, l_6, l_8, l_9, l_23, l_24, l_48, l_57, l_69, l_100, in_e, ci_e, lt_t, lt_f, le_t, le_f, eq_t, eq_f, nI_add, Nat.add_zero, xl_t, xl_f, xg_t, xg_f, xle_t, xle_f, xge_t, xge_f, xe_f, ci_t, ci_f, cx_t, cx_f, cn_t, cn_f, cp_t, cp_f, vi_t, cl_nI, c_er, m_er, eq_self, true_and, and_true, true_implies, false_implies, implies_true, not_true_eq_false, not_false_eq_true, true_or, or_true, forall_eq, P_X11_ofCord, P_X12_ofCord, f1, g1]
      exact hE 1 (by omega)
    · simp (disch := omega) only [i_lit, l_0, l_1, l_2, l_3, l_5, l_6, l_8, l_9, l_23, l_24, l_48, l_57, l_69, l_100, in_e, ci_e, lt_t, lt_f, le_t, le_f, eq_t, eq_f, nI_add, Nat.add_zero, xl_t, xl_f, xg_t, xg_f, xle_t, xle_f, xge_t, xge_f, xe_f, ci_t, ci_f, cx_t, cx_f, cn_t, cn_f, cp_t, cp_f, vi_t, cl_nI, c_er, m_er, eq_self, true_and, and_true, true_implies, false_implies, implies_true, not_true_eq_false, not_false_eq_true, true_or, or_true, forall_eq, P_X11_ofCord, P_X12_ofCord, f1, g1]
      exact hE 1 (by omega)
  · simp (disch := omega) only [i_lit, l_0, l_1, l_2, l_3, l_5, l_6, l_8, l_9, l_23, l_24, l_48, l_57, l_69, l_100, in_e, ci_e, lt_t, lt_f, le_t, le_f, eq_t, eq_f, nI_add, Nat.add_zero, xl_t, xl_f, xg_t, xg_f, xle_t, xle_f, xge_t, xge_f, xe_f, ci_t, ci_f, cx_t, cx_f, cn_t, cn_f, cp_t, cp_f, vi_t, cl_nI, c_er, m_er, eq_self, true_and, and_true, true_implies, false_implies, implies_true, not_true_eq_false, not_false_eq_true, true_or, or_true, forall_eq, P_X11_ofCord, P_X12_ofCord, f1, g1]
    exact hE 1 (by omega)
  · simp (disch := omega) only [i_lit, l_0, l_1, l_2, l_3, l_5, l_6, l_8, l_9, l_23, l_24, l_48, l_57, l_69, l_100, in_e, ci_e, lt_t, lt_f, le_t, le_f, eq_t, eq_f, nI_add, Nat.add_zero, xl_t, xl_f, xg_t, xg_f, xle_t, xle_f, xge_t, xge_f, xe_f, ci_t, ci_f, cx_t, cx_f, cn_t, cn_f, cp_t, cp_f, vi_t, cl_nI, c_er, m_er, eq_self, true_and, and_true, true_implies, false_implies, implies_true, not_true_eq_false, not_false_eq_true, true_or, or_true, forall_eq, P_X11_ofCord, P_X12_ofCord, f1, g1]
    exact hE 1 (by omega)
/-- cords of the windows below w anew, and how many cords -/
def cdA (a : Nat → Nat) (g : Nat → Nat) (w z : Nat) : Nat → Nat := fun k => if k = 1 then z else if 12 ≤ k ∧ k < 12 + 4 * w ∧ k % 4 = 2 then g ((k - 12) / 4) else a k
theorem cdA_1 {a g : Nat → Nat} {w z : Nat} : cdA a g w z 1 = z := if_pos rfl
theorem cdA_c {a g : Nat → Nat} {w z i : Nat} (h : i < w) : cdA a g w z (12 + 4 * i + 2) = g i := by
  unfold cdA
  rw [if_neg (by omega), if_pos (by omega)]
  congr 1
  omega
theorem cdA_C {a g : Nat → Nat} {w z i : Nat} (h : w ≤ i) : cdA a g w z (12 + 4 * i + 2) = a (12 + 4 * i + 2) := by
  unfold cdA
  rw [if_neg (by omega), if_neg (by omega)]
theorem cdA_n {a g : Nat → Nat} {w z k : Nat} (h1 : k ≠ 1) (h : k < 12 ∨ 12 + 4 * w ≤ k ∨ k % 4 ≠ 2) : cdA a g w z k = a k := by
  unfold cdA
  rw [if_neg h1, if_neg (by omega)]
theorem HR.cd {gg : Nat} {M M' : Mem} {a g : Nat → Nat} {z : Nat} (h : HR gg M a) (d : DOK a) (hM : ∀ k, k ≠ gg → k ≠ gg + 3 → M' k = M k) (h1 : M' gg 1 = nI z) (hf : ∀ j, j ≠ 1 → M' gg j = M gg j) (hc : ∀ i, i < a 0 → M' (gg + 3) i = cI (g i)) : HR gg M' (cdA a g (a 0) z) := by
  have d0 := d.1.1
  unfold HR
  rw [cdA_1]
  simp (disch := omega) only [cdA_n (k := 0), cdA_n (k := 2), cdA_n (k := 3), cdA_n (k := 4), cdA_n (k := 5), cdA_n (k := 6), cdA_n (k := 7), cdA_n (k := 8), cdA_n (k := 9), cdA_n (k := 10), hf, h1]
  rw [hM (gg + 1) (by omega) (by omega), hM (gg + 2) (by omega) (by omega), hM (gg + 4) (by omega) (by omega), hM (gg + 5) (by omega) (by omega), hM (gg + 6) (by omega) (by omega), hM (gg + 7) (by omega) (by omega), hM (gg + 8) (by omega) (by omega), hM (gg + 9) (by omega) (by omega), hM (gg + 10) (by omega) (by omega), hM (gg + 11) (by omega) (by omega)]
  refine ⟨⟨h.1.1, trivial, h.1.2.2⟩, h.2.1, fun w hw => ?_, fun l hl => ?_, ⟨h.2.2.2.2.1.1, fun i hi => ?_⟩, h.2.2.2.2.2.1, fun i hi => ?_⟩
  · have e := h.2.2.1 w hw
    rw [cdA_n (k := 12 + 4 * w) (by omega) (by omega), cdA_n (k := 12 + 4 * w + 1) (by omega) (by omega), cdA_c hw, cdA_n (k := 12 + 4 * w + 3) (by omega) (by omega)]
    exact ⟨e.1, e.2.1, hc w hw, e.2.2.2⟩
  · rw [cdA_n (k := 44 + 3 * l) (by omega) (by omega), cdA_n (k := 44 + 3 * l + 1) (by omega) (by omega), cdA_n (k := 44 + 3 * l + 2) (by omega) (by omega)]
    exact h.2.2.2.1 l hl
  · rw [cdA_n (by omega) (by omega)]
    exact h.2.2.2.2.1.2 i hi
  · rw [cdA_n (by omega) (by omega)]
    exact h.2.2.2.2.2.2 i hi
theorem DOK.cd {a g : Nat → Nat} {z : Nat} (d : DOK a) (hz : z ≤ 4) (hg : ∀ i, i < a 0 → g i ≤ z) (hc : ∀ c, 0 < c → c ≤ z → cntC (cdA a g (a 0) z) c (a 0) ≤ 3) : DOK (cdA a g (a 0) z) := by
  have d0 := d.1.1
  unfold DOK
  rw [cdA_1]
  simp (disch := omega) only [cdA_n (k := 0), cdA_n (k := 2), cdA_n (k := 3), cdA_n (k := 4), cdA_n (k := 5), cdA_n (k := 6), cdA_n (k := 7), cdA_n (k := 9), cdA_n (k := 10), cdA_n (k := 90), cdA_n (k := 91)]
  refine ⟨⟨d.1.1, hz, d.1.2.2⟩, d.2.1, fun w hw => ?_, fun l hl => ?_, d.2.2.2.2.1, fun i hi => ?_, fun i hi => ?_, hc⟩
  · have b := d.2.2.1 w hw
    rw [cdA_n (k := 12 + 4 * w) (by omega) (by omega), cdA_n (k := 12 + 4 * w + 1) (by omega) (by omega), cdA_c hw, cdA_n (k := 12 + 4 * w + 3) (by omega) (by omega)]
    exact ⟨b.1, b.2.1, hg w hw, b.2.2.2⟩
  · rw [cdA_n (k := 44 + 3 * l) (by omega) (by omega), cdA_n (k := 44 + 3 * l + 1) (by omega) (by omega), cdA_n (k := 44 + 3 * l + 2) (by omega) (by omega)]
    exact d.2.2.2.1 l hl
  · rw [cdA_n (by omega) (by omega)]
    exact d.2.2.2.2.2.1 i hi
  · rw [cdA_n (by omega) (by omega)]
    exact d.2.2.2.2.2.2.1 i hi
theorem cntC_cd {a g : Nat → Nat} {z c : Nat} : ∀ w, w ≤ a 0 → cntC (cdA a g (a 0) z) c w = cntC (fun k => g ((k - 12) / 4)) c w
  | 0, _ => rfl
  | w + 1, h => by
    show cntC (cdA a g (a 0) z) c w + (if cdA a g (a 0) z (12 + 4 * w + 2) = c then 1 else 0) = cntC (fun k => g ((k - 12) / 4)) c w + (if g ((12 + 4 * w + 2 - 12) / 4) = c then 1 else 0)
    rw [cntC_cd w (by omega), cdA_c (by omega), show (12 + 4 * w + 2 - 12) / 4 = w by omega]
theorem cntC_le {a b : Nat → Nat} {c : Nat} : ∀ w, (∀ i, i < w → a (12 + 4 * i + 2) = c → b (12 + 4 * i + 2) = c) → cntC a c w ≤ cntC b c w
  | 0, _ => Nat.le_refl _
  | w + 1, h => by
    show cntC a c w + (if a (12 + 4 * w + 2) = c then 1 else 0) ≤ cntC b c w + (if b (12 + 4 * w + 2) = c then 1 else 0)
    have i1 := cntC_le w (fun i hi => h i (by omega))
    by_cases q : a (12 + 4 * w + 2) = c
    · rw [if_pos q, if_pos (h w (by omega) q)]
      omega
    · rw [if_neg q]
      omega
/-- the cords behind a drop -/
def drG (a : Nat → Nat) (i : Nat) : Nat := if a (12 + 4 * i + 2) = a 1 then 0 else a (12 + 4 * i + 2)
theorem dr_ok {a : Nat → Nat} (d : DOK a) (h1 : 0 < a 1) : DOK (cdA a (drG a) (a 0) (a 1 - 1)) := by
  have d1 := d.1.2.1
  refine d.cd (by omega) (fun i hi => ?_) (fun c c1 c2 => ?_)
  · have b := (d.2.2.1 i hi).2.2.1
    unfold drG
    split <;> omega
  · rw [cntC_cd _ (Nat.le_refl _)]
    have := d.2.2.2.2.2.2.2 c c1 (by omega)
    refine Nat.le_trans (cntC_le _ (fun i hi q => ?_)) this
    have q : drG a ((12 + 4 * i + 2 - 12) / 4) = c := q
    rw [show (12 + 4 * i + 2 - 12) / 4 = i by omega] at q
    unfold drG at q
    split at q
    · omega
    · exact q
theorem cmi (n : Nat) : cI n = nI (n - 1) ∨ n = 0 := by
  cases n with
  | zero => exact Or.inr rfl
  | succ n => exact Or.inl (cI_s n)
theorem lo_2 {n K : Nat} {Mc Mm : Mem} (a1 a2 a3 a4 a5 : Int32) (hn : n < 512) (hI : Inv n K Mc Mm) : LO_2 Inv n K Mc Mm a1 a2 a3 a4 a5 := by
  have hE := hI.er hn
  have hU := hI.up hn
  obtain ⟨a, b, V, W, F, t, im, hb, mo, ⟨hB, mr, d, v⟩, i1, i2⟩ := hI
  have h := hB.1
  have tr := hB.2.1
  have kd := hB.2.2
  have c := hb.cx mo
  have d0 := d.1.1
  have d1 := d.1.2.1
  have d2 := d.1.2.2
  have dh := d.2.1
  have dt := d.2.2.2.2.1
  have f0 : Mc 30 0 = nI (a 0) := h.1.1
  have f1 : Mc 30 1 = nI (a 1) := h.1.2.1
  have f2 : Mc 30 2 = nI (a 2) := h.1.2.2
  have g0 : Mm 1 0 = nI (a 0) := mr 0 (by omega)
  have g1 : Mm 1 1 = nI (a 1) := mr 1 (by omega)
  have g2 : Mm 1 2 = nI (a 2) := mr 2 (by omega)
  unfold LO_2
  by_cases q : a 1 = 0
  · simp (disch := omega) only [i_lit, l_0, l_1, l_2, l_3, l_5, l_6, l_8, l_9, l_23, l_24, l_48, l_57, l_69, l_100, in_e, ci_e, lt_t, lt_f, le_t, le_f, eq_t, eq_f, nI_add, Nat.add_zero, xl_t, xl_f, xg_t, xg_f, xle_t, xle_f, xge_t, xge_f, xe_f, ci_t, ci_f, cx_t, cx_f, cn_t, cn_f, cp_t, cp_f, vi_t, cl_nI, c_er, m_er, eq_self, true_and, and_true, true_implies, false_implies, implies_true, not_true_eq_false, not_false_eq_true, true_or, or_true, forall_eq, P_X11_drop, P_X12_drop, f1, g1]
    exact hE 2 (by omega)
  · have dd := dr_ok d (by omega)
    simp (disch := omega) only [i_lit, l_0, l_1, l_2, l_3, l_5, l_6, l_8, l_9, l_23, l_24, l_48, l_57, l_69, l_100, in_e, ci_e, lt_t, lt_f, le_t, le_f, eq_t, eq_f, nI_add, Nat.add_zero, xl_t, xl_f, xg_t, xg_f, xle_t, xle_f, xge_t, xge_f, xe_f, ci_t, ci_f, cx_t, cx_f, cn_t, cn_f, cp_t, cp_f, vi_t, cl_nI, c_er, m_er, eq_self, true_and, and_true, true_implies, false_implies, implies_true, not_true_eq_false, not_false_eq_true, true_or, or_true, forall_eq, P_X11_drop, P_X2_takeOffCord, P_X12_drop, f1, g1]
    have ec : cI (a 1) = nI (a 1 - 1) := by
      rcases cmi (a 1) with e | e
      · exact e
      · exact absurd e q
    rw [ec]
    have model : ∀ M1 : Mem, HR 30 M1 (cdA a (drG a) (a 0) (a 1 - 1)) → (∀ k, k ≠ 30 → k ≠ 33 → M1 k = Mc k) → B_X12_drop_17 (fun r2 Mm1 => nI (a 1 - 1) = r2 ∧ Inv (n + 1) K M1 Mm1) (nI 0) Mm := fun M1 h1 k1 => by
      unfold B_X12_drop_17
      intro Y hY
      have key : ∀ f i (M2 : Mem), i + f = a 0 → MR M2 (cdA a (drG a) i (a 1)) → (∀ k, k ≠ 1 → M2 k = Mm k) → Y (nI i) M2 := by
        intro f
        induction f with
        | zero =>
          intro i M2 hi h2 k2
          obtain rfl : i = a 0 := by omega
          have e0 : M2 1 0 = nI (a 0) := by rw [h2 0 (by omega), cdA_n (by omega) (by omega)]
          have e1 : M2 1 1 = nI (a 1) := by rw [h2 1 (by omega), cdA_1]
          apply hY
          simp (disch := omega) only [i_lit, l_0, l_1, l_2, l_3, l_5, l_6, l_8, l_9, l_23, l_24, l_48, l_57, l_69, l_100, in_e, ci_e, lt_t, lt_f, le_t, le_f, eq_t, eq_f, nI_add, Nat.add_zero, xl_t, xl_f, xg_t, xg_f, xle_t, xle_f, xge_t, xge_f, xe_f, ci_t, ci_f, cx_t, cx_f, cn_t, cn_f, cp_t, cp_f, vi_t, cl_nI, c_er, m_er, eq_self, true_and, and_true, true_implies, false_implies, implies_true, not_true_eq_false, not_false_eq_true, true_or, or_true, forall_eq, e0, e1, sf_e]
          rw [ec]
          refine ⟨rfl, Inv.go (a' := cdA a (drG a) (a 0) (a 1 - 1)) (V' := V) hn hb i1 i2 (FC.of (fun k q1 q2 => k1 k (by omega) (by omega))) (FMo.of (fun k k3 => by rw [sf_ne k3]; exact k2 k k3)) (mo.keep (k1 2 (by omega) (by omega))) ⟨hB.up h1 (fun k q => k1 k (by omega) (by omega)) (k1 _ (by omega) (by omega)) (cdA_n (by omega) (by omega)) (cdA_n (by omega) (by omega)), fun k hk => ?_, dd, v.ab d (fun k q1 q2 => cdA_n (by omega) (by omega))⟩⟩
          by_cases z : k = 1
          · subst z
            rw [sf_e rfl rfl, cdA_1]
          · rw [sf_j z, h2 k hk]
            congr 1
            unfold cdA
            rw [if_neg z, if_neg z]
        | succ f ih =>
          intro i M2 hi h2 k2
          have e0 : M2 1 0 = nI (a 0) := by rw [h2 0 (by omega), cdA_n (by omega) (by omega)]
          have e1 : M2 1 1 = nI (a 1) := by rw [h2 1 (by omega), cdA_1]
          have ei : P_X12_its M2 (nI i) (nI 2) = fun R => R (nI (a (12 + 4 * i + 2))) := funext fun R => by rw [m_its h2 (by omega), cdA_C (Nat.le_refl _)]
          have b := (d.2.2.1 i (by omega)).2.2.1
          have nx : Y (nI (i + 1)) (sf M2 1 (12 + 4 * i + 2) (nI (drG a i))) := by
            refine ih (i + 1) _ (by omega) (fun k hk => ?_) (fun k k3 => by rw [sf_ne k3]; exact k2 k k3)
            by_cases z : k = 12 + 4 * i + 2
            · subst z
              rw [sf_e rfl rfl, cdA_c (by omega)]
            · rw [sf_j z, h2 k hk]
              congr 1
              by_cases z1 : k = 1
              · rw [z1, cdA_1, cdA_1]
              · unfold cdA
                rw [if_neg z1, if_neg z1]
                by_cases z2 : 12 ≤ k ∧ k < 12 + 4 * i ∧ k % 4 = 2
                · rw [if_pos z2, if_pos (by omega)]
                · rw [if_neg z2, if_neg (by omega)]
          apply hY
          simp (disch := omega) only [i_lit, l_0, l_1, l_2, l_3, l_5, l_6, l_8, l_9, l_23, l_24, l_48, l_57, l_69, l_100, in_e, ci_e, lt_t, lt_f, le_t, le_f, eq_t, eq_f, nI_add, Nat.add_zero, xl_t, xl_f, xg_t, xg_f, xle_t, xle_f, xge_t, xge_f, xe_f, ci_t, ci_f, cx_t, cx_f, cn_t, cn_f, cp_t, cp_f, vi_t, cl_nI, c_er, m_er, eq_self, true_and, and_true, true_implies, false_implies, implies_true, not_true_eq_false, not_false_eq_true, true_or, or_true, forall_eq, e0, e1, ei, B_X12_drop_55, m_puts]
          unfold drG at nx
          by_cases z : a (12 + 4 * i + 2) = a 1
          · rw [if_pos z] at nx
            simp (disch := omega) only [i_lit, l_0, l_1, l_2, l_3, l_5, l_6, l_8, l_9, l_23, l_24, l_48, l_57, l_69, l_100, in_e, ci_e, lt_t, lt_f, le_t, le_f, eq_t, eq_f, nI_add, Nat.add_zero, xl_t, xl_f, xg_t, xg_f, xle_t, xle_f, xge_t, xge_f, xe_f, ci_t, ci_f, cx_t, cx_f, cn_t, cn_f, cp_t, cp_f, vi_t, cl_nI, c_er, m_er, eq_self, true_and, and_true, true_implies, false_implies, implies_true, not_true_eq_false, not_false_eq_true, true_or, or_true, forall_eq]
            exact nx
          · rw [if_neg z] at nx
            simp (disch := omega) only [i_lit, l_0, l_1, l_2, l_3, l_5, l_6, l_8, l_9, l_23, l_24, l_48, l_57, l_69, l_100, in_e, ci_e, lt_t, lt_f, le_t, le_f, eq_t, eq_f, nI_add, Nat.add_zero, xl_t, xl_f, xg_t, xg_f, xle_t, xle_f, xge_t, xge_f, xe_f, ci_t, ci_f, cx_t, cx_f, cn_t, cn_f, cp_t, cp_f, vi_t, cl_nI, c_er, m_er, eq_self, true_and, and_true, true_implies, false_implies, implies_true, not_true_eq_false, not_false_eq_true, true_or, or_true, forall_eq]
            exact nx
      exact key (a 0) 0 Mm (by omega) (fun k hk => by rw [mr k hk]; congr 1; unfold cdA; split; rename_i z; rw [z]; rw [if_neg (by omega)]) (fun _ _ => rfl)
    unfold B_X2_takeOffCord_12
    intro X hX
    have key : ∀ f i (M1 : Mem), i + f = a 0 → (∀ k, k ≠ 30 → k ≠ 33 → M1 k = Mc k) → M1 30 1 = nI (a 1 - 1) → (∀ j, j ≠ 1 → M1 30 j = Mc 30 j) → (∀ j, j < i → M1 33 j = cI (drG a j)) → (∀ j, i ≤ j → M1 33 j = Mc 33 j) → X (nI i) M1 := by
      intro f
      induction f with
      | zero =>
        intro i M1 hi k1 e1 ej c1 c2
        obtain rfl : i = a 0 := by omega
        have e0 : M1 30 0 = nI (a 0) := by rw [ej 0 (by omega)]; exact f0
        apply hX
        simp (disch := omega) only [i_lit, l_0, l_1, l_2, l_3, l_5, l_6, l_8, l_9, l_23, l_24, l_48, l_57, l_69, l_100, in_e, ci_e, lt_t, lt_f, le_t, le_f, eq_t, eq_f, nI_add, Nat.add_zero, xl_t, xl_f, xg_t, xg_f, xle_t, xle_f, xge_t, xge_f, xe_f, ci_t, ci_f, cx_t, cx_f, cn_t, cn_f, cp_t, cp_f, vi_t, cl_nI, c_er, m_er, eq_self, true_and, and_true, true_implies, false_implies, implies_true, not_true_eq_false, not_false_eq_true, true_or, or_true, forall_eq, e0, e1]
        exact model M1 (h.cd d k1 e1 ej c1) k1
      | succ f ih =>
        intro i M1 hi k1 e1 ej c1 c2
        have e0 : M1 30 0 = nI (a 0) := by rw [ej 0 (by omega)]; exact f0
        have b := (d.2.2.1 i (by omega)).2.2.1
        have e3 : M1 (30 + 3) i = cI (a (12 + 4 * i + 2)) := by rw [show M1 (30 + 3) i = M1 33 i from rfl, c2 i (Nat.le_refl _)]; exact (h.2.2.1 i (by omega)).2.2.1
        apply hX
        rw [e0, e1, cl_nI (by omega), e3]
        refine br_f (nI_ge (by omega) (by omega)) ⟨vp_in_nI (by omega) (by omega), fun z => ?_, fun z => ⟨vp_in_nI (by omega) (by omega), ?_⟩⟩
        · have z' : a (12 + 4 * i + 2) ≠ a 1 := fun q2 => z (by rw [q2]; exact ec)
          rintro _ rfl
          rw [nI_1]
          refine ih (i + 1) M1 (by omega) k1 e1 ej (fun j hj => ?_) (fun j hj => c2 j (by omega))
          by_cases e : j = i
          · subst e
            have : drG a j = a (12 + 4 * j + 2) := if_neg z'
            rw [this]
            exact e3
          · exact c1 j (by omega)
        · have z' : a (12 + 4 * i + 2) = a 1 := by
            rw [cI_eqn (by omega) (by omega)] at z
            omega
          rintro _ rfl _ rfl
          rw [nI_1]
          refine ih (i + 1) _ (by omega) (fun k q3 q4 => by rw [sf_ne q4]; exact k1 k q3 q4) (by rw [sf_ne (by omega)]; exact e1) (fun j hj => by rw [sf_ne (by omega)]; exact ej j hj) (fun j hj => ?_) (fun j hj => by rw [sf_j (by omega)]; exact c2 j (by omega))
          by_cases e : j = i
          · subst e
            have : drG a j = 0 := if_pos z'
            rw [sf_e rfl rfl, this]
            exact cI_0.symm
          · rw [sf_j e]
            exact c1 j (by omega)
    exact key (a 0) 0 _ (by omega) (fun k q1 q2 => by rw [sf_ne q1]) (sf_e rfl rfl) (fun j hj => sf_j hj) (fun j hj => absurd hj (by omega)) (fun j _ => by rw [sf_ne (by omega)])
