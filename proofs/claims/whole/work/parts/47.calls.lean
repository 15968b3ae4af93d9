/-! ===== tape, law, hour, lock, seed, told, count ===== -/
def uN (x : Int32) : Nat := x.toBitVec.toNat
theorem uN_lt (x : Int32) : uN x < 4294967296 := x.toBitVec.isLt
theorem nI_u (x : Int32) : nI (uN x) = x := by
  apply Int32.toBitVec_inj.mp
  apply BitVec.eq_of_toNat_eq
  rw [pk_tn (by have := uN_lt x; omega)]
  rfl
def byC (w : Int64) (x : Int32) : Int32 := (((w.toUInt64 >>> ((8 * x).toInt64.toUInt64 &&& Int64.toUInt64 63)).toInt64).toInt32) &&& 255
def byM (w : Int64) (x : Int32) : Int32 := ((w >>> ((8 * x).toInt64 &&& 63)) &&& 255).toInt32
def byN (w : Int64) (i : Nat) : Nat := uN (byC w (nI i))
theorem byN_le (w : Int64) (i : Nat) : byN w i ≤ 255 := by
  unfold byN byC uN
  rw [pk_and _ (m := 255) 8 (by decide), pk_tn (by omega)]
  omega
theorem byC_e (w : Int64) (i : Nat) : byC w (nI i) = nI (byN w i) := (nI_u _).symm
theorem shU : ∀ i, i < 8 → (((8 * nI i).toInt64.toUInt64 &&& Int64.toUInt64 63).toBitVec % 64).toNat = 8 * i := by decide +kernel
theorem shS : ∀ i, i < 8 → (((8 * nI i).toInt64 &&& 63).toBitVec.smod 64).toNat = 8 * i := by decide +kernel
theorem byM_e (w : Int64) (i : Nat) (hi : i < 8) : byM w (nI i) = byC w (nI i) := by
  unfold byM byC
  apply Int32.toBitVec_inj.mp
  apply BitVec.eq_of_getLsbD_eq
  intro j hj
  rw [Int32.toBitVec_and, Int64.toBitVec_toInt32, Int64.toBitVec_toInt32, Int64.toBitVec_and, Int64.toBitVec_shiftRight]
  rw [BitVec.getLsbD_and, BitVec.getLsbD_signExtend, BitVec.getLsbD_signExtend, if_pos (show j < 64 by omega), if_pos (show j < 64 by omega), BitVec.getLsbD_and]
  rw [BitVec.sshiftRight_eq', shS i hi, BitVec.getLsbD_sshiftRight]
  rw [show (w.toUInt64 >>> ((8 * nI i).toInt64.toUInt64 &&& Int64.toUInt64 63)).toInt64.toBitVec = w.toBitVec >>> (((8 * nI i).toInt64.toUInt64 &&& Int64.toUInt64 63).toBitVec % 64) from rfl]
  rw [BitVec.ushiftRight_eq', BitVec.getLsbD_ushiftRight, shU i hi]
  by_cases h8 : j < 8
  · have e1 : decide (j < 32) = true := decide_eq_true hj
    have e2 : decide (64 ≤ j) = false := decide_eq_false (by omega)
    have e3 : 8 * i + j < 64 := by omega
    have e4 : (255 : Int64).toBitVec.getLsbD j = (255 : Int32).toBitVec.getLsbD j := by
      rcases (show j = 0 ∨ j = 1 ∨ j = 2 ∨ j = 3 ∨ j = 4 ∨ j = 5 ∨ j = 6 ∨ j = 7 by omega) with rfl | rfl | rfl | rfl | rfl | rfl | rfl | rfl <;> decide
    rw [e1, e2, if_pos e3, e4]
    simp
  · have e4 : (255 : Int64).toBitVec.getLsbD j = false := by
      have : ∀ j, j < 32 → ¬ j < 8 → (255 : Int64).toBitVec.getLsbD j = false := by decide +kernel
      exact this j hj h8
    have e5 : (255 : Int32).toBitVec.getLsbD j = false := by
      have : ∀ j, j < 32 → ¬ j < 8 → (255 : Int32).toBitVec.getLsbD j = false := by decide +kernel
      exact this j hj h8
    rw [e4, e5]
    simp
def tpA (a : Nat → Nat) (x : Nat) : Nat → Nat := updN (updN a (212 + a 9) x) 9 (a 9 + 1)
theorem tpA_9 {a : Nat → Nat} {x : Nat} : tpA a x 9 = a 9 + 1 := updN_s _ _ _
theorem tpA_n {a : Nat → Nat} {x k : Nat} (h9 : k ≠ 9) (h : k ≠ 212 + a 9) : tpA a x k = a k := by
  unfold tpA
  rw [updN_n h9, updN_n h]
theorem HR.tape {g x : Nat} {M : Mem} {a : Nat → Nat} (h : HR g M a) (d : DOK a) : HR g (sf (sf M (g + 9) (a 9) (nI x)) (g + 8) 1 (nI (a 9 + 1))) (tpA a x) := by
  have d0 := d.1.1
  have d2 := d.1.2.2
  have dt := d.2.2.2.2.1
  unfold HR tpA
  simp (disch := omega) only [nI_add, updN_n, updN_e, sf_ne, sf_e, sf_j]
  refine ⟨h.1, h.2.1, fun w hw => ?_, fun l hl => ?_, ⟨trivial, fun i hi => ?_⟩, h.2.2.2.2.2.1, fun i hi => ?_⟩
  · simp (disch := omega) only [nI_add, updN_n, updN_e, sf_ne, sf_e, sf_j]
    exact h.2.2.1 w hw
  · simp (disch := omega) only [nI_add, updN_n, updN_e, sf_ne, sf_e, sf_j]
    exact h.2.2.2.1 l hl
  · by_cases q : i = a 9
    · subst q
      simp (disch := omega) only [nI_add, updN_n, updN_e, sf_ne, sf_e, sf_j]
    · simp (disch := omega) only [nI_add, updN_n, updN_e, sf_ne, sf_e, sf_j]
      exact h.2.2.2.2.1.2 i (by omega)
  · simp (disch := omega) only [nI_add, updN_n, updN_e, sf_ne, sf_e, sf_j]
    exact h.2.2.2.2.2.2 i hi
theorem DOK.tape {a : Nat → Nat} (d : DOK a) {x : Nat} (hx : x ≤ 255) (h9 : a 9 < 50) : DOK (tpA a x) := by
  have d0 := d.1.1
  have d2 := d.1.2.2
  have dt := d.2.2.2.2.1
  unfold DOK tpA
  simp (disch := omega) only [nI_add, updN_n, updN_e, sf_ne, sf_e, sf_j]
  refine ⟨d.1, d.2.1, fun w hw => ?_, fun l hl => ?_, ⟨by omega, dt.2.1, dt.2.2⟩, fun i hi => ?_, fun i hi => ?_, fun c c1 c2 => ?_⟩
  · simp (disch := omega) only [nI_add, updN_n, updN_e, sf_ne, sf_e, sf_j]
    exact d.2.2.1 w hw
  · simp (disch := omega) only [nI_add, updN_n, updN_e, sf_ne, sf_e, sf_j]
    exact d.2.2.2.1 l hl
  · by_cases q : i = a 9
    · subst q
      simp (disch := omega) only [nI_add, updN_n, updN_e, sf_ne, sf_e, sf_j]
      exact hx
    · simp (disch := omega) only [nI_add, updN_n, updN_e, sf_ne, sf_e, sf_j]
      exact d.2.2.2.2.2.1 i hi
  · simp (disch := omega) only [nI_add, updN_n, updN_e, sf_ne, sf_e, sf_j]
    exact d.2.2.2.2.2.2.1 i hi
  · rw [cntC_eq (b := a) _ (fun i hi => by simp (disch := omega) only [updN_n])]
    exact d.2.2.2.2.2.2.2 c c1 c2
theorem r38 : rLen 38 = 50 := rfl
theorem r40 : rLen 40 = 20 := rfl
theorem ofNat_nI (n : Nat) : Int32.ofNat n = nI n := rfl
def fdA (w : Int64) : Nat → (Nat → Nat) → (Nat → Nat)
  | 0, a => a
  | i + 1, a => tpA (fdA w i a) (byN w i)
theorem fdA_9 (w : Int64) (a : Nat → Nat) : ∀ i, fdA w i a 9 = a 9 + i
  | 0 => rfl
  | i + 1 => by
    show tpA (fdA w i a) (byN w i) 9 = _
    rw [tpA_9, fdA_9 w a i]
    rfl
theorem fdA_n (w : Int64) (a : Nat → Nat) {k : Nat} (h9 : k ≠ 9) (h : k < 212) : ∀ i, fdA w i a k = a k
  | 0 => rfl
  | i + 1 => by
    show tpA (fdA w i a) (byN w i) k = _
    rw [tpA_n h9 (by omega), fdA_n w a h9 h i]
theorem fdA_ok {w : Int64} {a : Nat → Nat} (d : DOK a) : ∀ i, a 9 + i ≤ 50 → DOK (fdA w i a)
  | 0, _ => d
  | i + 1, h => (fdA_ok d i (by omega)).tape (byN_le w i) (by rw [fdA_9]; omega)
theorem lo_16 {n K : Nat} {Mc Mm : Mem} (a1 a2 a3 a4 a5 : Int32) (hn : n < 512) (hI : Inv n K Mc Mm) : LO_16 Inv n K Mc Mm a1 a2 a3 a4 a5 := by
  have hE := hI.er hn
  have hU := hI.up hn
  obtain ⟨a, b, V, W, F, t, im, hb, mo, ⟨hB, mr, d, v⟩, i1, i2⟩ := hI
  have h := hB.1
  have tr := hB.2.1
  have kd := hB.2.2
  have c := hb.cx mo
  have d0 := d.1.1
  have d1 := d.1.2.1
  have d2 := d.1.2.2
  have dh := d.2.1
  have dt := d.2.2.2.2.1
  have f0 : Mc 30 0 = nI (a 0) := h.1.1
  have f1 : Mc 30 1 = nI (a 1) := h.1.2.1
  have f2 : Mc 30 2 = nI (a 2) := h.1.2.2
  have g0 : Mm 1 0 = nI (a 0) := mr 0 (by omega)
  have g1 : Mm 1 1 = nI (a 1) := mr 1 (by omega)
  have g2 : Mm 1 2 = nI (a 2) := mr 2 (by omega)
  unfold LO_16
  generalize ((a1.toInt64 <<< ((32 : Int32).toInt64 &&& 63)) ||| (a2.toInt64 &&& 4294967295)) = w
  have f9 : Mc 38 1 = nI (a 9) := h.2.2.2.2.1.1
  have g9 : Mm 1 9 = nI (a 9) := mr 9 (by omega)
  rcases rng a3 8 (by omega) with ⟨m, hm, rfl⟩ | xm | xm
  · by_cases m0 : m = 0
    · subst m0
      simp (disch := omega) only [i_lit, l_0, l_1, l_2, l_3, l_5, l_6, l_8, l_9, l_23, l_24, l_48, l_57, l_69, l_100, in_e, ci_e, lt_t, lt_f, le_t, le_f, eq_t, eq_f, nI_add, Nat.add_zero, xl_t, xl_f, xg_t, xg_f, xle_t, xle_f, xge_t, xge_f, xe_f, ci_t, ci_f, cx_t, cx_f, cn_t, cn_f, cp_t, cp_f, vi_t, cl_nI, c_er, m_er, eq_self, true_and, and_true, true_implies, false_implies, implies_true, not_true_eq_false, not_false_eq_true, true_or, or_true, forall_eq, P_X11_feed, P_X12_feed]
      exact hE 1 (by omega)
    · by_cases q : a 9 + m ≤ 50
      · simp (disch := omega) only [i_lit, l_0, l_1, l_2, l_3, l_5, l_6, l_8, l_9, l_23, l_24, l_48, l_57, l_69, l_100, in_e, ci_e, lt_t, lt_f, le_t, le_f, eq_t, eq_f, nI_add, Nat.add_zero, xl_t, xl_f, xg_t, xg_f, xle_t, xle_f, xge_t, xge_f, xe_f, ci_t, ci_f, cx_t, cx_f, cn_t, cn_f, cp_t, cp_f, vi_t, cl_nI, c_er, m_er, eq_self, true_and, and_true, true_implies, false_implies, implies_true, not_true_eq_false, not_false_eq_true, true_or, or_true, forall_eq, P_X11_feed, P_X12_feed, f9, g9]
        unfold B_X11_feed_43
        intro X hX
        have key : ∀ f i (M1 : Mem), i + f = m → HR 30 M1 (fdA w i a) → (∀ k, k ≠ 38 → k ≠ 39 → M1 k = Mc k) → X (nI i) M1 := by
          intro f
          induction f with
          | zero =>
            intro i M1 hi h1 k1
            obtain rfl : i = m := by omega
            have e9 : M1 38 1 = nI (a 9 + i) := by rw [← fdA_9 w a i]; exact h1.2.2.2.2.1.1
            apply hX
            simp (disch := omega) only [i_lit, l_0, l_1, l_2, l_3, l_5, l_6, l_8, l_9, l_23, l_24, l_48, l_57, l_69, l_100, in_e, ci_e, lt_t, lt_f, le_t, le_f, eq_t, eq_f, nI_add, Nat.add_zero, xl_t, xl_f, xg_t, xg_f, xle_t, xle_f, xge_t, xge_f, xe_f, ci_t, ci_f, cx_t, cx_f, cn_t, cn_f, cp_t, cp_f, vi_t, cl_nI, c_er, m_er, eq_self, true_and, and_true, true_implies, false_implies, implies_true, not_true_eq_false, not_false_eq_true, true_or, or_true, forall_eq, e9]
            unfold B_X12_feed_41
            intro Y hY
            have key2 : ∀ f j (M2 : Mem), j + f = i → MR M2 (fdA w j a) → (∀ k, k ≠ 1 → M2 k = Mm k) → Y (nI j) M2 := by
              intro f
              induction f with
              | zero =>
                intro j M2 hj h2 k2
                obtain rfl : j = i := by omega
                have e92 : M2 1 9 = nI (a 9 + j) := by rw [← fdA_9 w a j]; exact h2 9 (by omega)
                apply hY
                simp (disch := omega) only [i_lit, l_0, l_1, l_2, l_3, l_5, l_6, l_8, l_9, l_23, l_24, l_48, l_57, l_69, l_100, in_e, ci_e, lt_t, lt_f, le_t, le_f, eq_t, eq_f, nI_add, Nat.add_zero, xl_t, xl_f, xg_t, xg_f, xle_t, xle_f, xge_t, xge_f, xe_f, ci_t, ci_f, cx_t, cx_f, cn_t, cn_f, cp_t, cp_f, vi_t, cl_nI, c_er, m_er, eq_self, true_and, and_true, true_implies, false_implies, implies_true, not_true_eq_false, not_false_eq_true, true_or, or_true, forall_eq, e92]
                exact Inv.go hn hb i1 i2 (FC.of (fun k q1 q2 => k1 k (by omega) (by omega))) (FMo.of k2) (mo.keep (k1 2 (by omega) (by omega))) ⟨hB.up h1 (fun k q => k1 k (by omega) (by omega)) (k1 _ (by omega) (by omega)) (fdA_n w a (by omega) (by omega) _) (fdA_n w a (by omega) (by omega) _), h2, fdA_ok d _ (by omega), v.ab d (fun k q1 q2 => fdA_n w a (by omega) (by omega) _)⟩
              | succ f ih =>
                intro j M2 hj h2 k2
                have e92 : M2 1 9 = nI (a 9 + j) := by rw [← fdA_9 w a j]; exact h2 9 (by omega)
                have ev : ((w >>> ((8 * nI j).toInt64 &&& 63)) &&& 255).toInt32 = nI (byN w j) := by rw [← byC_e, ← byM_e w j (by omega)]; rfl
                apply hY
                rw [ev]
                simp (disch := omega) only [i_lit, l_0, l_1, l_2, l_3, l_5, l_6, l_8, l_9, l_23, l_24, l_48, l_57, l_69, l_100, in_e, ci_e, lt_t, lt_f, le_t, le_f, eq_t, eq_f, nI_add, Nat.add_zero, xl_t, xl_f, xg_t, xg_f, xle_t, xle_f, xge_t, xge_f, xe_f, ci_t, ci_f, cx_t, cx_f, cn_t, cn_f, cp_t, cp_f, vi_t, cl_nI, c_er, m_er, eq_self, true_and, and_true, true_implies, false_implies, implies_true, not_true_eq_false, not_false_eq_true, true_or, or_true, forall_eq, e92, sf_j]
                refine ih (j + 1) _ (by omega) ?_ (fun k k0 => by rw [sf_ne k0, sf_ne k0]; exact k2 k k0)
                show MR _ (updN (updN (fdA w j a) (212 + fdA w j a 9) (byN w j)) 9 (fdA w j a 9 + 1))
                rw [fdA_9]
                exact (h2.up _ _).up _ _
            exact key2 i 0 Mm (by omega) mr (fun _ _ => rfl)
          | succ f ih =>
            intro i M1 hi h1 k1
            have e9 : M1 38 1 = nI (a 9 + i) := by rw [← fdA_9 w a i]; exact h1.2.2.2.2.1.1
            have dd : DOK (fdA w i a) := fdA_ok d i (by omega)
            have ev : (((w.toUInt64 >>> ((8 * nI i).toInt64.toUInt64 &&& Int64.toUInt64 63)).toInt64).toInt32) &&& 255 = nI (byN w i) := byC_e w i
            apply hX
            rw [ev]
            simp (disch := omega) only [i_lit, l_0, l_1, l_2, l_3, l_5, l_6, l_8, l_9, l_23, l_24, l_48, l_57, l_69, l_100, in_e, ci_e, lt_t, lt_f, le_t, le_f, eq_t, eq_f, nI_add, Nat.add_zero, xl_t, xl_f, xg_t, xg_f, xle_t, xle_f, xge_t, xge_f, xe_f, ci_t, ci_f, cx_t, cx_f, cn_t, cn_f, cp_t, cp_f, vi_t, cl_nI, c_er, m_er, eq_self, true_and, and_true, true_implies, false_implies, implies_true, not_true_eq_false, not_false_eq_true, true_or, or_true, forall_eq, P_X4_add, r38, ofNat_nI, e9, sf_ne, sf_j]
            refine ih (i + 1) _ (by omega) ?_ (fun k k0 k3 => by rw [sf_ne k0, sf_ne k3]; exact k1 k k0 k3)
            have := h1.tape (x := byN w i) dd
            rw [fdA_9] at this
            exact this
        exact key m 0 Mc (by omega) h (fun _ _ _ => rfl)
      · simp (disch := omega) only [i_lit, l_0, l_1, l_2, l_3, l_5, l_6, l_8, l_9, l_23, l_24, l_48, l_57, l_69, l_100, in_e, ci_e, lt_t, lt_f, le_t, le_f, eq_t, eq_f, nI_add, Nat.add_zero, xl_t, xl_f, xg_t, xg_f, xle_t, xle_f, xge_t, xge_f, xe_f, ci_t, ci_f, cx_t, cx_f, cn_t, cn_f, cp_t, cp_f, vi_t, cl_nI, c_er, m_er, eq_self, true_and, and_true, true_implies, false_implies, implies_true, not_true_eq_false, not_false_eq_true, true_or, or_true, forall_eq, P_X11_feed, P_X12_feed, f9, g9]
        exact hE 4 (by omega)
  · simp (disch := omega) only [i_lit, l_0, l_1, l_2, l_3, l_5, l_6, l_8, l_9, l_23, l_24, l_48, l_57, l_69, l_100, in_e, ci_e, lt_t, lt_f, le_t, le_f, eq_t, eq_f, nI_add, Nat.add_zero, xl_t, xl_f, xg_t, xg_f, xle_t, xle_f, xge_t, xge_f, xe_f, ci_t, ci_f, cx_t, cx_f, cn_t, cn_f, cp_t, cp_f, vi_t, cl_nI, c_er, m_er, eq_self, true_and, and_true, true_implies, false_implies, implies_true, not_true_eq_false, not_false_eq_true, true_or, or_true, forall_eq, P_X11_feed, P_X12_feed]
    exact hE 1 (by omega)
  · simp (disch := omega) only [i_lit, l_0, l_1, l_2, l_3, l_5, l_6, l_8, l_9, l_23, l_24, l_48, l_57, l_69, l_100, in_e, ci_e, lt_t, lt_f, le_t, le_f, eq_t, eq_f, nI_add, Nat.add_zero, xl_t, xl_f, xg_t, xg_f, xle_t, xle_f, xge_t, xge_f, xe_f, ci_t, ci_f, cx_t, cx_f, cn_t, cn_f, cp_t, cp_f, vi_t, cl_nI, c_er, m_er, eq_self, true_and, and_true, true_implies, false_implies, implies_true, not_true_eq_false, not_false_eq_true, true_or, or_true, forall_eq, P_X11_feed, P_X12_feed]
    exact hE 1 (by omega)
theorem lo_18 {n K : Nat} {Mc Mm : Mem} (a1 a2 a3 a4 a5 : Int32) (hn : n < 512) (hI : Inv n K Mc Mm) : LO_18 Inv n K Mc Mm a1 a2 a3 a4 a5 := by
  have hE := hI.er hn
  have hU := hI.up hn
  obtain ⟨a, b, V, W, F, t, im, hb, mo, ⟨hB, mr, d, v⟩, i1, i2⟩ := hI
  have h := hB.1
  have tr := hB.2.1
  have kd := hB.2.2
  have c := hb.cx mo
  have d0 := d.1.1
  have d1 := d.1.2.1
  have d2 := d.1.2.2
  have dh := d.2.1
  have dt := d.2.2.2.2.1
  have f0 : Mc 30 0 = nI (a 0) := h.1.1
  have f1 : Mc 30 1 = nI (a 1) := h.1.2.1
  have f2 : Mc 30 2 = nI (a 2) := h.1.2.2
  have g0 : Mm 1 0 = nI (a 0) := mr 0 (by omega)
  have g1 : Mm 1 1 = nI (a 1) := mr 1 (by omega)
  have g2 : Mm 1 2 = nI (a 2) := mr 2 (by omega)
  unfold LO_18
  rcases rng a1 1 (by omega) with ⟨u, hu, rfl⟩ | xu | xu
  · have e : ∀ {A : Prop} {Q : Int32 → Prop}, Q 1 → P_X11_isUse (nI u) Q := fun hq => by
      rcases (show u = 0 ∨ u = 1 by omega) with rfl | rfl
      · exact ⟨fun _ => hq, fun z => absurd rfl z⟩
      · exact ⟨fun z => absurd z (by decide), fun _ => ⟨fun z => absurd rfl z, fun _ => hq⟩⟩
    unfold P_X11_law
    refine e (A := True) ?_
    simp (disch := omega) only [i_lit, l_0, l_1, l_2, l_3, l_5, l_6, l_8, l_9, l_23, l_24, l_48, l_57, l_69, l_100, in_e, ci_e, lt_t, lt_f, le_t, le_f, eq_t, eq_f, nI_add, Nat.add_zero, xl_t, xl_f, xg_t, xg_f, xle_t, xle_f, xge_t, xge_f, xe_f, ci_t, ci_f, cx_t, cx_f, cn_t, cn_f, cp_t, cp_f, vi_t, cl_nI, c_er, m_er, eq_self, true_and, and_true, true_implies, false_implies, implies_true, not_true_eq_false, not_false_eq_true, true_or, or_true, forall_eq, P_X12_law]
    refine c_lawBy (by omega) tr c (fun M1 s1 c1 => m_textGives (by omega) mr d v (fun M2 s2 => ⟨rfl, ?_⟩))
    exact Inv.sc hn hb ⟨hB, mr, d, v⟩ i1 i2 s1 c1.1 s2
  · simp (disch := omega) only [i_lit, l_0, l_1, l_2, l_3, l_5, l_6, l_8, l_9, l_23, l_24, l_48, l_57, l_69, l_100, in_e, ci_e, lt_t, lt_f, le_t, le_f, eq_t, eq_f, nI_add, Nat.add_zero, xl_t, xl_f, xg_t, xg_f, xle_t, xle_f, xge_t, xge_f, xe_f, ci_t, ci_f, cx_t, cx_f, cn_t, cn_f, cp_t, cp_f, vi_t, cl_nI, c_er, m_er, eq_self, true_and, and_true, true_implies, false_implies, implies_true, not_true_eq_false, not_false_eq_true, true_or, or_true, forall_eq, P_X11_law, P_X11_isUse, P_X12_law]
    exact hE 1 (by omega)
  · simp (disch := omega) only [i_lit, l_0, l_1, l_2, l_3, l_5, l_6, l_8, l_9, l_23, l_24, l_48, l_57, l_69, l_100, in_e, ci_e, lt_t, lt_f, le_t, le_f, eq_t, eq_f, nI_add, Nat.add_zero, xl_t, xl_f, xg_t, xg_f, xle_t, xle_f, xge_t, xge_f, xe_f, ci_t, ci_f, cx_t, cx_f, cn_t, cn_f, cp_t, cp_f, vi_t, cl_nI, c_er, m_er, eq_self, true_and, and_true, true_implies, false_implies, implies_true, not_true_eq_false, not_false_eq_true, true_or, or_true, forall_eq, P_X11_law, P_X11_isUse, P_X12_law]
    exact hE 1 (by omega)
theorem DOK.hr {a a' : Nat → Nat} (d : DOK a) (ha : ∀ k, k = 0 ∨ k = 1 ∨ k = 2 ∨ 8 < k → a' k = a k) (h3 : a' 3 ≤ 23 ∧ a' 4 ≤ 999 ∧ a' 5 ≤ 999999 ∧ a' 6 ≤ 24 ∧ a' 7 ≤ 24) : DOK a' := by
  unfold DOK
  rw [ha 0 (by omega), ha 1 (by omega), ha 2 (by omega), ha 9 (by omega), ha 10 (by omega), ha 90 (by omega), ha 91 (by omega)]
  refine ⟨d.1, h3, fun w hw => ?_, fun l hl => ?_, d.2.2.2.2.1, fun i hi => ?_, fun i hi => ?_, fun c c1 c2 => ?_⟩
  · rw [ha (12 + 4 * w) (by omega), ha (12 + 4 * w + 1) (by omega), ha (12 + 4 * w + 2) (by omega), ha (12 + 4 * w + 3) (by omega)]
    exact d.2.2.1 w hw
  · rw [ha (44 + 3 * l) (by omega), ha (44 + 3 * l + 1) (by omega), ha (44 + 3 * l + 2) (by omega)]
    exact d.2.2.2.1 l hl
  · rw [ha (212 + i) (by omega)]
    exact d.2.2.2.2.2.1 i hi
  · rw [ha (112 + i) (by omega)]
    exact d.2.2.2.2.2.2.1 i hi
  · rw [cntC_eq (b := a) _ (fun i hi => ha _ (by omega))]
    exact d.2.2.2.2.2.2.2 c c1 c2
theorem lo_22 {n K : Nat} {Mc Mm : Mem} (a1 a2 a3 a4 a5 : Int32) (hn : n < 512) (hI : Inv n K Mc Mm) : LO_22 Inv n K Mc Mm a1 a2 a3 a4 a5 := by
  have hE := hI.er hn
  have hU := hI.up hn
  obtain ⟨a, b, V, W, F, t, im, hb, mo, ⟨hB, mr, d, v⟩, i1, i2⟩ := hI
  have h := hB.1
  have tr := hB.2.1
  have kd := hB.2.2
  have c := hb.cx mo
  have d0 := d.1.1
  have d1 := d.1.2.1
  have d2 := d.1.2.2
  have dh := d.2.1
  have dt := d.2.2.2.2.1
  have f0 : Mc 30 0 = nI (a 0) := h.1.1
  have f1 : Mc 30 1 = nI (a 1) := h.1.2.1
  have f2 : Mc 30 2 = nI (a 2) := h.1.2.2
  have g0 : Mm 1 0 = nI (a 0) := mr 0 (by omega)
  have g1 : Mm 1 1 = nI (a 1) := mr 1 (by omega)
  have g2 : Mm 1 2 = nI (a 2) := mr 2 (by omega)
  unfold LO_22
  have f3 : Mc 30 10 = nI (a 3) := h.2.1.1
  have g3 : Mm 1 3 = nI (a 3) := mr 3 (by omega)
  rcases rng a1 23 (by omega) with ⟨u, hu, rfl⟩ | xu | xu
  · simp (disch := omega) only [i_lit, l_0, l_1, l_2, l_3, l_5, l_6, l_8, l_9, l_23, l_24, l_48, l_57, l_69, l_100, in_e, ci_e, lt_t, lt_f, le_t, le_f, eq_t, eq_f, nI_add, Nat.add_zero, xl_t, xl_f, xg_t, xg_f, xle_t, xle_f, xge_t, xge_f, xe_f, ci_t, ci_f, cx_t, cx_f, cn_t, cn_f, cp_t, cp_f, vi_t, cl_nI, c_er, m_er, eq_self, true_and, and_true, true_implies, false_implies, implies_true, not_true_eq_false, not_false_eq_true, true_or, or_true, forall_eq, P_X11_hour, P_X12_hour, f3, g3]
    refine Inv.go (a' := updN a 3 u) (V' := V) hn hb i1 i2 (FC.of (fun k k1 k2 => by simp (disch := omega) only [sf_ne])) (FMo.of (fun k k1 => by simp (disch := omega) only [sf_ne])) (mo.keep (by simp (disch := omega) only [sf_ne])) ⟨hB.up (h.row (fun k hk => sf_ne hk) (fun k hk => updN_n (by omega)) (by simp (disch := omega) only [nI_add, updN_n, updN_e, sf_ne, sf_e, sf_j, and_self]) ?_) (fun k k1 => by simp (disch := omega) only [sf_ne]) (by simp (disch := omega) only [sf_ne]) (updN_n (by omega)) (updN_n (by omega)), mr.up _ _, d.hr (fun k hk => updN_n (by omega)) ?_, v.ab d (fun k k1 k2 => updN_n (by omega))⟩
    · simp (disch := omega) only [nI_add, updN_n, updN_e, sf_ne, sf_e, sf_j]
      exact ⟨trivial, h.2.1.2⟩
    · simp (disch := omega) only [nI_add, updN_n, updN_e, sf_ne, sf_e, sf_j]
      exact ⟨hu, dh.2⟩
  · simp (disch := omega) only [i_lit, l_0, l_1, l_2, l_3, l_5, l_6, l_8, l_9, l_23, l_24, l_48, l_57, l_69, l_100, in_e, ci_e, lt_t, lt_f, le_t, le_f, eq_t, eq_f, nI_add, Nat.add_zero, xl_t, xl_f, xg_t, xg_f, xle_t, xle_f, xge_t, xge_f, xe_f, ci_t, ci_f, cx_t, cx_f, cn_t, cn_f, cp_t, cp_f, vi_t, cl_nI, c_er, m_er, eq_self, true_and, and_true, true_implies, false_implies, implies_true, not_true_eq_false, not_false_eq_true, true_or, or_true, forall_eq, P_X11_hour, P_X12_hour, f3, g3]
    exact hE 1 (by omega)
  · simp (disch := omega) only [i_lit, l_0, l_1, l_2, l_3, l_5, l_6, l_8, l_9, l_23, l_24, l_48, l_57, l_69, l_100, in_e, ci_e, lt_t, lt_f, le_t, le_f, eq_t, eq_f, nI_add, Nat.add_zero, xl_t, xl_f, xg_t, xg_f, xle_t, xle_f, xge_t, xge_f, xe_f, ci_t, ci_f, cx_t, cx_f, cn_t, cn_f, cp_t, cp_f, vi_t, cl_nI, c_er, m_er, eq_self, true_and, and_true, true_implies, false_implies, implies_true, not_true_eq_false, not_false_eq_true, true_or, or_true, forall_eq, P_X11_hour, P_X12_hour, f3, g3]
    exact hE 1 (by omega)
theorem lo_31 {n K : Nat} {Mc Mm : Mem} (a1 a2 a3 a4 a5 : Int32) (hn : n < 512) (hI : Inv n K Mc Mm) : LO_31 Inv n K Mc Mm a1 a2 a3 a4 a5 := by
  have hE := hI.er hn
  have hU := hI.up hn
  obtain ⟨a, b, V, W, F, t, im, hb, mo, ⟨hB, mr, d, v⟩, i1, i2⟩ := hI
  have h := hB.1
  have tr := hB.2.1
  have kd := hB.2.2
  have c := hb.cx mo
  have d0 := d.1.1
  have d1 := d.1.2.1
  have d2 := d.1.2.2
  have dh := d.2.1
  have dt := d.2.2.2.2.1
  have f0 : Mc 30 0 = nI (a 0) := h.1.1
  have f1 : Mc 30 1 = nI (a 1) := h.1.2.1
  have f2 : Mc 30 2 = nI (a 2) := h.1.2.2
  have g0 : Mm 1 0 = nI (a 0) := mr 0 (by omega)
  have g1 : Mm 1 1 = nI (a 1) := mr 1 (by omega)
  have g2 : Mm 1 2 = nI (a 2) := mr 2 (by omega)
  unfold LO_31
  have f8 : Mc 30 15 = nI (a 8) := h.2.1.2.2.2.2.2
  have g8 : Mm 1 8 = nI (a 8) := mr 8 (by omega)
  rw [← nI_u a1]
  simp (disch := omega) only [i_lit, l_0, l_1, l_2, l_3, l_5, l_6, l_8, l_9, l_23, l_24, l_48, l_57, l_69, l_100, in_e, ci_e, lt_t, lt_f, le_t, le_f, eq_t, eq_f, nI_add, Nat.add_zero, xl_t, xl_f, xg_t, xg_f, xle_t, xle_f, xge_t, xge_f, xe_f, ci_t, ci_f, cx_t, cx_f, cn_t, cn_f, cp_t, cp_f, vi_t, cl_nI, c_er, m_er, eq_self, true_and, and_true, true_implies, false_implies, implies_true, not_true_eq_false, not_false_eq_true, true_or, or_true, forall_eq, P_X11_seed, P_X12_seed, f8, g8]
  refine Inv.go (a' := updN a 8 (uN a1)) (V' := V) hn hb i1 i2 (FC.of (fun k k1 k2 => by simp (disch := omega) only [sf_ne])) (FMo.of (fun k k1 => by simp (disch := omega) only [sf_ne])) (mo.keep (by simp (disch := omega) only [sf_ne])) ⟨hB.up (h.row (fun k hk => sf_ne hk) (fun k hk => updN_n (by omega)) (by simp (disch := omega) only [nI_add, updN_n, updN_e, sf_ne, sf_e, sf_j, and_self]) ?_) (fun k k1 => by simp (disch := omega) only [sf_ne]) (by simp (disch := omega) only [sf_ne]) (updN_n (by omega)) (updN_n (by omega)), mr.up _ _, d.hr (fun k hk => updN_n (by omega)) ?_, v.ab d (fun k k1 k2 => updN_n (by omega))⟩
  · simp (disch := omega) only [nI_add, updN_n, updN_e, sf_ne, sf_e, sf_j]
    exact ⟨h.2.1.1, h.2.1.2.1, h.2.1.2.2.1, h.2.1.2.2.2.1, h.2.1.2.2.2.2.1, trivial⟩
  · simp (disch := omega) only [nI_add, updN_n, updN_e, sf_ne, sf_e, sf_j]
    exact dh
theorem lo_23 {n K : Nat} {Mc Mm : Mem} (a1 a2 a3 a4 a5 : Int32) (hn : n < 512) (hI : Inv n K Mc Mm) : LO_23 Inv n K Mc Mm a1 a2 a3 a4 a5 := by
  have hE := hI.er hn
  have hU := hI.up hn
  obtain ⟨a, b, V, W, F, t, im, hb, mo, ⟨hB, mr, d, v⟩, i1, i2⟩ := hI
  have h := hB.1
  have tr := hB.2.1
  have kd := hB.2.2
  have c := hb.cx mo
  have d0 := d.1.1
  have d1 := d.1.2.1
  have d2 := d.1.2.2
  have dh := d.2.1
  have dt := d.2.2.2.2.1
  have f0 : Mc 30 0 = nI (a 0) := h.1.1
  have f1 : Mc 30 1 = nI (a 1) := h.1.2.1
  have f2 : Mc 30 2 = nI (a 2) := h.1.2.2
  have g0 : Mm 1 0 = nI (a 0) := mr 0 (by omega)
  have g1 : Mm 1 1 = nI (a 1) := mr 1 (by omega)
  have g2 : Mm 1 2 = nI (a 2) := mr 2 (by omega)
  unfold LO_23
  rcases rng a1 24 (by omega) with ⟨x, hx, rfl⟩ | xx | xx
  · rcases rng a2 24 (by omega) with ⟨y, hy, rfl⟩ | xy | xy
    · simp (disch := omega) only [i_lit, l_0, l_1, l_2, l_3, l_5, l_6, l_8, l_9, l_23, l_24, l_48, l_57, l_69, l_100, in_e, ci_e, lt_t, lt_f, le_t, le_f, eq_t, eq_f, nI_add, Nat.add_zero, xl_t, xl_f, xg_t, xg_f, xle_t, xle_f, xge_t, xge_f, xe_f, ci_t, ci_f, cx_t, cx_f, cn_t, cn_f, cp_t, cp_f, vi_t, cl_nI, c_er, m_er, eq_self, true_and, and_true, true_implies, false_implies, implies_true, not_true_eq_false, not_false_eq_true, true_or, or_true, forall_eq, P_X11_lock, P_X12_lock]
      have h' : HR 30 (sf (sf Mc 30 13 (nI x)) 30 14 (nI y)) (updN (updN a 6 x) 7 y) := h.row (fun k hk => by rw [sf_ne hk, sf_ne hk]) (fun k hk => by simp (disch := omega) only [updN_n]) (by simp (disch := omega) only [nI_add, updN_n, updN_e, sf_ne, sf_e, sf_j, and_self]) (by
        simp (disch := omega) only [nI_add, updN_n, updN_e, sf_ne, sf_e, sf_j]
        exact ⟨h.2.1.1, h.2.1.2.1, h.2.1.2.2.1, trivial, trivial, h.2.1.2.2.2.2.2⟩)
      have d' : DOK (updN (updN a 6 x) 7 y) := d.hr (fun k hk => by simp (disch := omega) only [updN_n]) (by
        simp (disch := omega) only [nI_add, updN_n, updN_e, sf_ne, sf_e, sf_j]
        exact ⟨dh.1, dh.2.1, dh.2.2.1, hx, hy⟩)
      have fin : Inv (n + 1) K (sf (sf Mc 30 13 (nI x)) 30 14 (nI y)) (sf (sf Mm 1 6 (nI x)) 1 7 (nI y)) :=
        Inv.go (a' := updN (updN a 6 x) 7 y) (V' := V) hn hb i1 i2 (FC.of (fun k k1 k2 => by simp (disch := omega) only [sf_ne])) (FMo.of (fun k k1 => by simp (disch := omega) only [sf_ne])) (mo.keep (by simp (disch := omega) only [sf_ne])) ⟨hB.up h' (fun k k1 => by simp (disch := omega) only [sf_ne]) (by simp (disch := omega) only [sf_ne]) (by simp (disch := omega) only [updN_n]) (by simp (disch := omega) only [updN_n]), (mr.up _ _).up _ _, d', v.ab d (fun k k1 k2 => by simp (disch := omega) only [updN_n])⟩
      refine c_isLocked h' d' (fun q => ?_) (fun q => ?_)
      · simp (disch := omega) only [i_lit, l_0, l_1, l_2, l_3, l_5, l_6, l_8, l_9, l_23, l_24, l_48, l_57, l_69, l_100, in_e, ci_e, lt_t, lt_f, le_t, le_f, eq_t, eq_f, nI_add, Nat.add_zero, xl_t, xl_f, xg_t, xg_f, xle_t, xle_f, xge_t, xge_f, xe_f, ci_t, ci_f, cx_t, cx_f, cn_t, cn_f, cp_t, cp_f, vi_t, cl_nI, c_er, m_er, eq_self, true_and, and_true, true_implies, false_implies, implies_true, not_true_eq_false, not_false_eq_true, true_or, or_true, forall_eq]
        refine m_isLocked ((mr.up _ _).up _ _) d' (fun _ => ?_) (fun q2 => absurd q q2)
        simp (disch := omega) only [i_lit, l_0, l_1, l_2, l_3, l_5, l_6, l_8, l_9, l_23, l_24, l_48, l_57, l_69, l_100, in_e, ci_e, lt_t, lt_f, le_t, le_f, eq_t, eq_f, nI_add, Nat.add_zero, xl_t, xl_f, xg_t, xg_f, xle_t, xle_f, xge_t, xge_f, xe_f, ci_t, ci_f, cx_t, cx_f, cn_t, cn_f, cp_t, cp_f, vi_t, cl_nI, c_er, m_er, eq_self, true_and, and_true, true_implies, false_implies, implies_true, not_true_eq_false, not_false_eq_true, true_or, or_true, forall_eq]
        exact fin
      · simp (disch := omega) only [i_lit, l_0, l_1, l_2, l_3, l_5, l_6, l_8, l_9, l_23, l_24, l_48, l_57, l_69, l_100, in_e, ci_e, lt_t, lt_f, le_t, le_f, eq_t, eq_f, nI_add, Nat.add_zero, xl_t, xl_f, xg_t, xg_f, xle_t, xle_f, xge_t, xge_f, xe_f, ci_t, ci_f, cx_t, cx_f, cn_t, cn_f, cp_t, cp_f, vi_t, cl_nI, c_er, m_er, eq_self, true_and, and_true, true_implies, false_implies, implies_true, not_true_eq_false, not_false_eq_true, true_or, or_true, forall_eq]
        refine m_isLocked ((mr.up _ _).up _ _) d' (fun q2 => absurd q2 q) (fun _ => ?_)
        simp (disch := omega) only [i_lit, l_0, l_1, l_2, l_3, l_5, l_6, l_8, l_9, l_23, l_24, l_48, l_57, l_69, l_100, in_e, ci_e, lt_t, lt_f, le_t, le_f, eq_t, eq_f, nI_add, Nat.add_zero, xl_t, xl_f, xg_t, xg_f, xle_t, xle_f, xge_t, xge_f, xe_f, ci_t, ci_f, cx_t, cx_f, cn_t, cn_f, cp_t, cp_f, vi_t, cl_nI, c_er, m_er, eq_self, true_and, and_true, true_implies, false_implies, implies_true, not_true_eq_false, not_false_eq_true, true_or, or_true, forall_eq]
        exact fin
    · simp (disch := omega) only [i_lit, l_0, l_1, l_2, l_3, l_5, l_6, l_8, l_9, l_23, l_24, l_48, l_57, l_69, l_100, in_e, ci_e, lt_t, lt_f, le_t, le_f, eq_t, eq_f, nI_add, Nat.add_zero, xl_t, xl_f, xg_t, xg_f, xle_t, xle_f, xge_t, xge_f, xe_f, ci_t, ci_f, cx_t, cx_f, cn_t, cn_f, cp_t, cp_f, vi_t, cl_nI, c_er, m_er, eq_self, true_and, and_true, true_implies, false_implies, implies_true, not_true_eq_false, not_false_eq_true, true_or, or_true, forall_eq, P_X11_lock, P_X12_lock]
      exact hE 1 (by omega)
    · simp (disch := omega) only [i_lit, l_0, l_1, l_2, l_3, l_5, l_6, l_8, l_9, l_23, l_24, l_48, l_57, l_69, l_100, in_e, ci_e, lt_t, lt_f, le_t, le_f, eq_t, eq_f, nI_add, Nat.add_zero, xl_t, xl_f, xg_t, xg_f, xle_t, xle_f, xge_t, xge_f, xe_f, ci_t, ci_f, cx_t, cx_f, cn_t, cn_f, cp_t, cp_f, vi_t, cl_nI, c_er, m_er, eq_self, true_and, and_true, true_implies, false_implies, implies_true, not_true_eq_false, not_false_eq_true, true_or, or_true, forall_eq, P_X11_lock, P_X12_lock]
      exact hE 1 (by omega)
  · simp (disch := omega) only [i_lit, l_0, l_1, l_2, l_3, l_5, l_6, l_8, l_9, l_23, l_24, l_48, l_57, l_69, l_100, in_e, ci_e, lt_t, lt_f, le_t, le_f, eq_t, eq_f, nI_add, Nat.add_zero, xl_t, xl_f, xg_t, xg_f, xle_t, xle_f, xge_t, xge_f, xe_f, ci_t, ci_f, cx_t, cx_f, cn_t, cn_f, cp_t, cp_f, vi_t, cl_nI, c_er, m_er, eq_self, true_and, and_true, true_implies, false_implies, implies_true, not_true_eq_false, not_false_eq_true, true_or, or_true, forall_eq, P_X11_lock, P_X12_lock]
    exact hE 1 (by omega)
  · simp (disch := omega) only [i_lit, l_0, l_1, l_2, l_3, l_5, l_6, l_8, l_9, l_23, l_24, l_48, l_57, l_69, l_100, in_e, ci_e, lt_t, lt_f, le_t, le_f, eq_t, eq_f, nI_add, Nat.add_zero, xl_t, xl_f, xg_t, xg_f, xle_t, xle_f, xge_t, xge_f, xe_f, ci_t, ci_f, cx_t, cx_f, cn_t, cn_f, cp_t, cp_f, vi_t, cl_nI, c_er, m_er, eq_self, true_and, and_true, true_implies, false_implies, implies_true, not_true_eq_false, not_false_eq_true, true_or, or_true, forall_eq, P_X11_lock, P_X12_lock]
    exact hE 1 (by omega)
theorem lo_43 {n K : Nat} {Mc Mm : Mem} (a1 a2 a3 a4 a5 : Int32) (hn : n < 512) (hI : Inv n K Mc Mm) : LO_43 Inv n K Mc Mm a1 a2 a3 a4 a5 := by
  have hE := hI.er hn
  have hU := hI.up hn
  obtain ⟨a, b, V, W, F, t, im, hb, mo, ⟨hB, mr, d, v⟩, i1, i2⟩ := hI
  have h := hB.1
  have tr := hB.2.1
  have kd := hB.2.2
  have c := hb.cx mo
  have d0 := d.1.1
  have d1 := d.1.2.1
  have d2 := d.1.2.2
  have dh := d.2.1
  have dt := d.2.2.2.2.1
  have f0 : Mc 30 0 = nI (a 0) := h.1.1
  have f1 : Mc 30 1 = nI (a 1) := h.1.2.1
  have f2 : Mc 30 2 = nI (a 2) := h.1.2.2
  have g0 : Mm 1 0 = nI (a 0) := mr 0 (by omega)
  have g1 : Mm 1 1 = nI (a 1) := mr 1 (by omega)
  have g2 : Mm 1 2 = nI (a 2) := mr 2 (by omega)
  unfold LO_43
  rcases rng a1 5 (by omega) with ⟨k, hk, rfl⟩ | xk | xk
  · by_cases k0 : k = 0
    · subst k0
      simp (disch := omega) only [i_lit, l_0, l_1, l_2, l_3, l_5, l_6, l_8, l_9, l_23, l_24, l_48, l_57, l_69, l_100, in_e, ci_e, lt_t, lt_f, le_t, le_f, eq_t, eq_f, nI_add, Nat.add_zero, xl_t, xl_f, xg_t, xg_f, xle_t, xle_f, xge_t, xge_f, xe_f, ci_t, ci_f, cx_t, cx_f, cn_t, cn_f, cp_t, cp_f, vi_t, cl_nI, c_er, m_er, eq_self, true_and, and_true, true_implies, false_implies, implies_true, not_true_eq_false, not_false_eq_true, true_or, or_true, forall_eq, P_X11_told, P_X12_told]
      exact hE 1 (by omega)
    · simp (disch := omega) only [i_lit, l_0, l_1, l_2, l_3, l_5, l_6, l_8, l_9, l_23, l_24, l_48, l_57, l_69, l_100, in_e, ci_e, lt_t, lt_f, le_t, le_f, eq_t, eq_f, nI_add, Nat.add_zero, xl_t, xl_f, xg_t, xg_f, xle_t, xle_f, xge_t, xge_f, xe_f, ci_t, ci_f, cx_t, cx_f, cn_t, cn_f, cp_t, cp_f, vi_t, cl_nI, c_er, m_er, eq_self, true_and, and_true, true_implies, false_implies, implies_true, not_true_eq_false, not_false_eq_true, true_or, or_true, forall_eq, P_X11_told, P_X12_told]
      exact ⟨i2.2.2.2.1 k (by omega), hU⟩
  · simp (disch := omega) only [i_lit, l_0, l_1, l_2, l_3, l_5, l_6, l_8, l_9, l_23, l_24, l_48, l_57, l_69, l_100, in_e, ci_e, lt_t, lt_f, le_t, le_f, eq_t, eq_f, nI_add, Nat.add_zero, xl_t, xl_f, xg_t, xg_f, xle_t, xle_f, xge_t, xge_f, xe_f, ci_t, ci_f, cx_t, cx_f, cn_t, cn_f, cp_t, cp_f, vi_t, cl_nI, c_er, m_er, eq_self, true_and, and_true, true_implies, false_implies, implies_true, not_true_eq_false, not_false_eq_true, true_or, or_true, forall_eq, P_X11_told, P_X12_told]
    exact hE 1 (by omega)
  · simp (disch := omega) only [i_lit, l_0, l_1, l_2, l_3, l_5, l_6, l_8, l_9, l_23, l_24, l_48, l_57, l_69, l_100, in_e, ci_e, lt_t, lt_f, le_t, le_f, eq_t, eq_f, nI_add, Nat.add_zero, xl_t, xl_f, xg_t, xg_f, xle_t, xle_f, xge_t, xge_f, xe_f, ci_t, ci_f, cx_t, cx_f, cn_t, cn_f, cp_t, cp_f, vi_t, cl_nI, c_er, m_er, eq_self, true_and, and_true, true_implies, false_implies, implies_true, not_true_eq_false, not_false_eq_true, true_or, or_true, forall_eq, P_X11_told, P_X12_told]
    exact hE 1 (by omega)
theorem lo_33 {n K : Nat} {Mc Mm : Mem} (a1 a2 a3 a4 a5 : Int32) (hn : n < 512) (hI : Inv n K Mc Mm) : LO_33 Inv n K Mc Mm a1 a2 a3 a4 a5 := by
  have hE := hI.er hn
  have hU := hI.up hn
  obtain ⟨a, b, V, W, F, t, im, hb, mo, ⟨hB, mr, d, v⟩, i1, i2⟩ := hI
  have h := hB.1
  have tr := hB.2.1
  have kd := hB.2.2
  have c := hb.cx mo
  have d0 := d.1.1
  have d1 := d.1.2.1
  have d2 := d.1.2.2
  have dh := d.2.1
  have dt := d.2.2.2.2.1
  have f0 : Mc 30 0 = nI (a 0) := h.1.1
  have f1 : Mc 30 1 = nI (a 1) := h.1.2.1
  have f2 : Mc 30 2 = nI (a 2) := h.1.2.2
  have g0 : Mm 1 0 = nI (a 0) := mr 0 (by omega)
  have g1 : Mm 1 1 = nI (a 1) := mr 1 (by omega)
  have g2 : Mm 1 2 = nI (a 2) := mr 2 (by omega)
  unfold LO_33
  obtain ⟨j1, j2, j3, j4, ⟨T, hT, t1, t2, t3⟩, j6⟩ := i2
  rcases rngl a1 T (by omega) with ⟨k, hk, rfl⟩ | xk | xk
  · simp (disch := omega) only [i_lit, l_0, l_1, l_2, l_3, l_5, l_6, l_8, l_9, l_23, l_24, l_48, l_57, l_69, l_100, in_e, ci_e, lt_t, lt_f, le_t, le_f, eq_t, eq_f, nI_add, Nat.add_zero, xl_t, xl_f, xg_t, xg_f, xle_t, xle_f, xge_t, xge_f, xe_f, ci_t, ci_f, cx_t, cx_f, cn_t, cn_f, cp_t, cp_f, vi_t, cl_nI, c_er, m_er, eq_self, true_and, and_true, true_implies, false_implies, implies_true, not_true_eq_false, not_false_eq_true, true_or, or_true, forall_eq, P_X11_trace, P_X12_trace, t1, t2]
    exact ⟨t3 k (by omega), hU⟩
  · simp (disch := omega) only [i_lit, l_0, l_1, l_2, l_3, l_5, l_6, l_8, l_9, l_23, l_24, l_48, l_57, l_69, l_100, in_e, ci_e, lt_t, lt_f, le_t, le_f, eq_t, eq_f, nI_add, Nat.add_zero, xl_t, xl_f, xg_t, xg_f, xle_t, xle_f, xge_t, xge_f, xe_f, ci_t, ci_f, cx_t, cx_f, cn_t, cn_f, cp_t, cp_f, vi_t, cl_nI, c_er, m_er, eq_self, true_and, and_true, true_implies, false_implies, implies_true, not_true_eq_false, not_false_eq_true, true_or, or_true, forall_eq, P_X11_trace, P_X12_trace, t1, t2]
    exact hE 2 (by omega)
  · simp (disch := omega) only [i_lit, l_0, l_1, l_2, l_3, l_5, l_6, l_8, l_9, l_23, l_24, l_48, l_57, l_69, l_100, in_e, ci_e, lt_t, lt_f, le_t, le_f, eq_t, eq_f, nI_add, Nat.add_zero, xl_t, xl_f, xg_t, xg_f, xle_t, xle_f, xge_t, xge_f, xe_f, ci_t, ci_f, cx_t, cx_f, cn_t, cn_f, cp_t, cp_f, vi_t, cl_nI, c_er, m_er, eq_self, true_and, and_true, true_implies, false_implies, implies_true, not_true_eq_false, not_false_eq_true, true_or, or_true, forall_eq, P_X11_trace, P_X12_trace, t1, t2]
    exact hE 2 (by omega)
