/-! ===== a cord ===== -/
theorem land_0 {s t n : Nat} (hs : s < 2 ^ n) : s &&& t = 0 ↔ ∀ w, w < n → s / 2 ^ w % 2 = 1 → ¬ t / 2 ^ w % 2 = 1 := by
  constructor
  · intro h w hw e1 e2
    have : (s &&& t).testBit w = false := by rw [h]; exact Nat.zero_testBit w
    rw [Nat.testBit_and, Nat.testBit_eq_decide_div_mod_eq, Nat.testBit_eq_decide_div_mod_eq, decide_eq_true e1, decide_eq_true e2] at this
    exact absurd this (by decide)
  · intro h
    apply Nat.eq_of_testBit_eq
    intro w
    rw [Nat.zero_testBit, Nat.testBit_and]
    by_cases hw : w < n
    · rw [Nat.testBit_eq_decide_div_mod_eq, Nat.testBit_eq_decide_div_mod_eq]
      by_cases e1 : s / 2 ^ w % 2 = 1
      · rw [decide_eq_false (h w hw e1), Bool.and_false]
      · rw [decide_eq_false e1, Bool.false_and]
    · rw [Nat.testBit_lt_two_pow (Nat.lt_of_lt_of_le hs (Nat.pow_le_pow_right (by omega) (by omega))), Bool.false_and]
theorem and_nI {s t : Nat} (hs : s < 4294967296) (ht : t < 4294967296) : nI s &&& nI t = nI (s &&& t) := by
  have h3 : s &&& t < 4294967296 := Nat.lt_of_le_of_lt Nat.and_le_left hs
  apply Int32.toBitVec_inj.mp
  apply BitVec.eq_of_toNat_eq
  rw [Int32.toBitVec_and, BitVec.toNat_and, pk_tn (by omega), pk_tn (by omega), pk_tn (by omega)]
theorem shr_ne {x : Int32} {k : Nat} (hk : k ≤ 8) (h : x.toInt < 0 ∨ ((2 ^ k : Nat) : Int) ≤ x.toInt) : ¬ x >>> (nI k &&& nI 31) = nI 0 := by
  rcases h with h | h
  · intro q
    have e := congrArg Int32.toInt q
    rw [show nI k &&& nI 31 = nI k &&& 31 from rfl, pk_shr x _ k (sh31 k (by omega)), nI_toInt (by omega), Int.shiftRight_eq_div_pow] at e
    rcases (show k = 0 ∨ k = 1 ∨ k = 2 ∨ k = 3 ∨ k = 4 ∨ k = 5 ∨ k = 6 ∨ k = 7 ∨ k = 8 by omega) with rfl | rfl | rfl | rfl | rfl | rfl | rfl | rfl | rfl <;> omega
  · have h00 : (0 : Int) ≤ ((2 ^ k : Nat) : Int) := Int.natCast_nonneg _
    obtain ⟨j, hj, rfl⟩ := nI_of (x := x) (by rw [Int32.lt_iff_toInt_lt]; have : (0 : Int32).toInt = 0 := rfl; omega)
    rw [nI_toInt (by omega)] at h
    rw [show nI k &&& nI 31 = nI k &&& 31 from rfl, pk_shrN (by omega) _ k (sh31 k (by omega)), eq_nI (Nat.lt_of_le_of_lt (Nat.div_le_self _ _) hj) (by omega)]
    have := Nat.div_pos (a := j) (b := 2 ^ k) (by omega) (Nat.two_pow_pos k)
    omega
theorem shr_0 {s k : Nat} (hk : k ≤ 8) (h : s < 2 ^ k) : nI s >>> (nI k &&& nI 31) = nI 0 := by
  have := Nat.pow_le_pow_right (n := 2) (by omega) hk
  rw [show nI k &&& nI 31 = nI k &&& 31 from rfl, pk_shrN (by omega) _ k (sh31 k (by omega)), Nat.div_eq_of_lt h]
theorem bit_e {s w : Nat} (hs : s < 256) (hw : w ≤ 8) : (nI s >>> (nI w &&& nI 31)) &&& nI 1 = nI (s / 2 ^ w % 2) := by
  rw [show nI w &&& nI 31 = nI w &&& 31 from rfl, pk_shrN (by omega) _ w (sh31 w (by omega)), pk_andN (Nat.lt_of_le_of_lt (Nat.div_le_self _ _) (by omega)) (m := nI 1) 1 (by decide), Nat.pow_one]
theorem popP_mono {s : Nat} : ∀ f k, popP s k ≤ popP s (k + f)
  | 0, k => Nat.le_refl _
  | f + 1, k => by
    have := popP_mono f k (s := s)
    show popP s k ≤ popP s (k + f) + s / 2 ^ (k + f) % 2
    omega
/-- the cords with a new one over a set -/
def coG (a : Nat → Nat) (s : Nat) (i : Nat) : Nat := if s / 2 ^ i % 2 = 1 then a 1 + 1 else a (12 + 4 * i + 2)
theorem co_cnt {a : Nat → Nat} {s : Nat} (d : DOK a) : ∀ w, w ≤ a 0 → cntC (fun k => coG a s ((k - 12) / 4)) (a 1 + 1) w = popP s w
  | 0, _ => rfl
  | w + 1, h => by
    show cntC (fun k => coG a s ((k - 12) / 4)) (a 1 + 1) w + (if coG a s ((12 + 4 * w + 2 - 12) / 4) = a 1 + 1 then 1 else 0) = popP s w + s / 2 ^ w % 2
    rw [co_cnt d w (by omega), show (12 + 4 * w + 2 - 12) / 4 = w by omega]
    have b := (d.2.2.1 w (by omega)).2.2.1
    congr 1
    unfold coG
    by_cases q : s / 2 ^ w % 2 = 1
    · rw [if_pos q, if_pos rfl, q]
    · rw [if_neg q, if_neg (by omega)]
      omega
theorem co_ok {a : Nat → Nat} {s : Nat} (d : DOK a) (h4 : a 1 < 4) (hp : pop s ≤ 3) (hf : ∀ i, i < a 0 → s / 2 ^ i % 2 = 1 → a (12 + 4 * i + 2) = 0) : DOK (cdA a (coG a s) (a 0) (a 1 + 1)) := by
  have d0 := d.1.1
  refine d.cd (by omega) (fun i hi => ?_) (fun c c1 c2 => ?_)
  · have b := (d.2.2.1 i hi).2.2.1
    unfold coG
    split <;> omega
  · rw [cntC_cd _ (Nat.le_refl _)]
    by_cases e : c = a 1 + 1
    · subst e
      rw [co_cnt d _ (Nat.le_refl _)]
      have := popP_mono (s := s) (8 - a 0) (a 0)
      rw [show a 0 + (8 - a 0) = 8 by omega] at this
      unfold pop at hp
      omega
    · have := d.2.2.2.2.2.2.2 c c1 (by omega)
      refine Nat.le_trans (cntC_le _ (fun i hi q => ?_)) this
      have q : coG a s ((12 + 4 * i + 2 - 12) / 4) = c := q
      rw [show (12 + 4 * i + 2 - 12) / 4 = i by omega] at q
      unfold coG at q
      split at q
      · omega
      · exact q
set_option maxHeartbeats 4000000 in
theorem lo_1 {n K : Nat} {Mc Mm : Mem} (a1 a2 a3 a4 a5 : Int32) (hn : n < 512) (hI : Inv n K Mc Mm) : LO_1 Inv n K Mc Mm a1 a2 a3 a4 a5 := by
  have hE := hI.er hn
  have hU := hI.up hn
  obtain ⟨a, b, V, W, F, t, im, hb, mo, ⟨hB, mr, d, v⟩, i1, i2⟩ := hI
  have h := hB.1
  have tr := hB.2.1
  have kd := hB.2.2
  have c := hb.cx mo
  have d0 := d.1.1
  have d1 := d.1.2.1
  have d2 := d.1.2.2
  have dh := d.2.1
  have dt := d.2.2.2.2.1
  have f0 : Mc 30 0 = nI (a 0) := h.1.1
  have f1 : Mc 30 1 = nI (a 1) := h.1.2.1
  have f2 : Mc 30 2 = nI (a 2) := h.1.2.2
  have g0 : Mm 1 0 = nI (a 0) := mr 0 (by omega)
  have g1 : Mm 1 1 = nI (a 1) := mr 1 (by omega)
  have g2 : Mm 1 2 = nI (a 2) := mr 2 (by omega)
  unfold LO_1
  have sh1 : nI 1 <<< (nI (a 0) &&& nI 31) = nI (2 ^ a 0) := one_shl (by omega)
  have hp8 := Nat.pow_le_pow_right (n := 2) (by omega) d0
  have hp8 : 2 ^ a 0 ≤ 256 := hp8
  rcases rngl a1 (2 ^ a 0) (by omega) with ⟨s, hs, rfl⟩ | xs | xs
  · have h256 : s < 256 := by omega
    have hpop := pop_le s
    unfold P_X11_cord
    refine c_bits h256 ?_
    have e0 : nI s >>> (nI (a 0) &&& nI 31) = nI 0 := shr_0 d0 hs
    have mm : ∀ {R : Int32 → Mem → Prop}, ((¬ (2 ≤ pop s ∧ pop s ≤ 3) → P_X12_finds Mm 1 R) ∧ ((2 ≤ pop s ∧ pop s ≤ 3) → a 1 < 4 → B_X12_cord_61 R (nI s) 0 Mm) ∧ ((2 ≤ pop s ∧ pop s ≤ 3) → ¬ a 1 < 4 → P_X12_finds Mm 4 R)) → P_X12_cord Mm (nI s) R := fun {R} hR => by
      simp (disch := omega) only [i_lit, l_0, l_1, l_2, l_3, l_5, l_6, l_8, l_9, l_23, l_24, l_48, l_57, l_69, l_100, in_e, ci_e, lt_t, lt_f, le_t, le_f, eq_t, eq_f, nI_add, Nat.add_zero, xl_t, xl_f, xg_t, xg_f, xle_t, xle_f, xge_t, xge_f, xe_f, ci_t, ci_f, cx_t, cx_f, cn_t, cn_f, cp_t, cp_f, vi_t, cl_nI, c_er, m_er, eq_self, true_and, and_true, true_implies, false_implies, implies_true, not_true_eq_false, not_false_eq_true, true_or, or_true, forall_eq, P_X12_cord, g0, sh1]
      refine m_ones (by omega) ?_
      by_cases q : 2 ≤ pop s ∧ pop s ≤ 3
      · have r1 := hR.2.1 q
        have r2 := hR.2.2 q
        by_cases q2 : a 1 < 4
        · simp (disch := omega) only [i_lit, l_0, l_1, l_2, l_3, l_5, l_6, l_8, l_9, l_23, l_24, l_48, l_57, l_69, l_100, in_e, ci_e, lt_t, lt_f, le_t, le_f, eq_t, eq_f, nI_add, Nat.add_zero, xl_t, xl_f, xg_t, xg_f, xle_t, xle_f, xge_t, xge_f, xe_f, ci_t, ci_f, cx_t, cx_f, cn_t, cn_f, cp_t, cp_f, vi_t, cl_nI, c_er, m_er, eq_self, true_and, and_true, true_implies, false_implies, implies_true, not_true_eq_false, not_false_eq_true, true_or, or_true, forall_eq, g1]
          exact r1 q2
        · have r3 := r2 q2
          rw [show (4 : Int32) = nI 4 from rfl, m_er (by omega)] at r3
          simp (disch := omega) only [i_lit, l_0, l_1, l_2, l_3, l_5, l_6, l_8, l_9, l_23, l_24, l_48, l_57, l_69, l_100, in_e, ci_e, lt_t, lt_f, le_t, le_f, eq_t, eq_f, nI_add, Nat.add_zero, xl_t, xl_f, xg_t, xg_f, xle_t, xle_f, xge_t, xge_f, xe_f, ci_t, ci_f, cx_t, cx_f, cn_t, cn_f, cp_t, cp_f, vi_t, cl_nI, c_er, m_er, eq_self, true_and, and_true, true_implies, false_implies, implies_true, not_true_eq_false, not_false_eq_true, true_or, or_true, forall_eq, g1]
          exact r3
      · have r1 := hR.1 q
        rw [show (1 : Int32) = nI 1 from rfl, m_er (by omega)] at r1
        by_cases q2 : pop s < 2
        · simp (disch := omega) only [i_lit, l_0, l_1, l_2, l_3, l_5, l_6, l_8, l_9, l_23, l_24, l_48, l_57, l_69, l_100, in_e, ci_e, lt_t, lt_f, le_t, le_f, eq_t, eq_f, nI_add, Nat.add_zero, xl_t, xl_f, xg_t, xg_f, xle_t, xle_f, xge_t, xge_f, xe_f, ci_t, ci_f, cx_t, cx_f, cn_t, cn_f, cp_t, cp_f, vi_t, cl_nI, c_er, m_er, eq_self, true_and, and_true, true_implies, false_implies, implies_true, not_true_eq_false, not_false_eq_true, true_or, or_true, forall_eq]
          exact r1
        · simp (disch := omega) only [i_lit, l_0, l_1, l_2, l_3, l_5, l_6, l_8, l_9, l_23, l_24, l_48, l_57, l_69, l_100, in_e, ci_e, lt_t, lt_f, le_t, le_f, eq_t, eq_f, nI_add, Nat.add_zero, xl_t, xl_f, xg_t, xg_f, xle_t, xle_f, xge_t, xge_f, xe_f, ci_t, ci_f, cx_t, cx_f, cn_t, cn_f, cp_t, cp_f, vi_t, cl_nI, c_er, m_er, eq_self, true_and, and_true, true_implies, false_implies, implies_true, not_true_eq_false, not_false_eq_true, true_or, or_true, forall_eq]
          exact r1
    by_cases q : 2 ≤ pop s ∧ pop s ≤ 3
    · by_cases q2 : a 1 < 4
      · simp (disch := omega) only [i_lit, l_0, l_1, l_2, l_3, l_5, l_6, l_8, l_9, l_23, l_24, l_48, l_57, l_69, l_100, in_e, ci_e, lt_t, lt_f, le_t, le_f, eq_t, eq_f, nI_add, Nat.add_zero, xl_t, xl_f, xg_t, xg_f, xle_t, xle_f, xge_t, xge_f, xe_f, ci_t, ci_f, cx_t, cx_f, cn_t, cn_f, cp_t, cp_f, vi_t, cl_nI, c_er, m_er, eq_self, true_and, and_true, true_implies, false_implies, implies_true, not_true_eq_false, not_false_eq_true, true_or, or_true, forall_eq, f0, f1, e0]
        refine c_hanging h d ?_
        have ht := setP_lt (fun w => decide (0 < a (12 + 4 * w + 2))) (a 0)
        have hbit := setP_bit (fun w => decide (0 < a (12 + 4 * w + 2))) (a 0)
        rw [and_nI (by omega) (by omega), show (nI (s &&& setP (fun w => decide (0 < a (12 + 4 * w + 2))) (a 0)) = nI 0) = (s &&& setP (fun w => decide (0 < a (12 + 4 * w + 2))) (a 0) = 0) from propext (eq_nI (Nat.lt_of_le_of_lt Nat.and_le_left (by omega)) (by omega)), land_0 hs]
        have hfree : (∀ w, w < a 0 → s / 2 ^ w % 2 = 1 → ¬ setP (fun w => decide (0 < a (12 + 4 * w + 2))) (a 0) / 2 ^ w % 2 = 1) ↔ ∀ w, w < a 0 → s / 2 ^ w % 2 = 1 → a (12 + 4 * w + 2) = 0 := by
          constructor
          · intro z w hw e1
            have z1 := z w hw e1
            rw [hbit w hw] at z1
            by_cases z2 : a (12 + 4 * w + 2) = 0
            · exact z2
            · rw [if_pos (by rw [decide_eq_true_eq]; omega)] at z1
              exact absurd rfl z1
          · intro z w hw e1
            rw [hbit w hw, if_neg (by rw [decide_eq_true_eq, z w hw e1]; omega)]
            omega
        rw [hfree]
        have bits : ∀ w, w < a 0 → (s / 2 ^ w % 2 = 1 ∨ s / 2 ^ w % 2 = 0) := fun w _ => by
          generalize s / 2 ^ w = y
          omega
        refine ⟨fun free => ?_, fun nf => ?_⟩
        · have dd := co_ok d q2 q.2 free
          unfold P_X2_addCord
          rintro _ rfl
          have model : ∀ M1 : Mem, HR 30 M1 (cdA a (coG a s) (a 0) (a 1 + 1)) → (∀ k, k ≠ 30 → k ≠ 33 → M1 k = Mc k) → P_X12_cord Mm (nI s) (fun r2 Mm1 => nI (a 1) = r2 ∧ Inv (n + 1) K M1 Mm1) := fun M1 h1 k1 => by
            refine mm ⟨fun z => absurd q z, fun _ _ => ?_, fun _ z => absurd q2 z⟩
            unfold B_X12_cord_61
            intro Y hY
            have key1 : ∀ f i, i + f = a 0 → Y (nI i) Mm := by
              intro f
              induction f with
              | zero =>
                intro i hi
                obtain rfl : i = a 0 := by omega
                apply hY
                simp (disch := omega) only [i_lit, l_0, l_1, l_2, l_3, l_5, l_6, l_8, l_9, l_23, l_24, l_48, l_57, l_69, l_100, in_e, ci_e, lt_t, lt_f, le_t, le_f, eq_t, eq_f, nI_add, Nat.add_zero, xl_t, xl_f, xg_t, xg_f, xle_t, xle_f, xge_t, xge_f, xe_f, ci_t, ci_f, cx_t, cx_f, cn_t, cn_f, cp_t, cp_f, vi_t, cl_nI, c_er, m_er, eq_self, true_and, and_true, true_implies, false_implies, implies_true, not_true_eq_false, not_false_eq_true, true_or, or_true, forall_eq, g0, g1]
                unfold B_X12_cord_113
                intro Z hZ
                have key2 : ∀ f i (M2 : Mem), i + f = a 0 → MR M2 (cdA a (coG a s) i (a 1 + 1)) → (∀ k, k ≠ 1 → M2 k = Mm k) → Z (nI i) M2 := by
                  intro f
                  induction f with
                  | zero =>
                    intro i M2 hi h2 k2
                    obtain rfl : i = a 0 := by omega
                    have e0 : M2 1 0 = nI (a 0) := by rw [h2 0 (by omega), cdA_n (by omega) (by omega)]
                    have e1 : M2 1 1 = nI (a 1 + 1) := by rw [h2 1 (by omega), cdA_1]
                    apply hZ
                    rw [e0, e1]
                    refine br_t (nI_le (Nat.le_refl _) (by omega)) ⟨(nI_pred _).symm, ?_⟩
                    exact Inv.go (a' := cdA a (coG a s) (a 0) (a 1 + 1)) (V' := V) hn hb i1 i2 (FC.of (fun k q1 q2 => k1 k (by omega) (by omega))) (FMo.of k2) (mo.keep (k1 2 (by omega) (by omega))) ⟨hB.up h1 (fun k q => k1 k (by omega) (by omega)) (k1 _ (by omega) (by omega)) (cdA_n (by omega) (by omega)) (cdA_n (by omega) (by omega)), h2, dd, v.ab d (fun k q1 q2 => cdA_n (by omega) (by omega))⟩
                  | succ f ih =>
                    intro i M2 hi h2 k2
                    have e0 : M2 1 0 = nI (a 0) := by rw [h2 0 (by omega), cdA_n (by omega) (by omega)]
                    have e1 : M2 1 1 = nI (a 1 + 1) := by rw [h2 1 (by omega), cdA_1]
                    have ei : P_X12_its M2 (nI i) (nI 2) = fun R => R (nI (a (12 + 4 * i + 2))) := funext fun R => by rw [m_its h2 (by omega), cdA_C (Nat.le_refl _)]
                    have eb := bit_e h256 (w := i) (by omega)
                    have nx : Z (nI (i + 1)) (sf M2 1 (12 + 4 * i + 2) (nI (coG a s i))) := by
                      refine ih (i + 1) _ (by omega) (fun k hk => ?_) (fun k k3 => by rw [sf_ne k3]; exact k2 k k3)
                      by_cases z : k = 12 + 4 * i + 2
                      · subst z
                        rw [sf_e rfl rfl, cdA_c (by omega)]
                      · rw [sf_j z, h2 k hk]
                        congr 1
                        by_cases z1 : k = 1
                        · rw [z1, cdA_1, cdA_1]
                        · unfold cdA
                          rw [if_neg z1, if_neg z1]
                          by_cases z2 : 12 ≤ k ∧ k < 12 + 4 * i ∧ k % 4 = 2
                          · rw [if_pos z2, if_pos (by omega)]
                          · rw [if_neg z2, if_neg (by omega)]
                    unfold coG at nx
                    apply hZ
                    rcases bits i (by omega) with z | z
                    · rw [if_pos z] at nx
                      rw [z] at eb
                      simp (disch := omega) only [i_lit, l_0, l_1, l_2, l_3, l_5, l_6, l_8, l_9, l_23, l_24, l_48, l_57, l_69, l_100, in_e, ci_e, lt_t, lt_f, le_t, le_f, eq_t, eq_f, nI_add, Nat.add_zero, xl_t, xl_f, xg_t, xg_f, xle_t, xle_f, xge_t, xge_f, xe_f, ci_t, ci_f, cx_t, cx_f, cn_t, cn_f, cp_t, cp_f, vi_t, cl_nI, c_er, m_er, eq_self, true_and, and_true, true_implies, false_implies, implies_true, not_true_eq_false, not_false_eq_true, true_or, or_true, forall_eq, e0, e1, eb, B_X12_cord_150, m_puts]
                      exact nx
                    · rw [if_neg (by omega)] at nx
                      rw [z] at eb
                      simp (disch := omega) only [i_lit, l_0, l_1, l_2, l_3, l_5, l_6, l_8, l_9, l_23, l_24, l_48, l_57, l_69, l_100, in_e, ci_e, lt_t, lt_f, le_t, le_f, eq_t, eq_f, nI_add, Nat.add_zero, xl_t, xl_f, xg_t, xg_f, xle_t, xle_f, xge_t, xge_f, xe_f, ci_t, ci_f, cx_t, cx_f, cn_t, cn_f, cp_t, cp_f, vi_t, cl_nI, c_er, m_er, eq_self, true_and, and_true, true_implies, false_implies, implies_true, not_true_eq_false, not_false_eq_true, true_or, or_true, forall_eq, e0, e1, ei, eb, B_X12_cord_150, m_puts]
                      exact nx
                refine key2 (a 0) 0 _ (by omega) (fun k hk => ?_) (fun k k3 => sf_ne k3)
                unfold cdA
                by_cases z : k = 1
                · rw [z, sf_e rfl rfl, if_pos rfl]
                · rw [sf_j z, mr k hk, if_neg z, if_neg (by omega)]
              | succ f ih =>
                intro i hi
                have n := ih (i + 1) (by omega)
                have eb := bit_e h256 (w := i) (by omega)
                apply hY
                rcases bits i (by omega) with z | z
                · rw [z] at eb
                  have z2 := free i (by omega) z
                  simp (disch := omega) only [i_lit, l_0, l_1, l_2, l_3, l_5, l_6, l_8, l_9, l_23, l_24, l_48, l_57, l_69, l_100, in_e, ci_e, lt_t, lt_f, le_t, le_f, eq_t, eq_f, nI_add, Nat.add_zero, xl_t, xl_f, xg_t, xg_f, xle_t, xle_f, xge_t, xge_f, xe_f, ci_t, ci_f, cx_t, cx_f, cn_t, cn_f, cp_t, cp_f, vi_t, cl_nI, c_er, m_er, eq_self, true_and, and_true, true_implies, false_implies, implies_true, not_true_eq_false, not_false_eq_true, true_or, or_true, forall_eq, g0, eb, m_its mr]
                  exact n
                · rw [z] at eb
                  simp (disch := omega) only [i_lit, l_0, l_1, l_2, l_3, l_5, l_6, l_8, l_9, l_23, l_24, l_48, l_57, l_69, l_100, in_e, ci_e, lt_t, lt_f, le_t, le_f, eq_t, eq_f, nI_add, Nat.add_zero, xl_t, xl_f, xg_t, xg_f, xle_t, xle_f, xge_t, xge_f, xe_f, ci_t, ci_f, cx_t, cx_f, cn_t, cn_f, cp_t, cp_f, vi_t, cl_nI, c_er, m_er, eq_self, true_and, and_true, true_implies, false_implies, implies_true, not_true_eq_false, not_false_eq_true, true_or, or_true, forall_eq, g0, eb]
                  exact n
            exact key1 (a 0) 0 (by omega)
          rw [f1]
          unfold B_X2_addCord_7
          intro X hX
          have key : ∀ f i (M1 : Mem), i + f = a 0 → (∀ k, k ≠ 33 → M1 k = Mc k) → (∀ j, j < i → M1 33 j = cI (coG a s j)) → (∀ j, i ≤ j → M1 33 j = Mc 33 j) → X (nI i) M1 := by
            intro f
            induction f with
            | zero =>
              intro i M1 hi k1 c1 c2
              obtain rfl : i = a 0 := by omega
              have e0 : M1 30 0 = nI (a 0) := by rw [k1 30 (by omega)]; exact f0
              have e1 : M1 30 1 = nI (a 1) := by rw [k1 30 (by omega)]; exact f1
              apply hX
              simp (disch := omega) only [i_lit, l_0, l_1, l_2, l_3, l_5, l_6, l_8, l_9, l_23, l_24, l_48, l_57, l_69, l_100, in_e, ci_e, lt_t, lt_f, le_t, le_f, eq_t, eq_f, nI_add, Nat.add_zero, xl_t, xl_f, xg_t, xg_f, xle_t, xle_f, xge_t, xge_f, xe_f, ci_t, ci_f, cx_t, cx_f, cn_t, cn_f, cp_t, cp_f, vi_t, cl_nI, c_er, m_er, eq_self, true_and, and_true, true_implies, false_implies, implies_true, not_true_eq_false, not_false_eq_true, true_or, or_true, forall_eq, e0, e1]
              exact model _ (h.cd d (fun k q3 q4 => by rw [sf_ne q3]; exact k1 k q4) (sf_e rfl rfl) (fun j hj => by rw [sf_j hj, k1 30 (by omega)]) (fun i hi => by rw [sf_ne (by omega)]; exact c1 i hi)) (fun k q3 q4 => by rw [sf_ne q3]; exact k1 k q4)
            | succ f ih =>
              intro i M1 hi k1 c1 c2
              have e0 : M1 30 0 = nI (a 0) := by rw [k1 30 (by omega)]; exact f0
              have eb := bit_e h256 (w := i) (by omega)
              apply hX
              rcases bits i (by omega) with z | z
              · rw [z] at eb
                simp (disch := omega) only [i_lit, l_0, l_1, l_2, l_3, l_5, l_6, l_8, l_9, l_23, l_24, l_48, l_57, l_69, l_100, in_e, ci_e, lt_t, lt_f, le_t, le_f, eq_t, eq_f, nI_add, Nat.add_zero, xl_t, xl_f, xg_t, xg_f, xle_t, xle_f, xge_t, xge_f, xe_f, ci_t, ci_f, cx_t, cx_f, cn_t, cn_f, cp_t, cp_f, vi_t, cl_nI, c_er, m_er, eq_self, true_and, and_true, true_implies, false_implies, implies_true, not_true_eq_false, not_false_eq_true, true_or, or_true, forall_eq, e0, eb]
                refine ih (i + 1) _ (by omega) (fun k q3 => by rw [sf_ne q3]; exact k1 k q3) (fun j hj => ?_) (fun j hj => by rw [sf_j (by omega)]; exact c2 j (by omega))
                by_cases e : j = i
                · subst e
                  have : coG a s j = a 1 + 1 := if_pos z
                  rw [sf_e rfl rfl, this, cI_s]
                · rw [sf_j e]
                  exact c1 j (by omega)
              · rw [z] at eb
                simp (disch := omega) only [i_lit, l_0, l_1, l_2, l_3, l_5, l_6, l_8, l_9, l_23, l_24, l_48, l_57, l_69, l_100, in_e, ci_e, lt_t, lt_f, le_t, le_f, eq_t, eq_f, nI_add, Nat.add_zero, xl_t, xl_f, xg_t, xg_f, xle_t, xle_f, xge_t, xge_f, xe_f, ci_t, ci_f, cx_t, cx_f, cn_t, cn_f, cp_t, cp_f, vi_t, cl_nI, c_er, m_er, eq_self, true_and, and_true, true_implies, false_implies, implies_true, not_true_eq_false, not_false_eq_true, true_or, or_true, forall_eq, e0, eb]
                refine ih (i + 1) M1 (by omega) k1 (fun j hj => ?_) (fun j hj => c2 j (by omega))
                by_cases e : j = i
                · subst e
                  have : coG a s j = a (12 + 4 * j + 2) := if_neg (by omega)
                  rw [c2 j (Nat.le_refl _), this]
                  exact (h.2.2.1 j (by omega)).2.2.1
                · exact c1 j (by omega)
          exact key (a 0) 0 Mc (by omega) (fun _ _ => rfl) (fun j hj => absurd hj (by omega)) (fun _ _ => rfl)
        · refine mm ⟨fun z => absurd q z, fun _ _ => ?_, fun _ z => absurd q2 z⟩
          unfold B_X12_cord_61
          intro Y hY
          have key1 : ∀ f i, i + f = a 0 → (∀ j, j < i → s / 2 ^ j % 2 = 1 → a (12 + 4 * j + 2) = 0) → Y (nI i) Mm := by
            intro f
            induction f with
            | zero =>
              intro i hi hf
              obtain rfl : i = a 0 := by omega
              exact absurd hf nf
            | succ f ih =>
              intro i hi hf
              have eb := bit_e h256 (w := i) (by omega)
              have n := ih (i + 1) (by omega)
              apply hY
              rcases bits i (by omega) with z | z
              · rw [z] at eb
                by_cases z2 : a (12 + 4 * i + 2) = 0
                · simp (disch := omega) only [i_lit, l_0, l_1, l_2, l_3, l_5, l_6, l_8, l_9, l_23, l_24, l_48, l_57, l_69, l_100, in_e, ci_e, lt_t, lt_f, le_t, le_f, eq_t, eq_f, nI_add, Nat.add_zero, xl_t, xl_f, xg_t, xg_f, xle_t, xle_f, xge_t, xge_f, xe_f, ci_t, ci_f, cx_t, cx_f, cn_t, cn_f, cp_t, cp_f, vi_t, cl_nI, c_er, m_er, eq_self, true_and, and_true, true_implies, false_implies, implies_true, not_true_eq_false, not_false_eq_true, true_or, or_true, forall_eq, g0, eb, m_its mr]
                  refine n (fun j hj e1 => ?_)
                  by_cases e : j = i
                  · rw [e]; exact z2
                  · exact hf j (by omega) e1
                · have b := (d.2.2.1 i (by omega)).2.2.1
                  simp (disch := omega) only [i_lit, l_0, l_1, l_2, l_3, l_5, l_6, l_8, l_9, l_23, l_24, l_48, l_57, l_69, l_100, in_e, ci_e, lt_t, lt_f, le_t, le_f, eq_t, eq_f, nI_add, Nat.add_zero, xl_t, xl_f, xg_t, xg_f, xle_t, xle_f, xge_t, xge_f, xe_f, ci_t, ci_f, cx_t, cx_f, cn_t, cn_f, cp_t, cp_f, vi_t, cl_nI, c_er, m_er, eq_self, true_and, and_true, true_implies, false_implies, implies_true, not_true_eq_false, not_false_eq_true, true_or, or_true, forall_eq, g0, eb, m_its mr]
                  exact hE 3 (by omega)
              · rw [z] at eb
                simp (disch := omega) only [i_lit, l_0, l_1, l_2, l_3, l_5, l_6, l_8, l_9, l_23, l_24, l_48, l_57, l_69, l_100, in_e, ci_e, lt_t, lt_f, le_t, le_f, eq_t, eq_f, nI_add, Nat.add_zero, xl_t, xl_f, xg_t, xg_f, xle_t, xle_f, xge_t, xge_f, xe_f, ci_t, ci_f, cx_t, cx_f, cn_t, cn_f, cp_t, cp_f, vi_t, cl_nI, c_er, m_er, eq_self, true_and, and_true, true_implies, false_implies, implies_true, not_true_eq_false, not_false_eq_true, true_or, or_true, forall_eq, g0, eb]
                refine n (fun j hj e1 => ?_)
                by_cases e : j = i
                · rw [e] at e1; omega
                · exact hf j (by omega) e1
          exact key1 (a 0) 0 (by omega) (fun j hj => absurd hj (by omega))
      · simp (disch := omega) only [i_lit, l_0, l_1, l_2, l_3, l_5, l_6, l_8, l_9, l_23, l_24, l_48, l_57, l_69, l_100, in_e, ci_e, lt_t, lt_f, le_t, le_f, eq_t, eq_f, nI_add, Nat.add_zero, xl_t, xl_f, xg_t, xg_f, xle_t, xle_f, xge_t, xge_f, xe_f, ci_t, ci_f, cx_t, cx_f, cn_t, cn_f, cp_t, cp_f, vi_t, cl_nI, c_er, m_er, eq_self, true_and, and_true, true_implies, false_implies, implies_true, not_true_eq_false, not_false_eq_true, true_or, or_true, forall_eq, f0, f1, e0]
        refine mm ⟨fun z => absurd q z, fun _ z => absurd z q2, fun _ _ => ?_⟩
        rw [show (4 : Int32) = nI 4 from rfl, m_er (by omega)]
        exact ⟨rfl, hE 4 (by omega)⟩
    · have fin : P_X12_cord Mm (nI s) (fun r2 Mm1 => -nI 1000000000 - nI 1 = r2 ∧ Inv (n + 1) K (sf Mc 4 1 (Mc 4 1 + nI 1)) Mm1) := by
        refine mm ⟨fun _ => ?_, fun z => absurd z q, fun z => absurd z q⟩
        rw [show (1 : Int32) = nI 1 from rfl, m_er (by omega)]
        exact ⟨rfl, hE 1 (by omega)⟩
      by_cases q2 : pop s < 2
      · simp (disch := omega) only [i_lit, l_0, l_1, l_2, l_3, l_5, l_6, l_8, l_9, l_23, l_24, l_48, l_57, l_69, l_100, in_e, ci_e, lt_t, lt_f, le_t, le_f, eq_t, eq_f, nI_add, Nat.add_zero, xl_t, xl_f, xg_t, xg_f, xle_t, xle_f, xge_t, xge_f, xe_f, ci_t, ci_f, cx_t, cx_f, cn_t, cn_f, cp_t, cp_f, vi_t, cl_nI, c_er, m_er, eq_self, true_and, and_true, true_implies, false_implies, implies_true, not_true_eq_false, not_false_eq_true, true_or, or_true, forall_eq, f0, e0]
        exact fin
      · simp (disch := omega) only [i_lit, l_0, l_1, l_2, l_3, l_5, l_6, l_8, l_9, l_23, l_24, l_48, l_57, l_69, l_100, in_e, ci_e, lt_t, lt_f, le_t, le_f, eq_t, eq_f, nI_add, Nat.add_zero, xl_t, xl_f, xg_t, xg_f, xle_t, xle_f, xge_t, xge_f, xe_f, ci_t, ci_f, cx_t, cx_f, cn_t, cn_f, cp_t, cp_f, vi_t, cl_nI, c_er, m_er, eq_self, true_and, and_true, true_implies, false_implies, implies_true, not_true_eq_false, not_false_eq_true, true_or, or_true, forall_eq, f0, e0]
        exact fin
  · unfold P_X11_cord
    refine c_bitCount ?_
    have e0 : (a1 >>> (nI (a 0) &&& nI 31) = nI 0) = False := eq_false (shr_ne d0 (Or.inl xs))
    simp (disch := omega) only [i_lit, l_0, l_1, l_2, l_3, l_5, l_6, l_8, l_9, l_23, l_24, l_48, l_57, l_69, l_100, in_e, ci_e, lt_t, lt_f, le_t, le_f, eq_t, eq_f, nI_add, Nat.add_zero, xl_t, xl_f, xg_t, xg_f, xle_t, xle_f, xge_t, xge_f, xe_f, ci_t, ci_f, cx_t, cx_f, cn_t, cn_f, cp_t, cp_f, vi_t, cl_nI, c_er, m_er, eq_self, true_and, and_true, true_implies, false_implies, implies_true, not_true_eq_false, not_false_eq_true, true_or, or_true, forall_eq, f0, e0, P_X12_cord, g0, sh1]
    exact hE 1 (by omega)
  · unfold P_X11_cord
    refine c_bitCount ?_
    have e0 : (a1 >>> (nI (a 0) &&& nI 31) = nI 0) = False := eq_false (shr_ne d0 (Or.inr xs))
    have h00 : (0 : Int) ≤ ((2 ^ a 0 : Nat) : Int) := Int.natCast_nonneg _
    have hx0 : 0 ≤ a1.toInt := Int.le_trans h00 xs
    simp (disch := omega) only [i_lit, l_0, l_1, l_2, l_3, l_5, l_6, l_8, l_9, l_23, l_24, l_48, l_57, l_69, l_100, in_e, ci_e, lt_t, lt_f, le_t, le_f, eq_t, eq_f, nI_add, Nat.add_zero, xl_t, xl_f, xg_t, xg_f, xle_t, xle_f, xge_t, xge_f, xe_f, ci_t, ci_f, cx_t, cx_f, cn_t, cn_f, cp_t, cp_f, vi_t, cl_nI, c_er, m_er, eq_self, true_and, and_true, true_implies, false_implies, implies_true, not_true_eq_false, not_false_eq_true, true_or, or_true, forall_eq, f0, e0, P_X12_cord, g0, sh1]
    exact hE 1 (by omega)
