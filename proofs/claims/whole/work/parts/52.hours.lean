/-! ===== turn, hours, loose ===== -/
theorem Inv.ho {n K t im : Nat} {F : Ft} {Mc Mm Mc' Mm' : Mem} {a a' b : Nat → Nat} {V W : Vt} (hn : n < 512) (hb : Ivb n K t im) (hs : Iv0 K t F Mc Mm a V) (i1 : Iv1 K t F Mc Mm b W im) (i2 : Iv2 Mc Mm t im) (ch : Ch 30 Mc Mc') (mo : MOK t F Mc') (h' : HR 30 Mc' a') (d' : DOK a') (o : Hrn a a') (mg : Mg Mm Mm') (mr : MR Mm' a') : Inv (n + 1) K Mc' Mm' :=
  Inv.go hn hb i1 i2 ch.fc mg.fm mo ⟨⟨h', (ch.TR (Or.inl rfl) hs.1.2.1).hr o hs.2.2.1.1.1, fun l hl => by rw [ch (30 + 5) (by omega) (by omega) (by omega) (fun j => by omega)]; exact hs.1.2.2 l hl⟩, mr, d', hs.2.2.2.hr o hs.2.2.1.1.1⟩
theorem lo_19 {n K : Nat} {Mc Mm : Mem} (a1 a2 a3 a4 a5 : Int32) (hn : n < 512) (hI : Inv n K Mc Mm) : LO_19 Inv n K Mc Mm a1 a2 a3 a4 a5 := by
  have hE := hI.er hn
  have hU := hI.up hn
  obtain ⟨a, b, V, W, F, t, im, hb, mo, ⟨hB, mr, d, v⟩, i1, i2⟩ := hI
  have h := hB.1
  have tr := hB.2.1
  have kd := hB.2.2
  have c := hb.cx mo
  have d0 := d.1.1
  have d1 := d.1.2.1
  have d2 := d.1.2.2
  have dh := d.2.1
  have dt := d.2.2.2.2.1
  have f0 : Mc 30 0 = nI (a 0) := h.1.1
  have f1 : Mc 30 1 = nI (a 1) := h.1.2.1
  have f2 : Mc 30 2 = nI (a 2) := h.1.2.2
  have g0 : Mm 1 0 = nI (a 0) := mr 0 (by omega)
  have g1 : Mm 1 1 = nI (a 1) := mr 1 (by omega)
  have g2 : Mm 1 2 = nI (a 2) := mr 2 (by omega)
  unfold LO_19
  rcases rngl a1 (a 2) (by omega) with ⟨l, hl, rfl⟩ | xl | xl
  · simp (disch := omega) only [i_lit, l_0, l_1, l_2, l_3, l_5, l_6, l_8, l_9, l_23, l_24, l_48, l_57, l_69, l_100, in_e, ci_e, lt_t, lt_f, le_t, le_f, eq_t, eq_f, nI_add, Nat.add_zero, xl_t, xl_f, xg_t, xg_f, xle_t, xle_f, xge_t, xge_f, xe_f, ci_t, ci_f, cx_t, cx_f, cn_t, cn_f, cp_t, cp_f, vi_t, cl_nI, c_er, m_er, eq_self, true_and, and_true, true_implies, false_implies, implies_true, not_true_eq_false, not_false_eq_true, true_or, or_true, forall_eq, P_X11_turn, P_X11_isLodger, P_X12_turn, P_X12_isLodger, f2, g2]
    refine c_turnOf (Or.inl rfl) h tr c d hl (fun M1 s1 c1 h1 => m_turnOf mr d v hl (fun M2 s2 h2 => ⟨rfl, ?_⟩))
    exact Inv.ho hn hb ⟨hB, mr, d, v⟩ i1 i2 s1.h c1.1 h1 (tn_ok d).1 (tn_ok d).2.1.hrn s2 h2
  · simp (disch := omega) only [i_lit, l_0, l_1, l_2, l_3, l_5, l_6, l_8, l_9, l_23, l_24, l_48, l_57, l_69, l_100, in_e, ci_e, lt_t, lt_f, le_t, le_f, eq_t, eq_f, nI_add, Nat.add_zero, xl_t, xl_f, xg_t, xg_f, xle_t, xle_f, xge_t, xge_f, xe_f, ci_t, ci_f, cx_t, cx_f, cn_t, cn_f, cp_t, cp_f, vi_t, cl_nI, c_er, m_er, eq_self, true_and, and_true, true_implies, false_implies, implies_true, not_true_eq_false, not_false_eq_true, true_or, or_true, forall_eq, P_X11_turn, P_X11_isLodger, P_X12_turn, P_X12_isLodger, f2, g2]
    exact hE 1 (by omega)
  · simp (disch := omega) only [i_lit, l_0, l_1, l_2, l_3, l_5, l_6, l_8, l_9, l_23, l_24, l_48, l_57, l_69, l_100, in_e, ci_e, lt_t, lt_f, le_t, le_f, eq_t, eq_f, nI_add, Nat.add_zero, xl_t, xl_f, xg_t, xg_f, xle_t, xle_f, xge_t, xge_f, xe_f, ci_t, ci_f, cx_t, cx_f, cn_t, cn_f, cp_t, cp_f, vi_t, cl_nI, c_er, m_er, eq_self, true_and, and_true, true_implies, false_implies, implies_true, not_true_eq_false, not_false_eq_true, true_or, or_true, forall_eq, P_X11_turn, P_X11_isLodger, P_X12_turn, P_X12_isLodger, f2, g2]
    exact hE 1 (by omega)
def itN (fn : (Nat → Nat) → (Nat → Nat)) : Nat → (Nat → Nat) → (Nat → Nat)
  | 0, a => a
  | i + 1, a => fn (itN fn i a)
theorem ahN_ok {V : Vt} {a : Nat → Nat} (d : DOK a) : ∀ i, DOK (itN (ah V) i a) ∧ Hrn a (itN (ah V) i a)
  | 0 => ⟨d, Hrn.rf⟩
  | i + 1 => ⟨ah_ok (ahN_ok d i).1, (ahN_ok d i).2.tr (ah_hrn (ahN_ok d i).1)⟩
theorem lo_20 {n K : Nat} {Mc Mm : Mem} (a1 a2 a3 a4 a5 : Int32) (hn : n < 512) (hI : Inv n K Mc Mm) : LO_20 Inv n K Mc Mm a1 a2 a3 a4 a5 := by
  have hE := hI.er hn
  have hU := hI.up hn
  obtain ⟨a, b, V, W, F, t, im, hb, mo, ⟨hB, mr, d, v⟩, i1, i2⟩ := hI
  have h := hB.1
  have tr := hB.2.1
  have kd := hB.2.2
  have c := hb.cx mo
  have d0 := d.1.1
  have d1 := d.1.2.1
  have d2 := d.1.2.2
  have dh := d.2.1
  have dt := d.2.2.2.2.1
  have f0 : Mc 30 0 = nI (a 0) := h.1.1
  have f1 : Mc 30 1 = nI (a 1) := h.1.2.1
  have f2 : Mc 30 2 = nI (a 2) := h.1.2.2
  have g0 : Mm 1 0 = nI (a 0) := mr 0 (by omega)
  have g1 : Mm 1 1 = nI (a 1) := mr 1 (by omega)
  have g2 : Mm 1 2 = nI (a 2) := mr 2 (by omega)
  unfold LO_20
  rcases rng a1 100 (by omega) with ⟨m, hm, rfl⟩ | xm | xm
  · by_cases m0 : m = 0
    · subst m0
      simp (disch := omega) only [i_lit, l_0, l_1, l_2, l_3, l_5, l_6, l_8, l_9, l_23, l_24, l_48, l_57, l_69, l_100, in_e, ci_e, lt_t, lt_f, le_t, le_f, eq_t, eq_f, nI_add, Nat.add_zero, xl_t, xl_f, xg_t, xg_f, xle_t, xle_f, xge_t, xge_f, xe_f, ci_t, ci_f, cx_t, cx_f, cn_t, cn_f, cp_t, cp_f, vi_t, cl_nI, c_er, m_er, eq_self, true_and, and_true, true_implies, false_implies, implies_true, not_true_eq_false, not_false_eq_true, true_or, or_true, forall_eq, P_X11_hours, P_X12_hours]
      exact hE 1 (by omega)
    · simp (disch := omega) only [i_lit, l_0, l_1, l_2, l_3, l_5, l_6, l_8, l_9, l_23, l_24, l_48, l_57, l_69, l_100, in_e, ci_e, lt_t, lt_f, le_t, le_f, eq_t, eq_f, nI_add, Nat.add_zero, xl_t, xl_f, xg_t, xg_f, xle_t, xle_f, xge_t, xge_f, xe_f, ci_t, ci_f, cx_t, cx_f, cn_t, cn_f, cp_t, cp_f, vi_t, cl_nI, c_er, m_er, eq_self, true_and, and_true, true_implies, false_implies, implies_true, not_true_eq_false, not_false_eq_true, true_or, or_true, forall_eq, P_X11_hours, P_X12_hours]
      have model : ∀ M1 : Mem, Ch 30 Mc M1 → MOK t F M1 → HR 30 M1 (itN (ah V) m a) → B_X12_hours_20 (fun r2 Mm1 => nI (itN (ah V) m a 5) = r2 ∧ Inv (n + 1) K M1 Mm1) (nI m) (nI 0) Mm := fun M1 s1 mo1 h1 => by
        unfold B_X12_hours_20
        intro Y hY
        have key : ∀ f i (M2 : Mem), i + f = m → Mg Mm M2 → MR M2 (itN (ah V) i a) → Y (nI i) M2 := by
          intro f
          induction f with
          | zero =>
            intro i M2 hi s2 h2
            obtain rfl : i = m := by omega
            have e5 := h2 5 (by omega)
            apply hY
            simp (disch := omega) only [i_lit, l_0, l_1, l_2, l_3, l_5, l_6, l_8, l_9, l_23, l_24, l_48, l_57, l_69, l_100, in_e, ci_e, lt_t, lt_f, le_t, le_f, eq_t, eq_f, nI_add, Nat.add_zero, xl_t, xl_f, xg_t, xg_f, xle_t, xle_f, xge_t, xge_f, xe_f, ci_t, ci_f, cx_t, cx_f, cn_t, cn_f, cp_t, cp_f, vi_t, cl_nI, c_er, m_er, eq_self, true_and, and_true, true_implies, false_implies, implies_true, not_true_eq_false, not_false_eq_true, true_or, or_true, forall_eq, e5]
            exact Inv.ho hn hb ⟨hB, mr, d, v⟩ i1 i2 s1 mo1 h1 (ahN_ok d i).1 (ahN_ok d i).2 s2 h2
          | succ f ih =>
            intro i M2 hi s2 h2
            apply hY
            simp (disch := omega) only [i_lit, l_0, l_1, l_2, l_3, l_5, l_6, l_8, l_9, l_23, l_24, l_48, l_57, l_69, l_100, in_e, ci_e, lt_t, lt_f, le_t, le_f, eq_t, eq_f, nI_add, Nat.add_zero, xl_t, xl_f, xg_t, xg_f, xle_t, xle_f, xge_t, xge_f, xe_f, ci_t, ci_f, cx_t, cx_f, cn_t, cn_f, cp_t, cp_f, vi_t, cl_nI, c_er, m_er, eq_self, true_and, and_true, true_implies, false_implies, implies_true, not_true_eq_false, not_false_eq_true, true_or, or_true, forall_eq]
            refine m_anHour h2 (ahN_ok d i).1 (v.hr (ahN_ok d i).2 d0) (fun M3 s3 h3 => ?_)
            exact ih (i + 1) M3 (by omega) (s2.tr s3) h3
        exact key m 0 Mm (by omega) Mg.rf mr
      unfold B_X11_hours_19
      intro X hX
      have key : ∀ f i (M1 : Mem), i + f = m → Ch 30 Mc M1 → CX K t F M1 → HR 30 M1 (itN (ah V) i a) → X (nI i) M1 := by
        intro f
        induction f with
        | zero =>
          intro i M1 hi s1 c1 h1
          obtain rfl : i = m := by omega
          have e5 : M1 30 12 = nI (itN (ah V) i a 5) := h1.2.1.2.2.1
          apply hX
          simp (disch := omega) only [i_lit, l_0, l_1, l_2, l_3, l_5, l_6, l_8, l_9, l_23, l_24, l_48, l_57, l_69, l_100, in_e, ci_e, lt_t, lt_f, le_t, le_f, eq_t, eq_f, nI_add, Nat.add_zero, xl_t, xl_f, xg_t, xg_f, xle_t, xle_f, xge_t, xge_f, xe_f, ci_t, ci_f, cx_t, cx_f, cn_t, cn_f, cp_t, cp_f, vi_t, cl_nI, c_er, m_er, eq_self, true_and, and_true, true_implies, false_implies, implies_true, not_true_eq_false, not_false_eq_true, true_or, or_true, forall_eq, e5]
          exact model M1 s1 c1.1 h1
        | succ f ih =>
          intro i M1 hi s1 c1 h1
          apply hX
          simp (disch := omega) only [i_lit, l_0, l_1, l_2, l_3, l_5, l_6, l_8, l_9, l_23, l_24, l_48, l_57, l_69, l_100, in_e, ci_e, lt_t, lt_f, le_t, le_f, eq_t, eq_f, nI_add, Nat.add_zero, xl_t, xl_f, xg_t, xg_f, xle_t, xle_f, xge_t, xge_f, xe_f, ci_t, ci_f, cx_t, cx_f, cn_t, cn_f, cp_t, cp_f, vi_t, cl_nI, c_er, m_er, eq_self, true_and, and_true, true_implies, false_implies, implies_true, not_true_eq_false, not_false_eq_true, true_or, or_true, forall_eq]
          refine c_passHour (Or.inl rfl) h1 ((s1.TR (Or.inl rfl) tr).hr (ahN_ok d i).2 d0) c1 (ahN_ok d i).1 (fun M3 s3 c3 h3 => ?_)
          exact ih (i + 1) M3 (by omega) (s1.tr s3) c3 h3
      exact key m 0 Mc (by omega) Ch.rf c h
  · simp (disch := omega) only [i_lit, l_0, l_1, l_2, l_3, l_5, l_6, l_8, l_9, l_23, l_24, l_48, l_57, l_69, l_100, in_e, ci_e, lt_t, lt_f, le_t, le_f, eq_t, eq_f, nI_add, Nat.add_zero, xl_t, xl_f, xg_t, xg_f, xle_t, xle_f, xge_t, xge_f, xe_f, ci_t, ci_f, cx_t, cx_f, cn_t, cn_f, cp_t, cp_f, vi_t, cl_nI, c_er, m_er, eq_self, true_and, and_true, true_implies, false_implies, implies_true, not_true_eq_false, not_false_eq_true, true_or, or_true, forall_eq, P_X11_hours, P_X12_hours]
    exact hE 1 (by omega)
  · simp (disch := omega) only [i_lit, l_0, l_1, l_2, l_3, l_5, l_6, l_8, l_9, l_23, l_24, l_48, l_57, l_69, l_100, in_e, ci_e, lt_t, lt_f, le_t, le_f, eq_t, eq_f, nI_add, Nat.add_zero, xl_t, xl_f, xg_t, xg_f, xle_t, xle_f, xge_t, xge_f, xe_f, ci_t, ci_f, cx_t, cx_f, cn_t, cn_f, cp_t, cp_f, vi_t, cl_nI, c_er, m_er, eq_self, true_and, and_true, true_implies, false_implies, implies_true, not_true_eq_false, not_false_eq_true, true_or, or_true, forall_eq, P_X11_hours, P_X12_hours]
    exact hE 1 (by omega)
def zz (z : Nat) : Nat := uN (nI z * nI 1103515245 + nI 12345)
theorem zz_e (z : Nat) : nI z * nI 1103515245 + nI 12345 = nI (zz z) := (nI_u _).symm
theorem zz_lt (z : Nat) : zz z < 4294967296 := uN_lt _
def d8 (z : Nat) : Nat := z / 2 ^ 8 % 8
theorem d8_lt (z : Nat) : d8 z < 8 := Nat.mod_lt _ (by omega)
theorem d8_e {z : Nat} (h : z < 4294967296) : ((nI z).toUInt32 >>> ((nI 8).toUInt32 &&& Int32.toUInt32 (nI 31))).toInt32 = nI (z / 2 ^ 8) := pk_ushrN (by omega) (nI 8) 8 (by decide)
theorem d8_e2 {z : Nat} (h : z < 4294967296) : nI (z / 2 ^ 8) - nI (z / 2 ^ 8) / nI 8 * nI 8 = nI (d8 z) := pk_rem (by omega) (by omega) (by omega)
/-- a pull by two draws -/
def pd (a : Nat → Nat) : Nat → Nat := if d8 (zz (a 8)) < a 0 ∧ d8 (zz (zz (a 8))) < a 0 ∧ canB a (d8 (zz (a 8))) (d8 (zz (zz (a 8)))) = true then plA (updN a 8 (zz (zz (a 8)))) (d8 (zz (a 8))) (d8 (zz (zz (a 8)))) else updN a 8 (zz (zz (a 8)))
theorem canP_8 {a : Nat → Nat} {z x y : Nat} : canP (updN a 8 z) x y ↔ canP a x y := by
  unfold canP
  rw [updN_n (by omega), updN_n (by omega), updN_n (by omega), updN_n (by omega), updN_n (by omega), updN_n (by omega)]
theorem DOK.z {a : Nat → Nat} (d : DOK a) (z : Nat) : DOK (updN a 8 z) := d.hr (fun k hk => updN_n (by omega)) (by
  rw [updN_n (by omega), updN_n (by omega), updN_n (by omega), updN_n (by omega), updN_n (by omega)]
  exact d.2.1)
theorem pd_ok {a : Nat → Nat} (d : DOK a) : DOK (pd a) := by
  unfold pd
  split
  · rename_i q
    exact (d.z _).pl (by rw [updN_n (by omega)]; exact q.1) (by rw [updN_n (by omega)]; exact q.2.1) (canP_8.mpr (canB_i q.2.2))
  · exact d.z _
/-- all but z, and what a passing hour touches -/
def Hz (a a' : Nat → Nat) : Prop := ∀ k, k ≠ 3 → k ≠ 4 → k ≠ 5 → k ≠ 8 → (∀ w, w < a 0 → k ≠ 12 + 4 * w + 1) → a' k = a k
theorem Hz.rf {a : Nat → Nat} : Hz a a := fun _ _ _ _ _ _ => rfl
theorem Hz.tr {a a' a'' : Nat → Nat} (h : Hz a a') (h' : Hz a' a'') : Hz a a'' := fun k k3 k4 k5 k8 hk => by
  have e0 : a' 0 = a 0 := h 0 (by omega) (by omega) (by omega) (by omega) (fun w _ => by omega)
  rw [h' k k3 k4 k5 k8 (fun w hw => hk w (by omega)), h k k3 k4 k5 k8 hk]
theorem Hrn.z {a a' : Nat → Nat} (h : Hrn a a') : Hz a a' := fun k k3 k4 k5 _ hk => h k k3 k4 k5 hk
theorem pd_hz {a : Nat → Nat} : Hz a (pd a) := fun k k3 k4 k5 k8 hk => by
  unfold pd
  split
  · rename_i q
    rw [plA_n (hk _ q.1) (hk _ q.2.1), updN_n k8]
  · rw [updN_n k8]
theorem Hz.hi {a a' : Nat → Nat} (h : Hz a a') (h0 : a 0 ≤ 8) {k : Nat} (hk : 44 ≤ k) : a' k = a k := h k (by omega) (by omega) (by omega) (by omega) (fun w _ => by omega)
theorem c_pbd {K g t : Nat} {F : Ft} {M : Mem} {a : Nat → Nat} {Q : Mem → Prop} (hg : isH g) (h : HR g M a) (c : CX K t F M) (d : DOK a) (hQ : ∀ M' : Mem, Ch g M M' → CX K t F M' → HR g M' (pd a) → Q M') : P_X2_pullByDraws K M g Q := by
  have d0 := d.1.1
  have f8 := h.2.1.2.2.2.2.2
  have f0 := h.1.1
  have hz1 := zz_lt (a 8)
  have hz2 := zz_lt (zz (a 8))
  unfold P_X2_pullByDraws P_X2_draw
  simp (disch := omega) only [i_lit, l_0, l_1, l_2, l_3, l_5, l_6, l_8, l_9, l_23, l_24, l_48, l_57, l_69, l_100, in_e, ci_e, lt_t, lt_f, le_t, le_f, eq_t, eq_f, nI_add, Nat.add_zero, xl_t, xl_f, xg_t, xg_f, xle_t, xle_f, xge_t, xge_f, xe_f, ci_t, ci_f, cx_t, cx_f, cn_t, cn_f, cp_t, cp_f, vi_t, cl_nI, c_er, m_er, eq_self, true_and, and_true, true_implies, false_implies, implies_true, not_true_eq_false, not_false_eq_true, true_or, or_true, forall_eq, f8, zz_e, sf_e, d8_e, d8_e2, sf_j, f0]
  have h' : HR g (sf (sf M g 15 (nI (zz (a 8)))) g 15 (nI (zz (zz (a 8))))) (updN a 8 (zz (zz (a 8)))) := h.row (fun k hk => by rw [sf_ne hk, sf_ne hk]) (fun k hk => updN_n (by omega)) (by simp (disch := omega) only [nI_add, updN_n, updN_e, sf_ne, sf_e, sf_j, and_self]) (by
    simp (disch := omega) only [nI_add, updN_n, updN_e, sf_ne, sf_e, sf_j]
    exact ⟨h.2.1.1, h.2.1.2.1, h.2.1.2.2.1, h.2.1.2.2.2.1, h.2.1.2.2.2.2.1, trivial⟩)
  have hk : ∀ k, k ≠ g → sf (sf M g 15 (nI (zz (a 8)))) g 15 (nI (zz (zz (a 8)))) k = M k := fun k hk => by rw [sf_ne hk, sf_ne hk]
  generalize sf (sf M g 15 (nI (zz (a 8)))) g 15 (nI (zz (zz (a 8)))) = M1 at *
  have no : ¬ (d8 (zz (a 8)) < a 0 ∧ d8 (zz (zz (a 8))) < a 0 ∧ canB a (d8 (zz (a 8))) (d8 (zz (zz (a 8)))) = true) → Q M1 := fun q => by
    unfold pd at hQ
    rw [if_neg q] at hQ
    exact hQ M1 (Ch.of hk) (c.row hg hk) h'
  have b1 := d8_lt (zz (a 8))
  have b2 := d8_lt (zz (zz (a 8)))
  have f0' : M1 g 0 = nI (a 0) := by
    have := h'.1.1
    rw [updN_n (by omega)] at this
    exact this
  by_cases q1 : d8 (zz (a 8)) < a 0
  · by_cases q2 : d8 (zz (zz (a 8))) < a 0
    · simp (disch := omega) only [i_lit, l_0, l_1, l_2, l_3, l_5, l_6, l_8, l_9, l_23, l_24, l_48, l_57, l_69, l_100, in_e, ci_e, lt_t, lt_f, le_t, le_f, eq_t, eq_f, nI_add, Nat.add_zero, xl_t, xl_f, xg_t, xg_f, xle_t, xle_f, xge_t, xge_f, xe_f, ci_t, ci_f, cx_t, cx_f, cn_t, cn_f, cp_t, cp_f, vi_t, cl_nI, c_er, m_er, eq_self, true_and, and_true, true_implies, false_implies, implies_true, not_true_eq_false, not_false_eq_true, true_or, or_true, forall_eq, f0']
      refine c_canPull h' (d.z _) (by rw [updN_n (by omega)]; exact q1) (by rw [updN_n (by omega)]; exact q2) (fun cp => ?_) (fun cp => ?_)
      · simp (disch := omega) only [i_lit, l_0, l_1, l_2, l_3, l_5, l_6, l_8, l_9, l_23, l_24, l_48, l_57, l_69, l_100, in_e, ci_e, lt_t, lt_f, le_t, le_f, eq_t, eq_f, nI_add, Nat.add_zero, xl_t, xl_f, xg_t, xg_f, xle_t, xle_f, xge_t, xge_f, xe_f, ci_t, ci_f, cx_t, cx_f, cn_t, cn_f, cp_t, cp_f, vi_t, cl_nI, c_er, m_er, eq_self, true_and, and_true, true_implies, false_implies, implies_true, not_true_eq_false, not_false_eq_true, true_or, or_true, forall_eq]
        have cp' := canP_8.mp cp
        have q : d8 (zz (a 8)) < a 0 ∧ d8 (zz (zz (a 8))) < a 0 ∧ canB a (d8 (zz (a 8))) (d8 (zz (zz (a 8)))) = true := ⟨q1, q2, canB_t cp'⟩
        unfold pd at hQ
        rw [if_pos q] at hQ
        refine h'.pl (d.z _) (by rw [updN_n (by omega)]; exact q1) (by rw [updN_n (by omega)]; exact q2) cp.1 cp.2.2.2.2.2.2 (fun M2 k2 h2 => ?_)
        exact hQ M2 ((Ch.of hk).tr (fun k _ k3 _ _ => k2 k k3)) ((c.row hg hk).pl hg k2) h2
      · simp (disch := omega) only [i_lit, l_0, l_1, l_2, l_3, l_5, l_6, l_8, l_9, l_23, l_24, l_48, l_57, l_69, l_100, in_e, ci_e, lt_t, lt_f, le_t, le_f, eq_t, eq_f, nI_add, Nat.add_zero, xl_t, xl_f, xg_t, xg_f, xle_t, xle_f, xge_t, xge_f, xe_f, ci_t, ci_f, cx_t, cx_f, cn_t, cn_f, cp_t, cp_f, vi_t, cl_nI, c_er, m_er, eq_self, true_and, and_true, true_implies, false_implies, implies_true, not_true_eq_false, not_false_eq_true, true_or, or_true, forall_eq]
        exact no (fun q => cp (canP_8.mpr (canB_i q.2.2)))
    · simp (disch := omega) only [i_lit, l_0, l_1, l_2, l_3, l_5, l_6, l_8, l_9, l_23, l_24, l_48, l_57, l_69, l_100, in_e, ci_e, lt_t, lt_f, le_t, le_f, eq_t, eq_f, nI_add, Nat.add_zero, xl_t, xl_f, xg_t, xg_f, xle_t, xle_f, xge_t, xge_f, xe_f, ci_t, ci_f, cx_t, cx_f, cn_t, cn_f, cp_t, cp_f, vi_t, cl_nI, c_er, m_er, eq_self, true_and, and_true, true_implies, false_implies, implies_true, not_true_eq_false, not_false_eq_true, true_or, or_true, forall_eq, f0']
      exact no (fun q => q2 q.2.1)
  · simp (disch := omega) only [i_lit, l_0, l_1, l_2, l_3, l_5, l_6, l_8, l_9, l_23, l_24, l_48, l_57, l_69, l_100, in_e, ci_e, lt_t, lt_f, le_t, le_f, eq_t, eq_f, nI_add, Nat.add_zero, xl_t, xl_f, xg_t, xg_f, xle_t, xle_f, xge_t, xge_f, xe_f, ci_t, ci_f, cx_t, cx_f, cn_t, cn_f, cp_t, cp_f, vi_t, cl_nI, c_er, m_er, eq_self, true_and, and_true, true_implies, false_implies, implies_true, not_true_eq_false, not_false_eq_true, true_or, or_true, forall_eq, f0']
    exact no (fun q => q1 q.1)
theorem m_pbd {x1 x2 : Int32} {M : Mem} {a : Nat → Nat} {Q : Int32 → Mem → Prop} {X20 : Int32 → Mem → Prop} (h : MR M a) (d : DOK a) (hQ : ∀ M' : Mem, Mg M M' → MR M' (pd a) → B_X12_loose_76 Q X20 x1 x2 M') :
    P_X12_drawn M (fun v4 M5 => ∀ x3_6 : Int32, x3_6 = v4 - v4 / 8 * 8 → P_X12_drawn M5 (fun v7 M8 => ∀ x4_9 : Int32, x4_9 = v7 - v7 / 8 * 8 → P_X12_isWindow M8 x3_6 (fun v10 => ((v10 = 0 → B_X12_loose_76 Q X20 x1 x2 M8) ∧
      (¬ v10 = 0 → P_X12_isWindow M8 x4_9 (fun v14 => ((v14 = 0 → B_X12_loose_76 Q X20 x1 x2 M8) ∧
        (¬ v14 = 0 → P_X12_canPull M8 x3_6 x4_9 (fun v16 => ((v16 = 0 → B_X12_loose_76 Q X20 x1 x2 M8) ∧
          (¬ v16 = 0 → P_X12_pulls M8 x3_6 x4_9 (fun M18 => B_X12_loose_76 Q X20 x1 x2 M18)))))))))))) := by
  have d0 := d.1.1
  have f8 := h 8 (by omega)
  have f0 := h 0 (by omega)
  have hz1 := zz_lt (a 8)
  have hz2 := zz_lt (zz (a 8))
  have b1 := d8_lt (zz (a 8))
  have b2 := d8_lt (zz (zz (a 8)))
  unfold P_X12_drawn
  simp (disch := omega) only [i_lit, l_0, l_1, l_2, l_3, l_5, l_6, l_8, l_9, l_23, l_24, l_48, l_57, l_69, l_100, in_e, ci_e, lt_t, lt_f, le_t, le_f, eq_t, eq_f, nI_add, Nat.add_zero, xl_t, xl_f, xg_t, xg_f, xle_t, xle_f, xge_t, xge_f, xe_f, ci_t, ci_f, cx_t, cx_f, cn_t, cn_f, cp_t, cp_f, vi_t, cl_nI, c_er, m_er, eq_self, true_and, and_true, true_implies, false_implies, implies_true, not_true_eq_false, not_false_eq_true, true_or, or_true, forall_eq, f8, zz_e, sf_e, d8_e, d8_e2, sf_j, f0, P_X12_isWindow]
  have h' : MR (sf (sf M 1 8 (nI (zz (a 8)))) 1 8 (nI (zz (zz (a 8))))) (updN a 8 (zz (zz (a 8)))) := by
    have := (h.up 8 (zz (a 8))).up 8 (zz (zz (a 8)))
    rw [show updN (updN a 8 (zz (a 8))) 8 (zz (zz (a 8))) = updN a 8 (zz (zz (a 8))) from funext fun k => by unfold updN; split <;> rfl] at this
    exact this
  have hk : ∀ k, k ≠ 1 → sf (sf M 1 8 (nI (zz (a 8)))) 1 8 (nI (zz (zz (a 8)))) k = M k := fun k hk => by rw [sf_ne hk, sf_ne hk]
  generalize sf (sf M 1 8 (nI (zz (a 8)))) 1 8 (nI (zz (zz (a 8)))) = M1 at *
  have no : ¬ (d8 (zz (a 8)) < a 0 ∧ d8 (zz (zz (a 8))) < a 0 ∧ canB a (d8 (zz (a 8))) (d8 (zz (zz (a 8)))) = true) → B_X12_loose_76 Q X20 x1 x2 M1 := fun q => by
    unfold pd at hQ
    rw [if_neg q] at hQ
    exact hQ M1 (Mg.of hk) h'
  have f0' : M1 1 0 = nI (a 0) := by
    have := h' 0 (by omega)
    rw [updN_n (by omega)] at this
    exact this
  by_cases q1 : d8 (zz (a 8)) < a 0
  · by_cases q2 : d8 (zz (zz (a 8))) < a 0
    · simp (disch := omega) only [i_lit, l_0, l_1, l_2, l_3, l_5, l_6, l_8, l_9, l_23, l_24, l_48, l_57, l_69, l_100, in_e, ci_e, lt_t, lt_f, le_t, le_f, eq_t, eq_f, nI_add, Nat.add_zero, xl_t, xl_f, xg_t, xg_f, xle_t, xle_f, xge_t, xge_f, xe_f, ci_t, ci_f, cx_t, cx_f, cn_t, cn_f, cp_t, cp_f, vi_t, cl_nI, c_er, m_er, eq_self, true_and, and_true, true_implies, false_implies, implies_true, not_true_eq_false, not_false_eq_true, true_or, or_true, forall_eq, f0']
      refine m_canPull h' (d.z _) (by rw [updN_n (by omega)]; exact q1) (by rw [updN_n (by omega)]; exact q2) (fun cp => ?_) (fun cp => ?_)
      · simp (disch := omega) only [i_lit, l_0, l_1, l_2, l_3, l_5, l_6, l_8, l_9, l_23, l_24, l_48, l_57, l_69, l_100, in_e, ci_e, lt_t, lt_f, le_t, le_f, eq_t, eq_f, nI_add, Nat.add_zero, xl_t, xl_f, xg_t, xg_f, xle_t, xle_f, xge_t, xge_f, xe_f, ci_t, ci_f, cx_t, cx_f, cn_t, cn_f, cp_t, cp_f, vi_t, cl_nI, c_er, m_er, eq_self, true_and, and_true, true_implies, false_implies, implies_true, not_true_eq_false, not_false_eq_true, true_or, or_true, forall_eq]
        have cp' := canP_8.mp cp
        have q : d8 (zz (a 8)) < a 0 ∧ d8 (zz (zz (a 8))) < a 0 ∧ canB a (d8 (zz (a 8))) (d8 (zz (zz (a 8)))) = true := ⟨q1, q2, canB_t cp'⟩
        unfold pd at hQ
        rw [if_pos q] at hQ
        refine h'.pl (by omega) (by omega) cp.1 cp.2.2.2.2.2.2 (fun M2 k2 h2 => ?_)
        exact hQ M2 ((Mg.of hk).tr (Mg.of k2)) h2
      · simp (disch := omega) only [i_lit, l_0, l_1, l_2, l_3, l_5, l_6, l_8, l_9, l_23, l_24, l_48, l_57, l_69, l_100, in_e, ci_e, lt_t, lt_f, le_t, le_f, eq_t, eq_f, nI_add, Nat.add_zero, xl_t, xl_f, xg_t, xg_f, xle_t, xle_f, xge_t, xge_f, xe_f, ci_t, ci_f, cx_t, cx_f, cn_t, cn_f, cp_t, cp_f, vi_t, cl_nI, c_er, m_er, eq_self, true_and, and_true, true_implies, false_implies, implies_true, not_true_eq_false, not_false_eq_true, true_or, or_true, forall_eq]
        exact no (fun q => cp (canP_8.mpr (canB_i q.2.2)))
    · simp (disch := omega) only [i_lit, l_0, l_1, l_2, l_3, l_5, l_6, l_8, l_9, l_23, l_24, l_48, l_57, l_69, l_100, in_e, ci_e, lt_t, lt_f, le_t, le_f, eq_t, eq_f, nI_add, Nat.add_zero, xl_t, xl_f, xg_t, xg_f, xle_t, xle_f, xge_t, xge_f, xe_f, ci_t, ci_f, cx_t, cx_f, cn_t, cn_f, cp_t, cp_f, vi_t, cl_nI, c_er, m_er, eq_self, true_and, and_true, true_implies, false_implies, implies_true, not_true_eq_false, not_false_eq_true, true_or, or_true, forall_eq, f0']
      exact no (fun q => q2 q.2.1)
  · simp (disch := omega) only [i_lit, l_0, l_1, l_2, l_3, l_5, l_6, l_8, l_9, l_23, l_24, l_48, l_57, l_69, l_100, in_e, ci_e, lt_t, lt_f, le_t, le_f, eq_t, eq_f, nI_add, Nat.add_zero, xl_t, xl_f, xg_t, xg_f, xle_t, xle_f, xge_t, xge_f, xe_f, ci_t, ci_f, cx_t, cx_f, cn_t, cn_f, cp_t, cp_f, vi_t, cl_nI, c_er, m_er, eq_self, true_and, and_true, true_implies, false_implies, implies_true, not_true_eq_false, not_false_eq_true, true_or, or_true, forall_eq, f0']
    exact no (fun q => q1 q.1)
theorem VOK.hz {a a' : Nat → Nat} {V : Vt} (v : VOK a V) (d : DOK a) (h : Hz a a') : VOK a' V := v.ab d (fun k k1 k2 => h.hi d.1.1 (by omega))
theorem TR.hz {g K t : Nat} {F : Ft} {M : Mem} {a a' : Nat → Nat} {V : Vt} (h : TR g K t F M a V) (o : Hz a a') (h0 : a 0 ≤ 8) : TR g K t F M a' V := h.ab (o.hi h0 (by omega)) (o.hi h0 (by omega))
def lo1 (V : Vt) (a : Nat → Nat) : Nat → Nat := ah V (pd a)
theorem itN_s (fn : (Nat → Nat) → (Nat → Nat)) (i : Nat) (a : Nat → Nat) : itN fn (i + 1) a = fn (itN fn i a) := rfl
theorem lo1_e (V : Vt) (a : Nat → Nat) : lo1 V a = ah V (pd a) := rfl
theorem loN_ok {V : Vt} {a : Nat → Nat} (d : DOK a) (i : Nat) : DOK (itN (lo1 V) i a) ∧ Hz a (itN (lo1 V) i a) := by
  induction i with
  | zero => exact ⟨d, Hz.rf⟩
  | succ i ih =>
    rw [itN_s, lo1_e]
    exact ⟨ah_ok (pd_ok ih.1), ih.2.tr (pd_hz.tr (ah_hrn (pd_ok ih.1)).z)⟩
theorem Inv.hz {n K t im : Nat} {F : Ft} {Mc Mm Mc' Mm' : Mem} {a a' b : Nat → Nat} {V W : Vt} (hn : n < 512) (hb : Ivb n K t im) (hs : Iv0 K t F Mc Mm a V) (i1 : Iv1 K t F Mc Mm b W im) (i2 : Iv2 Mc Mm t im) (ch : Ch 30 Mc Mc') (mo : MOK t F Mc') (h' : HR 30 Mc' a') (d' : DOK a') (o : Hz a a') (mg : Mg Mm Mm') (mr : MR Mm' a') : Inv (n + 1) K Mc' Mm' :=
  Inv.go hn hb i1 i2 ch.fc mg.fm mo ⟨⟨h', (ch.TR (Or.inl rfl) hs.1.2.1).hz o hs.2.2.1.1.1, fun l hl => by rw [ch (30 + 5) (by omega) (by omega) (by omega) (fun j => by omega)]; exact hs.1.2.2 l hl⟩, mr, d', hs.2.2.2.hz hs.2.2.1 o⟩
theorem lo_21 {n K : Nat} {Mc Mm : Mem} (a1 a2 a3 a4 a5 : Int32) (hn : n < 512) (hI : Inv n K Mc Mm) : LO_21 Inv n K Mc Mm a1 a2 a3 a4 a5 := by
  have hE := hI.er hn
  have hU := hI.up hn
  obtain ⟨a, b, V, W, F, t, im, hb, mo, ⟨hB, mr, d, v⟩, i1, i2⟩ := hI
  have h := hB.1
  have tr := hB.2.1
  have kd := hB.2.2
  have c := hb.cx mo
  have d0 := d.1.1
  have d1 := d.1.2.1
  have d2 := d.1.2.2
  have dh := d.2.1
  have dt := d.2.2.2.2.1
  have f0 : Mc 30 0 = nI (a 0) := h.1.1
  have f1 : Mc 30 1 = nI (a 1) := h.1.2.1
  have f2 : Mc 30 2 = nI (a 2) := h.1.2.2
  have g0 : Mm 1 0 = nI (a 0) := mr 0 (by omega)
  have g1 : Mm 1 1 = nI (a 1) := mr 1 (by omega)
  have g2 : Mm 1 2 = nI (a 2) := mr 2 (by omega)
  unfold LO_21
  rcases rng a1 100 (by omega) with ⟨m, hm, rfl⟩ | xm | xm
  · by_cases m0 : m = 0
    · subst m0
      simp (disch := omega) only [i_lit, l_0, l_1, l_2, l_3, l_5, l_6, l_8, l_9, l_23, l_24, l_48, l_57, l_69, l_100, in_e, ci_e, lt_t, lt_f, le_t, le_f, eq_t, eq_f, nI_add, Nat.add_zero, xl_t, xl_f, xg_t, xg_f, xle_t, xle_f, xge_t, xge_f, xe_f, ci_t, ci_f, cx_t, cx_f, cn_t, cn_f, cp_t, cp_f, vi_t, cl_nI, c_er, m_er, eq_self, true_and, and_true, true_implies, false_implies, implies_true, not_true_eq_false, not_false_eq_true, true_or, or_true, forall_eq, P_X11_loose, P_X12_loose]
      exact hE 1 (by omega)
    · simp (disch := omega) only [i_lit, l_0, l_1, l_2, l_3, l_5, l_6, l_8, l_9, l_23, l_24, l_48, l_57, l_69, l_100, in_e, ci_e, lt_t, lt_f, le_t, le_f, eq_t, eq_f, nI_add, Nat.add_zero, xl_t, xl_f, xg_t, xg_f, xle_t, xle_f, xge_t, xge_f, xe_f, ci_t, ci_f, cx_t, cx_f, cn_t, cn_f, cp_t, cp_f, vi_t, cl_nI, c_er, m_er, eq_self, true_and, and_true, true_implies, false_implies, implies_true, not_true_eq_false, not_false_eq_true, true_or, or_true, forall_eq, P_X11_loose, P_X12_loose]
      have model : ∀ M1 : Mem, Ch 30 Mc M1 → MOK t F M1 → HR 30 M1 (itN (lo1 V) m a) → B_X12_loose_20 (fun r2 Mm1 => nI (itN (lo1 V) m a 5) = r2 ∧ Inv (n + 1) K M1 Mm1) (nI m) (nI 0) Mm := fun M1 s1 mo1 h1 => by
        unfold B_X12_loose_20
        intro Y hY
        have key : ∀ f i (M2 : Mem), i + f = m → Mg Mm M2 → MR M2 (itN (lo1 V) i a) → Y (nI i) M2 := by
          intro f
          induction f with
          | zero =>
            intro i M2 hi s2 h2
            obtain rfl : i = m := by omega
            have e5 := h2 5 (by omega)
            apply hY
            refine br_t (nI_le (Nat.le_refl _) (by omega)) ?_
            rw [e5]
            exact ⟨rfl, Inv.hz hn hb ⟨hB, mr, d, v⟩ i1 i2 s1 mo1 h1 (loN_ok d i).1 (loN_ok d i).2 s2 h2⟩
          | succ f ih =>
            intro i M2 hi s2 h2
            apply hY
            refine br_f (nI_ge (by omega) (by omega)) ?_
            refine m_pbd h2 (loN_ok d i).1 (fun M3 s3 h3 => ?_)
            unfold B_X12_loose_76
            refine m_anHour h3 (pd_ok (loN_ok d i).1) ((v.hz d (loN_ok d i).2).hz (loN_ok d i).1 pd_hz) (fun M4 s4 h4 => ?_)
            rintro _ rfl
            rw [nI_1]
            exact ih (i + 1) M4 (by omega) ((s2.tr s3).tr s4) (by rw [itN_s, lo1_e]; exact h4)
        exact key m 0 Mm (by omega) Mg.rf mr
      unfold B_X11_loose_19
      intro X hX
      have key : ∀ f i (M1 : Mem), i + f = m → Ch 30 Mc M1 → CX K t F M1 → HR 30 M1 (itN (lo1 V) i a) → X (nI i) M1 := by
        intro f
        induction f with
        | zero =>
          intro i M1 hi s1 c1 h1
          obtain rfl : i = m := by omega
          have e5 : M1 30 12 = nI (itN (lo1 V) i a 5) := h1.2.1.2.2.1
          apply hX
          refine br_t (nI_le (Nat.le_refl _) (by omega)) ?_
          rw [e5]
          exact model M1 s1 c1.1 h1
        | succ f ih =>
          intro i M1 hi s1 c1 h1
          apply hX
          refine br_f (nI_ge (by omega) (by omega)) ?_
          refine c_pbd (Or.inl rfl) h1 c1 (loN_ok d i).1 (fun M2 s2 c2 h2 => ?_)
          refine c_passHour (Or.inl rfl) h2 (((s1.tr s2).TR (Or.inl rfl) tr).hz ((loN_ok d i).2.tr pd_hz) d0) c2 (pd_ok (loN_ok d i).1) (fun M3 s3 c3 h3 => ?_)
          rintro _ rfl
          rw [nI_1]
          exact ih (i + 1) M3 (by omega) ((s1.tr s2).tr s3) c3 (by rw [itN_s, lo1_e]; exact h3)
      exact key m 0 Mc (by omega) Ch.rf c h
  · simp (disch := omega) only [i_lit, l_0, l_1, l_2, l_3, l_5, l_6, l_8, l_9, l_23, l_24, l_48, l_57, l_69, l_100, in_e, ci_e, lt_t, lt_f, le_t, le_f, eq_t, eq_f, nI_add, Nat.add_zero, xl_t, xl_f, xg_t, xg_f, xle_t, xle_f, xge_t, xge_f, xe_f, ci_t, ci_f, cx_t, cx_f, cn_t, cn_f, cp_t, cp_f, vi_t, cl_nI, c_er, m_er, eq_self, true_and, and_true, true_implies, false_implies, implies_true, not_true_eq_false, not_false_eq_true, true_or, or_true, forall_eq, P_X11_loose, P_X12_loose]
    exact hE 1 (by omega)
  · simp (disch := omega) only [i_lit, l_0, l_1, l_2, l_3, l_5, l_6, l_8, l_9, l_23, l_24, l_48, l_57, l_69, l_100, in_e, ci_e, lt_t, lt_f, le_t, le_f, eq_t, eq_f, nI_add, Nat.add_zero, xl_t, xl_f, xg_t, xg_f, xle_t, xle_f, xge_t, xge_f, xe_f, ci_t, ci_f, cx_t, cx_f, cn_t, cn_f, cp_t, cp_f, vi_t, cl_nI, c_er, m_er, eq_self, true_and, and_true, true_implies, false_implies, implies_true, not_true_eq_false, not_false_eq_true, true_or, or_true, forall_eq, P_X11_loose, P_X12_loose]
    exact hE 1 (by omega)
