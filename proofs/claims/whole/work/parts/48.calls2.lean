/-! ===== numbers that wait; what is told ===== -/
theorem HR.wait {g x : Nat} {M : Mem} {a : Nat → Nat} (h : HR g M a) (d : DOK a) (h10 : a 10 < 20) : HR g (sf (sf M (g + 11) (a 10) (nI x)) (g + 10) 1 (nI (a 10 + 1))) (updN (updN a (92 + a 10) x) 10 (a 10 + 1)) := by
  have d0 := d.1.1
  have d2 := d.1.2.2
  unfold HR
  simp (disch := omega) only [nI_add, updN_n, updN_e, sf_ne, sf_e, sf_j]
  refine ⟨h.1, h.2.1, fun w hw => ?_, fun l hl => ?_, ⟨h.2.2.2.2.1.1, fun i hi => ?_⟩, trivial, fun i hi => ?_⟩
  · try simp (disch := omega) only [nI_add, updN_n, updN_e, sf_ne, sf_e, sf_j]
    exact h.2.2.1 w hw
  · try simp (disch := omega) only [nI_add, updN_n, updN_e, sf_ne, sf_e, sf_j]
    exact h.2.2.2.1 l hl
  · try simp (disch := omega) only [nI_add, updN_n, updN_e, sf_ne, sf_e, sf_j]
    exact h.2.2.2.2.1.2 i hi
  · by_cases q : i = a 10
    · subst q
      simp (disch := omega) only [nI_add, updN_n, updN_e, sf_ne, sf_e, sf_j]
    · try simp (disch := omega) only [nI_add, updN_n, updN_e, sf_ne, sf_e, sf_j]
      exact h.2.2.2.2.2.2 i (by omega)
theorem DOK.wait {a : Nat → Nat} (d : DOK a) {x z : Nat} (h10 : a 10 < 20) (hz : z ≤ 20) : DOK (updN (updN a (92 + a 10) x) 10 z) := by
  have d0 := d.1.1
  have d2 := d.1.2.2
  have dt := d.2.2.2.2.1
  unfold DOK
  simp (disch := omega) only [nI_add, updN_n, updN_e, sf_ne, sf_e, sf_j]
  refine ⟨d.1, d.2.1, fun w hw => ?_, fun l hl => ?_, ⟨dt.1, hz, dt.2.2⟩, fun i hi => ?_, fun i hi => ?_, fun c c1 c2 => ?_⟩
  · try simp (disch := omega) only [nI_add, updN_n, updN_e, sf_ne, sf_e, sf_j]
    exact d.2.2.1 w hw
  · try simp (disch := omega) only [nI_add, updN_n, updN_e, sf_ne, sf_e, sf_j]
    exact d.2.2.2.1 l hl
  · try simp (disch := omega) only [nI_add, updN_n, updN_e, sf_ne, sf_e, sf_j]
    exact d.2.2.2.2.2.1 i hi
  · try simp (disch := omega) only [nI_add, updN_n, updN_e, sf_ne, sf_e, sf_j]
    exact d.2.2.2.2.2.2.1 i hi
  · rw [cntC_eq (b := a) _ (fun i hi => by simp (disch := omega) only [updN_n])]
    exact d.2.2.2.2.2.2.2 c c1 c2
theorem lo_40 {n K : Nat} {Mc Mm : Mem} (a1 a2 a3 a4 a5 : Int32) (hn : n < 512) (hI : Inv n K Mc Mm) : LO_40 Inv n K Mc Mm a1 a2 a3 a4 a5 := by
  have hE := hI.er hn
  have hU := hI.up hn
  obtain ⟨a, b, V, W, F, t, im, hb, mo, ⟨hB, mr, d, v⟩, i1, i2⟩ := hI
  have h := hB.1
  have tr := hB.2.1
  have kd := hB.2.2
  have c := hb.cx mo
  have d0 := d.1.1
  have d1 := d.1.2.1
  have d2 := d.1.2.2
  have dh := d.2.1
  have dt := d.2.2.2.2.1
  have f0 : Mc 30 0 = nI (a 0) := h.1.1
  have f1 : Mc 30 1 = nI (a 1) := h.1.2.1
  have f2 : Mc 30 2 = nI (a 2) := h.1.2.2
  have g0 : Mm 1 0 = nI (a 0) := mr 0 (by omega)
  have g1 : Mm 1 1 = nI (a 1) := mr 1 (by omega)
  have g2 : Mm 1 2 = nI (a 2) := mr 2 (by omega)
  unfold LO_40
  have f10 : Mc 40 1 = nI (a 10) := h.2.2.2.2.2.1
  have g10 : Mm 1 10 = nI (a 10) := mr 10 (by omega)
  rw [← nI_u a1]
  generalize uN a1 = x
  by_cases q : a 10 < 20
  · simp (disch := omega) only [i_lit, l_0, l_1, l_2, l_3, l_5, l_6, l_8, l_9, l_23, l_24, l_48, l_57, l_69, l_100, in_e, ci_e, lt_t, lt_f, le_t, le_f, eq_t, eq_f, nI_add, Nat.add_zero, xl_t, xl_f, xg_t, xg_f, xle_t, xle_f, xge_t, xge_f, xe_f, ci_t, ci_f, cx_t, cx_f, cn_t, cn_f, cp_t, cp_f, vi_t, cl_nI, c_er, m_er, eq_self, true_and, and_true, true_implies, false_implies, implies_true, not_true_eq_false, not_false_eq_true, true_or, or_true, forall_eq, P_X11_tell, P_X4_add, r40, ofNat_nI, P_X12_tell, f10, g10, sf_ne, sf_j, sf_e]
    exact Inv.go (a' := updN (updN a (92 + a 10) x) 10 (a 10 + 1)) (V' := V) hn hb i1 i2 (FC.of (fun k k1 k2 => by simp (disch := omega) only [sf_ne])) (FMo.of (fun k k1 => by simp (disch := omega) only [sf_ne])) (mo.keep (by simp (disch := omega) only [sf_ne])) ⟨hB.up (h.wait d q) (fun k k1 => by simp (disch := omega) only [sf_ne]) (by simp (disch := omega) only [sf_ne]) (by simp (disch := omega) only [updN_n]) (by simp (disch := omega) only [updN_n]), (mr.up _ _).up _ _, d.wait q (by omega), v.ab d (fun k k1 k2 => by simp (disch := omega) only [updN_n])⟩
  · simp (disch := omega) only [i_lit, l_0, l_1, l_2, l_3, l_5, l_6, l_8, l_9, l_23, l_24, l_48, l_57, l_69, l_100, in_e, ci_e, lt_t, lt_f, le_t, le_f, eq_t, eq_f, nI_add, Nat.add_zero, xl_t, xl_f, xg_t, xg_f, xle_t, xle_f, xge_t, xge_f, xe_f, ci_t, ci_f, cx_t, cx_f, cn_t, cn_f, cp_t, cp_f, vi_t, cl_nI, c_er, m_er, eq_self, true_and, and_true, true_implies, false_implies, implies_true, not_true_eq_false, not_false_eq_true, true_or, or_true, forall_eq, P_X11_tell, P_X12_tell, f10, g10]
    exact hE 4 (by omega)
def chk (a : Nat → Nat) (V : Vt) : Nat → Nat → Nat
  | 0, _ => 0
  | f + 1, i => if 9 ≤ i ∨ nI (a (92 + i)) ≠ nI (airR a V i) then 1 + i else chk a V f (i + 1)
theorem chk_s (a : Nat → Nat) (V : Vt) (f i : Nat) : chk a V (f + 1) i = if 9 ≤ i ∨ nI (a (92 + i)) ≠ nI (airR a V i) then 1 + i else chk a V f (i + 1) := rfl
theorem lo_41 {n K : Nat} {Mc Mm : Mem} (a1 a2 a3 a4 a5 : Int32) (hn : n < 512) (hI : Inv n K Mc Mm) : LO_41 Inv n K Mc Mm a1 a2 a3 a4 a5 := by
  have hE := hI.er hn
  have hU := hI.up hn
  obtain ⟨a, b, V, W, F, t, im, hb, mo, ⟨hB, mr, d, v⟩, i1, i2⟩ := hI
  have h := hB.1
  have tr := hB.2.1
  have kd := hB.2.2
  have c := hb.cx mo
  have d0 := d.1.1
  have d1 := d.1.2.1
  have d2 := d.1.2.2
  have dh := d.2.1
  have dt := d.2.2.2.2.1
  have f0 : Mc 30 0 = nI (a 0) := h.1.1
  have f1 : Mc 30 1 = nI (a 1) := h.1.2.1
  have f2 : Mc 30 2 = nI (a 2) := h.1.2.2
  have g0 : Mm 1 0 = nI (a 0) := mr 0 (by omega)
  have g1 : Mm 1 1 = nI (a 1) := mr 1 (by omega)
  have g2 : Mm 1 2 = nI (a 2) := mr 2 (by omega)
  unfold LO_41
  have f10 : Mc 40 1 = nI (a 10) := h.2.2.2.2.2.1
  have g10 : Mm 1 10 = nI (a 10) := mr 10 (by omega)
  have h' : HR 30 (sf Mc 40 1 (nI 0)) (updN a 10 0) := by
    unfold HR
    simp (disch := omega) only [nI_add, updN_n, updN_e, sf_ne, sf_e, sf_j]
    refine ⟨h.1, h.2.1, fun w hw => ?_, fun l hl => ?_, ⟨h.2.2.2.2.1.1, fun i hi => ?_⟩, trivial, fun i hi => absurd hi (by omega)⟩
    · try simp (disch := omega) only [nI_add, updN_n, updN_e, sf_ne, sf_e, sf_j]
      exact h.2.2.1 w hw
    · try simp (disch := omega) only [nI_add, updN_n, updN_e, sf_ne, sf_e, sf_j]
      exact h.2.2.2.1 l hl
    · try simp (disch := omega) only [nI_add, updN_n, updN_e, sf_ne, sf_e, sf_j]
      exact h.2.2.2.2.1.2 i hi
  have d' : DOK (updN a 10 0) := by
    unfold DOK
    simp (disch := omega) only [nI_add, updN_n, updN_e, sf_ne, sf_e, sf_j]
    refine ⟨d.1, d.2.1, fun w hw => ?_, fun l hl => ?_, ⟨dt.1, by omega, dt.2.2⟩, fun i hi => ?_, fun i hi => ?_, fun c c1 c2 => ?_⟩
    · try simp (disch := omega) only [nI_add, updN_n, updN_e, sf_ne, sf_e, sf_j]
      exact d.2.2.1 w hw
    · try simp (disch := omega) only [nI_add, updN_n, updN_e, sf_ne, sf_e, sf_j]
      exact d.2.2.2.1 l hl
    · try simp (disch := omega) only [nI_add, updN_n, updN_e, sf_ne, sf_e, sf_j]
      exact d.2.2.2.2.2.1 i hi
    · try simp (disch := omega) only [nI_add, updN_n, updN_e, sf_ne, sf_e, sf_j]
      exact d.2.2.2.2.2.2.1 i hi
    · rw [cntC_eq (b := a) _ (fun i hi => by simp (disch := omega) only [updN_n])]
      exact d.2.2.2.2.2.2.2 c c1 c2
  have hB' : HB K t F 30 (sf Mc 40 1 (nI 0)) (updN a 10 0) V := hB.up h' (fun k k1 => by simp (disch := omega) only [sf_ne]) (by simp (disch := omega) only [sf_ne]) (by simp (disch := omega) only [updN_n]) (by simp (disch := omega) only [updN_n])
  have v' : VOK (updN a 10 0) V := v.ab d (fun k k1 k2 => by simp (disch := omega) only [updN_n])
  have mr' : MR (sf Mm 1 10 (nI 0)) (updN a 10 0) := mr.up _ _
  have mo' : MOK t F (sf Mc 40 1 (nI 0)) := mo.keep (sf_ne (by omega))
  have ew : ∀ i, i < a 10 → sf Mc 40 1 (nI 0) 41 i = nI (a (92 + i)) := fun i hi => by rw [sf_ne (by omega)]; exact h.2.2.2.2.2.2 i hi
  have fc0 : FC K Mc (sf Mc 40 1 (nI 0)) := FC.of (fun k k1 k2 => sf_ne (by omega))
  have fm0 : FMo Mm (sf Mm 1 10 (nI 0)) := FMo.of (fun k k1 => sf_ne k1)
  simp (disch := omega) only [i_lit, l_0, l_1, l_2, l_3, l_5, l_6, l_8, l_9, l_23, l_24, l_48, l_57, l_69, l_100, in_e, ci_e, lt_t, lt_f, le_t, le_f, eq_t, eq_f, nI_add, Nat.add_zero, xl_t, xl_f, xg_t, xg_f, xle_t, xle_f, xge_t, xge_f, xe_f, ci_t, ci_f, cx_t, cx_f, cn_t, cn_f, cp_t, cp_f, vi_t, cl_nI, c_er, m_er, eq_self, true_and, and_true, true_implies, false_implies, implies_true, not_true_eq_false, not_false_eq_true, true_or, or_true, forall_eq, P_X11_check, P_X12_check, f10, g10]
  generalize sf Mc 40 1 (nI 0) = Mc0 at *
  generalize sf Mm 1 10 (nI 0) = Mm0 at *
  generalize ha' : updN a 10 0 = a' at *
  have ea : ∀ i, i < 20 → a' (92 + i) = a (92 + i) := fun i hi => by rw [← ha']; exact updN_n (by omega)
  have model : ∀ M1 : Mem, Cs Mc0 M1 → MOK t F M1 → B_X12_check_18 (fun r2 Mm1 => nI (chk a' V (a 10) 0) = r2 ∧ Inv (n + 1) K M1 Mm1) (nI (a 10)) (nI 0) Mm0 := fun M1 s1 mo1 => by
    unfold B_X12_check_18
    intro Y hY
    have fin : ∀ M2 : Mem, Ms Mm0 M2 → Inv (n + 1) K M1 M2 := fun M2 s2 => Inv.go hn hb i1 i2 (fc0.tr s1.fc) (fm0.tr s2.fm) mo1 ⟨hB'.keep (fun k k1 k2 => s1 k (by omega) (fun j => by omega)) (fun k k1 k2 => s1 k (by omega) k2), mr'.ms s2, d', v'⟩
    have key : ∀ f i (M2 : Mem), i + f = a 10 → Ms Mm0 M2 → chk a' V f i = chk a' V (a 10) 0 → Y (nI i) M2 := by
      intro f
      induction f with
      | zero =>
        intro i M2 hi s2 e
        obtain rfl : i = a 10 := by omega
        apply hY
        simp (disch := omega) only [i_lit, l_0, l_1, l_2, l_3, l_5, l_6, l_8, l_9, l_23, l_24, l_48, l_57, l_69, l_100, in_e, ci_e, lt_t, lt_f, le_t, le_f, eq_t, eq_f, nI_add, Nat.add_zero, xl_t, xl_f, xg_t, xg_f, xle_t, xle_f, xge_t, xge_f, xe_f, ci_t, ci_f, cx_t, cx_f, cn_t, cn_f, cp_t, cp_f, vi_t, cl_nI, c_er, m_er, eq_self, true_and, and_true, true_implies, false_implies, implies_true, not_true_eq_false, not_false_eq_true, true_or, or_true, forall_eq]
        exact ⟨by rw [← e]; rfl, fin M2 s2⟩
      | succ f ih =>
        intro i M2 hi s2 e
        rw [chk_s] at e
        have h2 := mr'.ms s2
        apply hY
        by_cases q : 9 ≤ i
        · rw [if_pos (Or.inl q)] at e
          simp (disch := omega) only [i_lit, l_0, l_1, l_2, l_3, l_5, l_6, l_8, l_9, l_23, l_24, l_48, l_57, l_69, l_100, in_e, ci_e, lt_t, lt_f, le_t, le_f, eq_t, eq_f, nI_add, Nat.add_zero, xl_t, xl_f, xg_t, xg_f, xle_t, xle_f, xge_t, xge_f, xe_f, ci_t, ci_f, cx_t, cx_f, cn_t, cn_f, cp_t, cp_f, vi_t, cl_nI, c_er, m_er, eq_self, true_and, and_true, true_implies, false_implies, implies_true, not_true_eq_false, not_false_eq_true, true_or, or_true, forall_eq]
          first | exact fin M2 s2 | exact ⟨by rw [← e], fin M2 s2⟩
        · simp (disch := omega) only [i_lit, l_0, l_1, l_2, l_3, l_5, l_6, l_8, l_9, l_23, l_24, l_48, l_57, l_69, l_100, in_e, ci_e, lt_t, lt_f, le_t, le_f, eq_t, eq_f, nI_add, Nat.add_zero, xl_t, xl_f, xg_t, xg_f, xle_t, xle_f, xge_t, xge_f, xe_f, ci_t, ci_f, cx_t, cx_f, cn_t, cn_f, cp_t, cp_f, vi_t, cl_nI, c_er, m_er, eq_self, true_and, and_true, true_implies, false_implies, implies_true, not_true_eq_false, not_false_eq_true, true_or, or_true, forall_eq, h2 (92 + i)]
          refine m_airOf h2 d' v' (by omega) (fun M3 s3 => ?_)
          by_cases q2 : nI (a' (92 + i)) = nI (airR a' V i)
          · rw [if_neg (fun z => by rcases z with z | z; exact q z; exact z q2)] at e
            refine ⟨fun _ => ?_, fun z => absurd q2 z⟩
            exact ih (i + 1) M3 (by omega) (s2.tr s3) e
          · rw [if_pos (Or.inr q2)] at e
            exact ⟨fun z => absurd z q2, fun _ => ⟨by rw [← e], fin M3 (s2.tr s3)⟩⟩
    exact key (a 10) 0 Mm0 (by omega) Ms.rf rfl
  unfold B_X11_check_24
  intro X hX
  have key : ∀ f i (M1 : Mem), i + f = a 10 → Cs Mc0 M1 → MOK t F M1 → chk a' V f i = chk a' V (a 10) 0 → X (nI i) M1 := by
    intro f
    induction f with
    | zero =>
      intro i M1 hi s1 mo1 e
      obtain rfl : i = a 10 := by omega
      apply hX
      simp (disch := omega) only [i_lit, l_0, l_1, l_2, l_3, l_5, l_6, l_8, l_9, l_23, l_24, l_48, l_57, l_69, l_100, in_e, ci_e, lt_t, lt_f, le_t, le_f, eq_t, eq_f, nI_add, Nat.add_zero, xl_t, xl_f, xg_t, xg_f, xle_t, xle_f, xge_t, xge_f, xe_f, ci_t, ci_f, cx_t, cx_f, cn_t, cn_f, cp_t, cp_f, vi_t, cl_nI, c_er, m_er, eq_self, true_and, and_true, true_implies, false_implies, implies_true, not_true_eq_false, not_false_eq_true, true_or, or_true, forall_eq]
      have := model M1 s1 mo1
      rw [← e] at this
      exact this
    | succ f ih =>
      intro i M1 hi s1 mo1 e
      rw [chk_s] at e
      apply hX
      by_cases q : 9 ≤ i
      · rw [if_pos (Or.inl q)] at e
        simp (disch := omega) only [i_lit, l_0, l_1, l_2, l_3, l_5, l_6, l_8, l_9, l_23, l_24, l_48, l_57, l_69, l_100, in_e, ci_e, lt_t, lt_f, le_t, le_f, eq_t, eq_f, nI_add, Nat.add_zero, xl_t, xl_f, xg_t, xg_f, xle_t, xle_f, xge_t, xge_f, xe_f, ci_t, ci_f, cx_t, cx_f, cn_t, cn_f, cp_t, cp_f, vi_t, cl_nI, c_er, m_er, eq_self, true_and, and_true, true_implies, false_implies, implies_true, not_true_eq_false, not_false_eq_true, true_or, or_true, forall_eq]
        have := model M1 s1 mo1
        rw [← e] at this
        exact this
      · have e41 : M1 41 i = nI (a' (92 + i)) := by rw [s1 41 (by omega) (fun j => by omega), ew i (by omega), ea i (by omega)]
        simp (disch := omega) only [i_lit, l_0, l_1, l_2, l_3, l_5, l_6, l_8, l_9, l_23, l_24, l_48, l_57, l_69, l_100, in_e, ci_e, lt_t, lt_f, le_t, le_f, eq_t, eq_f, nI_add, Nat.add_zero, xl_t, xl_f, xg_t, xg_f, xle_t, xle_f, xge_t, xge_f, xe_f, ci_t, ci_f, cx_t, cx_f, cn_t, cn_f, cp_t, cp_f, vi_t, cl_nI, c_er, m_er, eq_self, true_and, and_true, true_implies, false_implies, implies_true, not_true_eq_false, not_false_eq_true, true_or, or_true, forall_eq]
        refine c_airOf (Or.inl rfl) (s1.HR (Or.inl rfl) h') (s1.TR (Or.inl rfl) hB'.2.1) (hb.cx mo1) d' (by omega) (fun M3 s3 c3 => ?_)
        rw [e41]
        by_cases q2 : nI (a' (92 + i)) = nI (airR a' V i)
        · rw [if_neg (fun z => by rcases z with z | z; exact q z; exact z q2)] at e
          refine ⟨fun _ => ?_, fun z => absurd q2 z⟩
          exact ih (i + 1) M3 (by omega) (s1.tr s3) c3.1 e
        · rw [if_pos (Or.inr q2)] at e
          refine ⟨fun z => absurd z q2, fun _ => ?_⟩
          have := model M3 (s1.tr s3) c3.1
          rw [← e] at this
          exact this
  exact key (a 10) 0 Mc0 (by omega) Cs.rf mo' rfl
theorem m1b : ∀ i, i < 8 → (((-nI 1) >>> (nI i &&& nI 31)) &&& nI 1) = nI 1 := by decide +kernel
theorem c_openAll {K g : Nat} {M : Mem} {a : Nat → Nat} {Q : Int32 → Prop} (h : HR g M a) (d : DOK a) (hQ : Q (nI (opP a (fun _ => true) (a 0)))) : P_X2_openOf K M g (-nI 1) Q := by
  unfold P_X2_openOf B_X2_openOf_4
  intro X hX
  have d0 := d.1.1
  have f0 := h.1.1
  have key : ∀ f w, w + f = a 0 → X (nI (opP a (fun _ => true) w)) (nI w) := by
    intro f
    induction f with
    | zero =>
      intro w hw
      obtain rfl : w = a 0 := by omega
      apply hX
      simp (disch := omega) only [i_lit, l_0, l_1, l_2, l_3, l_5, l_6, l_8, l_9, l_23, l_24, l_48, l_57, l_69, l_100, in_e, ci_e, lt_t, lt_f, le_t, le_f, eq_t, eq_f, nI_add, Nat.add_zero, xl_t, xl_f, xg_t, xg_f, xle_t, xle_f, xge_t, xge_f, xe_f, ci_t, ci_f, cx_t, cx_f, cn_t, cn_f, cp_t, cp_f, vi_t, cl_nI, c_er, m_er, eq_self, true_and, and_true, true_implies, false_implies, implies_true, not_true_eq_false, not_false_eq_true, true_or, or_true, forall_eq, f0]
      exact hQ
    | succ f ih =>
      intro w hw
      have e := h.2.2.1 w (by omega)
      have n := ih (w + 1) (by omega)
      apply hX
      simp (disch := omega) only [i_lit, l_0, l_1, l_2, l_3, l_5, l_6, l_8, l_9, l_23, l_24, l_48, l_57, l_69, l_100, in_e, ci_e, lt_t, lt_f, le_t, le_f, eq_t, eq_f, nI_add, Nat.add_zero, xl_t, xl_f, xg_t, xg_f, xle_t, xle_f, xge_t, xge_f, xe_f, ci_t, ci_f, cx_t, cx_f, cn_t, cn_f, cp_t, cp_f, vi_t, cl_nI, c_er, m_er, eq_self, true_and, and_true, true_implies, false_implies, implies_true, not_true_eq_false, not_false_eq_true, true_or, or_true, forall_eq, f0, m1b, e.2.1]
      exact n
  exact key (a 0) 0 (by omega)
theorem m_openAll {M : Mem} {a : Nat → Nat} {Q : Int32 → Prop} (h : MR M a) (d : DOK a) (hQ : Q (nI (opP a (fun _ => true) (a 0)))) : P_X12_openOfAll M Q := by
  unfold P_X12_openOfAll B_X12_openOfAll_4
  intro X hX
  have d0 := d.1.1
  have f0 := h 0 (by omega)
  have key : ∀ f w, w + f = a 0 → X (nI (opP a (fun _ => true) w)) (nI w) := by
    intro f
    induction f with
    | zero =>
      intro w hw
      obtain rfl : w = a 0 := by omega
      apply hX
      simp (disch := omega) only [i_lit, l_0, l_1, l_2, l_3, l_5, l_6, l_8, l_9, l_23, l_24, l_48, l_57, l_69, l_100, in_e, ci_e, lt_t, lt_f, le_t, le_f, eq_t, eq_f, nI_add, Nat.add_zero, xl_t, xl_f, xg_t, xg_f, xle_t, xle_f, xge_t, xge_f, xe_f, ci_t, ci_f, cx_t, cx_f, cn_t, cn_f, cp_t, cp_f, vi_t, cl_nI, c_er, m_er, eq_self, true_and, and_true, true_implies, false_implies, implies_true, not_true_eq_false, not_false_eq_true, true_or, or_true, forall_eq, f0]
      exact hQ
    | succ f ih =>
      intro w hw
      have n := ih (w + 1) (by omega)
      apply hX
      simp (disch := omega) only [i_lit, l_0, l_1, l_2, l_3, l_5, l_6, l_8, l_9, l_23, l_24, l_48, l_57, l_69, l_100, in_e, ci_e, lt_t, lt_f, le_t, le_f, eq_t, eq_f, nI_add, Nat.add_zero, xl_t, xl_f, xg_t, xg_f, xle_t, xle_f, xge_t, xge_f, xe_f, ci_t, ci_f, cx_t, cx_f, cn_t, cn_f, cp_t, cp_f, vi_t, cl_nI, c_er, m_er, eq_self, true_and, and_true, true_implies, false_implies, implies_true, not_true_eq_false, not_false_eq_true, true_or, or_true, forall_eq, f0, m_its h]
      exact n
  exact key (a 0) 0 (by omega)
theorem lo_42 {n K : Nat} {Mc Mm : Mem} (a1 a2 a3 a4 a5 : Int32) (hn : n < 512) (hI : Inv n K Mc Mm) : LO_42 Inv n K Mc Mm a1 a2 a3 a4 a5 := by
  have hE := hI.er hn
  have hU := hI.up hn
  obtain ⟨a, b, V, W, F, t, im, hb, mo, ⟨hB, mr, d, v⟩, i1, i2⟩ := hI
  have h := hB.1
  have tr := hB.2.1
  have kd := hB.2.2
  have c := hb.cx mo
  have d0 := d.1.1
  have d1 := d.1.2.1
  have d2 := d.1.2.2
  have dh := d.2.1
  have dt := d.2.2.2.2.1
  have f0 : Mc 30 0 = nI (a 0) := h.1.1
  have f1 : Mc 30 1 = nI (a 1) := h.1.2.1
  have f2 : Mc 30 2 = nI (a 2) := h.1.2.2
  have g0 : Mm 1 0 = nI (a 0) := mr 0 (by omega)
  have g1 : Mm 1 1 = nI (a 1) := mr 1 (by omega)
  have g2 : Mm 1 2 = nI (a 2) := mr 2 (by omega)
  unfold LO_42
  have f3 : Mc 30 10 = nI (a 3) := h.2.1.1
  have f4 : Mc 30 11 = nI (a 4) := h.2.1.2.1
  have f5 : Mc 30 12 = nI (a 5) := h.2.1.2.2.1
  have f8 : Mc 30 15 = nI (a 8) := h.2.1.2.2.2.2.2
  have f9 : Mc 38 1 = nI (a 9) := h.2.2.2.2.1.1
  have f10 : Mc 40 1 = nI (a 10) := h.2.2.2.2.2.1
  have g3 : Mm 1 3 = nI (a 3) := mr 3 (by omega)
  have g4 : Mm 1 4 = nI (a 4) := mr 4 (by omega)
  have g5 : Mm 1 5 = nI (a 5) := mr 5 (by omega)
  have g8 : Mm 1 8 = nI (a 8) := mr 8 (by omega)
  have g9 : Mm 1 9 = nI (a 9) := mr 9 (by omega)
  have g10 : Mm 1 10 = nI (a 10) := mr 10 (by omega)
  obtain ⟨j1, j2, j3, j4, ⟨T, hT, t1, t2, t3⟩, j6⟩ := i2
  rcases rng a1 11 (by omega) with ⟨k, hk, rfl⟩ | xk | xk
  · rcases (show k = 0 ∨ k = 1 ∨ k = 2 ∨ k = 3 ∨ k = 4 ∨ k = 5 ∨ k = 6 ∨ k = 7 ∨ k = 8 ∨ k = 9 ∨ k = 10 ∨ k = 11 by omega) with rfl | rfl | rfl | rfl | rfl | rfl | rfl | rfl | rfl | rfl | rfl | rfl
    · simp (disch := omega) only [i_lit, l_0, l_1, l_2, l_3, l_5, l_6, l_8, l_9, l_23, l_24, l_48, l_57, l_69, l_100, in_e, ci_e, lt_t, lt_f, le_t, le_f, eq_t, eq_f, nI_add, Nat.add_zero, xl_t, xl_f, xg_t, xg_f, xle_t, xle_f, xge_t, xge_f, xe_f, ci_t, ci_f, cx_t, cx_f, cn_t, cn_f, cp_t, cp_f, vi_t, cl_nI, c_er, m_er, eq_self, true_and, and_true, true_implies, false_implies, implies_true, not_true_eq_false, not_false_eq_true, true_or, or_true, forall_eq, P_X11_count, P_X12_count, f0, g0]
      exact hU
    · simp (disch := omega) only [i_lit, l_0, l_1, l_2, l_3, l_5, l_6, l_8, l_9, l_23, l_24, l_48, l_57, l_69, l_100, in_e, ci_e, lt_t, lt_f, le_t, le_f, eq_t, eq_f, nI_add, Nat.add_zero, xl_t, xl_f, xg_t, xg_f, xle_t, xle_f, xge_t, xge_f, xe_f, ci_t, ci_f, cx_t, cx_f, cn_t, cn_f, cp_t, cp_f, vi_t, cl_nI, c_er, m_er, eq_self, true_and, and_true, true_implies, false_implies, implies_true, not_true_eq_false, not_false_eq_true, true_or, or_true, forall_eq, P_X11_count, P_X12_count, f1, g1]
      exact hU
    · simp (disch := omega) only [i_lit, l_0, l_1, l_2, l_3, l_5, l_6, l_8, l_9, l_23, l_24, l_48, l_57, l_69, l_100, in_e, ci_e, lt_t, lt_f, le_t, le_f, eq_t, eq_f, nI_add, Nat.add_zero, xl_t, xl_f, xg_t, xg_f, xle_t, xle_f, xge_t, xge_f, xe_f, ci_t, ci_f, cx_t, cx_f, cn_t, cn_f, cp_t, cp_f, vi_t, cl_nI, c_er, m_er, eq_self, true_and, and_true, true_implies, false_implies, implies_true, not_true_eq_false, not_false_eq_true, true_or, or_true, forall_eq, P_X11_count, P_X12_count, f2, g2]
      exact hU
    · simp (disch := omega) only [i_lit, l_0, l_1, l_2, l_3, l_5, l_6, l_8, l_9, l_23, l_24, l_48, l_57, l_69, l_100, in_e, ci_e, lt_t, lt_f, le_t, le_f, eq_t, eq_f, nI_add, Nat.add_zero, xl_t, xl_f, xg_t, xg_f, xle_t, xle_f, xge_t, xge_f, xe_f, ci_t, ci_f, cx_t, cx_f, cn_t, cn_f, cp_t, cp_f, vi_t, cl_nI, c_er, m_er, eq_self, true_and, and_true, true_implies, false_implies, implies_true, not_true_eq_false, not_false_eq_true, true_or, or_true, forall_eq, P_X11_count, P_X12_count, f3, g3]
      exact hU
    · simp (disch := omega) only [i_lit, l_0, l_1, l_2, l_3, l_5, l_6, l_8, l_9, l_23, l_24, l_48, l_57, l_69, l_100, in_e, ci_e, lt_t, lt_f, le_t, le_f, eq_t, eq_f, nI_add, Nat.add_zero, xl_t, xl_f, xg_t, xg_f, xle_t, xle_f, xge_t, xge_f, xe_f, ci_t, ci_f, cx_t, cx_f, cn_t, cn_f, cp_t, cp_f, vi_t, cl_nI, c_er, m_er, eq_self, true_and, and_true, true_implies, false_implies, implies_true, not_true_eq_false, not_false_eq_true, true_or, or_true, forall_eq, P_X11_count, P_X12_count, f4, g4]
      exact hU
    · simp (disch := omega) only [i_lit, l_0, l_1, l_2, l_3, l_5, l_6, l_8, l_9, l_23, l_24, l_48, l_57, l_69, l_100, in_e, ci_e, lt_t, lt_f, le_t, le_f, eq_t, eq_f, nI_add, Nat.add_zero, xl_t, xl_f, xg_t, xg_f, xle_t, xle_f, xge_t, xge_f, xe_f, ci_t, ci_f, cx_t, cx_f, cn_t, cn_f, cp_t, cp_f, vi_t, cl_nI, c_er, m_er, eq_self, true_and, and_true, true_implies, false_implies, implies_true, not_true_eq_false, not_false_eq_true, true_or, or_true, forall_eq, P_X11_count, P_X12_count, f5, g5]
      exact hU
    · simp (disch := omega) only [i_lit, l_0, l_1, l_2, l_3, l_5, l_6, l_8, l_9, l_23, l_24, l_48, l_57, l_69, l_100, in_e, ci_e, lt_t, lt_f, le_t, le_f, eq_t, eq_f, nI_add, Nat.add_zero, xl_t, xl_f, xg_t, xg_f, xle_t, xle_f, xge_t, xge_f, xe_f, ci_t, ci_f, cx_t, cx_f, cn_t, cn_f, cp_t, cp_f, vi_t, cl_nI, c_er, m_er, eq_self, true_and, and_true, true_implies, false_implies, implies_true, not_true_eq_false, not_false_eq_true, true_or, or_true, forall_eq, P_X11_count, P_X12_count]
      refine c_isLocked h d (fun q => ?_) (fun q => ?_)
      · simp (disch := omega) only [i_lit, l_0, l_1, l_2, l_3, l_5, l_6, l_8, l_9, l_23, l_24, l_48, l_57, l_69, l_100, in_e, ci_e, lt_t, lt_f, le_t, le_f, eq_t, eq_f, nI_add, Nat.add_zero, xl_t, xl_f, xg_t, xg_f, xle_t, xle_f, xge_t, xge_f, xe_f, ci_t, ci_f, cx_t, cx_f, cn_t, cn_f, cp_t, cp_f, vi_t, cl_nI, c_er, m_er, eq_self, true_and, and_true, true_implies, false_implies, implies_true, not_true_eq_false, not_false_eq_true, true_or, or_true, forall_eq]
        refine m_isLocked mr d (fun _ => ?_) (fun q2 => absurd q q2)
        simp (disch := omega) only [i_lit, l_0, l_1, l_2, l_3, l_5, l_6, l_8, l_9, l_23, l_24, l_48, l_57, l_69, l_100, in_e, ci_e, lt_t, lt_f, le_t, le_f, eq_t, eq_f, nI_add, Nat.add_zero, xl_t, xl_f, xg_t, xg_f, xle_t, xle_f, xge_t, xge_f, xe_f, ci_t, ci_f, cx_t, cx_f, cn_t, cn_f, cp_t, cp_f, vi_t, cl_nI, c_er, m_er, eq_self, true_and, and_true, true_implies, false_implies, implies_true, not_true_eq_false, not_false_eq_true, true_or, or_true, forall_eq]
        exact hU
      · simp (disch := omega) only [i_lit, l_0, l_1, l_2, l_3, l_5, l_6, l_8, l_9, l_23, l_24, l_48, l_57, l_69, l_100, in_e, ci_e, lt_t, lt_f, le_t, le_f, eq_t, eq_f, nI_add, Nat.add_zero, xl_t, xl_f, xg_t, xg_f, xle_t, xle_f, xge_t, xge_f, xe_f, ci_t, ci_f, cx_t, cx_f, cn_t, cn_f, cp_t, cp_f, vi_t, cl_nI, c_er, m_er, eq_self, true_and, and_true, true_implies, false_implies, implies_true, not_true_eq_false, not_false_eq_true, true_or, or_true, forall_eq]
        refine m_isLocked mr d (fun q2 => absurd q2 q) (fun _ => ?_)
        simp (disch := omega) only [i_lit, l_0, l_1, l_2, l_3, l_5, l_6, l_8, l_9, l_23, l_24, l_48, l_57, l_69, l_100, in_e, ci_e, lt_t, lt_f, le_t, le_f, eq_t, eq_f, nI_add, Nat.add_zero, xl_t, xl_f, xg_t, xg_f, xle_t, xle_f, xge_t, xge_f, xe_f, ci_t, ci_f, cx_t, cx_f, cn_t, cn_f, cp_t, cp_f, vi_t, cl_nI, c_er, m_er, eq_self, true_and, and_true, true_implies, false_implies, implies_true, not_true_eq_false, not_false_eq_true, true_or, or_true, forall_eq]
        exact hU
    · simp (disch := omega) only [i_lit, l_0, l_1, l_2, l_3, l_5, l_6, l_8, l_9, l_23, l_24, l_48, l_57, l_69, l_100, in_e, ci_e, lt_t, lt_f, le_t, le_f, eq_t, eq_f, nI_add, Nat.add_zero, xl_t, xl_f, xg_t, xg_f, xle_t, xle_f, xge_t, xge_f, xe_f, ci_t, ci_f, cx_t, cx_f, cn_t, cn_f, cp_t, cp_f, vi_t, cl_nI, c_er, m_er, eq_self, true_and, and_true, true_implies, false_implies, implies_true, not_true_eq_false, not_false_eq_true, true_or, or_true, forall_eq, P_X11_count, P_X12_count]
      exact c_openAll h d (m_openAll mr d ⟨rfl, hU⟩)
    · simp (disch := omega) only [i_lit, l_0, l_1, l_2, l_3, l_5, l_6, l_8, l_9, l_23, l_24, l_48, l_57, l_69, l_100, in_e, ci_e, lt_t, lt_f, le_t, le_f, eq_t, eq_f, nI_add, Nat.add_zero, xl_t, xl_f, xg_t, xg_f, xle_t, xle_f, xge_t, xge_f, xe_f, ci_t, ci_f, cx_t, cx_f, cn_t, cn_f, cp_t, cp_f, vi_t, cl_nI, c_er, m_er, eq_self, true_and, and_true, true_implies, false_implies, implies_true, not_true_eq_false, not_false_eq_true, true_or, or_true, forall_eq, P_X11_count, P_X12_count, f9, g9]
      exact hU
    · simp (disch := omega) only [i_lit, l_0, l_1, l_2, l_3, l_5, l_6, l_8, l_9, l_23, l_24, l_48, l_57, l_69, l_100, in_e, ci_e, lt_t, lt_f, le_t, le_f, eq_t, eq_f, nI_add, Nat.add_zero, xl_t, xl_f, xg_t, xg_f, xle_t, xle_f, xge_t, xge_f, xe_f, ci_t, ci_f, cx_t, cx_f, cn_t, cn_f, cp_t, cp_f, vi_t, cl_nI, c_er, m_er, eq_self, true_and, and_true, true_implies, false_implies, implies_true, not_true_eq_false, not_false_eq_true, true_or, or_true, forall_eq, P_X11_count, P_X12_count, f10, g10]
      exact hU
    · simp (disch := omega) only [i_lit, l_0, l_1, l_2, l_3, l_5, l_6, l_8, l_9, l_23, l_24, l_48, l_57, l_69, l_100, in_e, ci_e, lt_t, lt_f, le_t, le_f, eq_t, eq_f, nI_add, Nat.add_zero, xl_t, xl_f, xg_t, xg_f, xle_t, xle_f, xge_t, xge_f, xe_f, ci_t, ci_f, cx_t, cx_f, cn_t, cn_f, cp_t, cp_f, vi_t, cl_nI, c_er, m_er, eq_self, true_and, and_true, true_implies, false_implies, implies_true, not_true_eq_false, not_false_eq_true, true_or, or_true, forall_eq, P_X11_count, P_X12_count, t1, t2]
      exact hU
    · simp (disch := omega) only [i_lit, l_0, l_1, l_2, l_3, l_5, l_6, l_8, l_9, l_23, l_24, l_48, l_57, l_69, l_100, in_e, ci_e, lt_t, lt_f, le_t, le_f, eq_t, eq_f, nI_add, Nat.add_zero, xl_t, xl_f, xg_t, xg_f, xle_t, xle_f, xge_t, xge_f, xe_f, ci_t, ci_f, cx_t, cx_f, cn_t, cn_f, cp_t, cp_f, vi_t, cl_nI, c_er, m_er, eq_self, true_and, and_true, true_implies, false_implies, implies_true, not_true_eq_false, not_false_eq_true, true_or, or_true, forall_eq, P_X11_count, P_X12_count, f8, g8]
      exact hU
  · simp (disch := omega) only [i_lit, l_0, l_1, l_2, l_3, l_5, l_6, l_8, l_9, l_23, l_24, l_48, l_57, l_69, l_100, in_e, ci_e, lt_t, lt_f, le_t, le_f, eq_t, eq_f, nI_add, Nat.add_zero, xl_t, xl_f, xg_t, xg_f, xle_t, xle_f, xge_t, xge_f, xe_f, ci_t, ci_f, cx_t, cx_f, cn_t, cn_f, cp_t, cp_f, vi_t, cl_nI, c_er, m_er, eq_self, true_and, and_true, true_implies, false_implies, implies_true, not_true_eq_false, not_false_eq_true, true_or, or_true, forall_eq, P_X11_count, P_X12_count]
    exact hE 1 (by omega)
  · simp (disch := omega) only [i_lit, l_0, l_1, l_2, l_3, l_5, l_6, l_8, l_9, l_23, l_24, l_48, l_57, l_69, l_100, in_e, ci_e, lt_t, lt_f, le_t, le_f, eq_t, eq_f, nI_add, Nat.add_zero, xl_t, xl_f, xg_t, xg_f, xle_t, xle_f, xge_t, xge_f, xe_f, ci_t, ci_f, cx_t, cx_f, cn_t, cn_f, cp_t, cp_f, vi_t, cl_nI, c_er, m_er, eq_self, true_and, and_true, true_implies, false_implies, implies_true, not_true_eq_false, not_false_eq_true, true_or, or_true, forall_eq, P_X11_count, P_X12_count]
    exact hE 1 (by omega)
