/-! ===== rests, then ===== -/
/-- all but the house aside, the memo, and the texts' stacks -/
def Ca (K : Nat) (M M' : Mem) : Prop := (∀ k, k ≠ 2 → (k < 43 ∨ 55 < k) → (∀ j, k ≠ 71 + 3 * j) → M' k = M k) ∧ (R43 K M → R43 K M')
theorem Ca.rf {K : Nat} {M : Mem} : Ca K M M := ⟨fun _ _ _ _ => rfl, fun h => h⟩
theorem Ca.tr {K : Nat} {M M' M'' : Mem} (h : Ca K M M') (h' : Ca K M' M'') : Ca K M M'' := ⟨fun k h1 h2 h3 => (h'.1 k h1 h2 h3).trans (h.1 k h1 h2 h3), fun q => h'.2 (h.2 q)⟩
theorem kdb {x : Int32} {K : Nat} (h : isKd_X3 x) : x.toNatClampNeg < 69 + K := by
  rcases h with rfl | rfl | rfl | rfl | rfl | rfl | rfl <;> exact Nat.lt_of_lt_of_le (by decide) (Nat.le_add_right 69 K)
theorem trb {g K t u : Nat} {F : Ft} {M M' : Mem} {a : Nat → Nat} {V : Vt} (c : CX K t F M') (h : TR g K t F M a V) (hu : u < 2) : (M (g + 12) u).toNatClampNeg < 69 + K := by
  have := c.2.2.1
  rcases h u hu with ⟨_, e⟩ | ⟨_, r, e, j, i, h1, h2, _⟩
  · rw [e]
    exact Nat.lt_of_lt_of_le (by decide) (Nat.le_add_right 69 K)
  · rw [e, cl_nI (by omega)]
    omega
theorem Ca.cp {K t : Nat} {F : Ft} {M M' M2 : Mem} {a : Nat → Nat} {V : Vt} (c : CX K t F M2) (h : ∀ k, (k < 43 ∨ 43 + 12 < k) → M' k = M k) (kd : KD 43 M') (tr : TR 43 K t F M' a V) : Ca K M M' := ⟨fun k _ h2 _ => h k (by omega), fun _ => ⟨fun j hj => kdb (kd j hj), fun u hu => trb c tr hu⟩⟩
theorem Ca.of {K : Nat} {M M' : Mem} (h : ∀ k, k ≠ 43 + 3 → M' k = M k) : Ca K M M' := ⟨fun k _ h2 _ => h k (by omega), fun r => r.keep (h _ (by omega)) (h _ (by omega))⟩
theorem Ch.ca {K : Nat} {M M' : Mem} (h : Ch 43 M M') : Ca K M M' := ⟨fun k h1 h2 h3 => h k (by omega) (by omega) h1 h3, fun r => r.keep (h _ (by omega) (by omega) (by omega) (fun j => by omega)) (h _ (by omega) (by omega) (by omega) (fun j => by omega))⟩
theorem Cs.ca {K : Nat} {M M' : Mem} (h : Cs M M') : Ca K M M' := ⟨fun k h1 _ h3 => h k h1 h3, fun r => r.keep (h _ (by omega) (fun j => by omega)) (h _ (by omega) (fun j => by omega))⟩
theorem Ca.fc {K : Nat} {M M' : Mem} (h : Ca K M M') : FC K M M' := ⟨fun k h1 h2 => h.1 k (by omega) (by omega) h2, h.2⟩
theorem Ca.hb {K t : Nat} {F : Ft} {M M' : Mem} {a : Nat → Nat} {V : Vt} (s : Ca K M M') (h : HB K t F 30 M a V) : HB K t F 30 M' a V := h.keep (fun k k1 k2 => s.1 k (by omega) (by omega) (fun j => by omega)) (fun k k1 k2 => s.1 k (by omega) (by omega) k2)
theorem Inv.as {n K t im : Nat} {F : Ft} {Mc Mm Mc' Mm' : Mem} {a b : Nat → Nat} {V W : Vt} (hn : n < 512) (hb : Ivb n K t im) (hs : Iv0 K t F Mc Mm a V) (i1 : Iv1 K t F Mc Mm b W im) (i2 : Iv2 Mc Mm t im) (ca : Ca K Mc Mc') (mo : MOK t F Mc') (fm : FMo Mm Mm') (mr : MR Mm' a) : Inv (n + 1) K Mc' Mm' :=
  Inv.go hn hb i1 i2 ca.fc fm mo ⟨ca.hb hs.1, mr, hs.2.2⟩
def rsV (V : Vt) : Nat → Nat → (Nat → Nat) → Nat
  | 0, _, _ => 101
  | f + 1, i, b => if (ta V b).1 = 0 then i else rsV V f (i + 1) (ta V b).2
theorem rsV_s (V : Vt) (f i : Nat) (b : Nat → Nat) : rsV V (f + 1) i b = if (ta V b).1 = 0 then i else rsV V f (i + 1) (ta V b).2 := rfl
theorem Mg.fk {M M' M'' : Mem} (k3 : ∀ k, k ≠ 3 → M' k = M k) (g : Mg M' M'') : FMo M M'' := (show FMo M M' from ⟨fun k h => k3 k (by omega), by rw [k3 0 (by omega)], by rw [k3 0 (by omega)]⟩).tr g.fm
theorem lo_24 {n K : Nat} {Mc Mm : Mem} (a1 a2 a3 a4 a5 : Int32) (hn : n < 512) (hI : Inv n K Mc Mm) : LO_24 Inv n K Mc Mm a1 a2 a3 a4 a5 := by
  have hE := hI.er hn
  have hU := hI.up hn
  obtain ⟨a, b, V, W, F, t, im, hb, mo, ⟨hB, mr, d, v⟩, i1, i2⟩ := hI
  have h := hB.1
  have tr := hB.2.1
  have kd := hB.2.2
  have c := hb.cx mo
  have d0 := d.1.1
  have d1 := d.1.2.1
  have d2 := d.1.2.2
  have dh := d.2.1
  have dt := d.2.2.2.2.1
  have f0 : Mc 30 0 = nI (a 0) := h.1.1
  have f1 : Mc 30 1 = nI (a 1) := h.1.2.1
  have f2 : Mc 30 2 = nI (a 2) := h.1.2.2
  have g0 : Mm 1 0 = nI (a 0) := mr 0 (by omega)
  have g1 : Mm 1 1 = nI (a 1) := mr 1 (by omega)
  have g2 : Mm 1 2 = nI (a 2) := mr 2 (by omega)
  unfold LO_24
  unfold P_X11_rests
  refine c_copyFrom (Or.inr (Or.inl rfl)) (Or.inl rfl) (by omega) h kd tr c d (fun M1 k1 h1 kd1 tr1 => ?_)
  have model : ∀ M2 : Mem, Ca K Mc M2 → MOK t F M2 → ∀ {Q : Int32 → Mem → Prop}, (∀ M3, FMo Mm M3 → MR M3 a → (rsV V 101 0 a ≤ 100 → Q (nI (rsV V 101 0 a)) M3) ∧ (100 < rsV V 101 0 a → P_X12_finds M3 2 Q)) → P_X12_rests Mm Q := fun M2 s2 mo2 Q hQ => by
    unfold P_X12_rests
    refine m_keepAside mr (fun M3 k3 h3 => ?_)
    have mr3 : MR M3 a := fun k hk => by rw [k3 1 (by omega)]; exact mr k hk
    have back : ∀ (i : Nat) (b' : Nat → Nat) (M4 : Mem), i ≤ 101 → Mg M3 M4 → MR M4 b' → Opn a b' → rsV V 101 0 a = i → B_X12_rests_25 Q (nI i) M4 := fun i b' M4 hi g4 h4 o4 e => by
      unfold B_X12_rests_25
      refine m_putBack h4 (fun j hj => by rw [g4.1 3 (by omega) (by omega) (by omega)]; exact h3 j hj) (fun k hk => o4.hi d0 (by omega)) (fun M5 k5 h5 => ?_)
      have q := hQ M5 ((g4.fk k3).tr (FMo.of k5)) h5
      rw [e] at q
      by_cases z : i ≤ 100
      · simp (disch := omega) only [i_lit, l_0, l_1, l_2, l_3, l_5, l_6, l_8, l_9, l_23, l_24, l_48, l_57, l_69, l_100, in_e, ci_e, lt_t, lt_f, le_t, le_f, eq_t, eq_f, nI_add, Nat.add_zero, xl_t, xl_f, xg_t, xg_f, xle_t, xle_f, xge_t, xge_f, xe_f, ci_t, ci_f, cx_t, cx_f, cn_t, cn_f, cp_t, cp_f, vi_t, cl_nI, c_er, m_er, eq_self, true_and, and_true, true_implies, false_implies, implies_true, not_true_eq_false, not_false_eq_true, true_or, or_true, forall_eq]
        exact q.1 z
      · have q2 := q.2 (by omega)
        simp (disch := omega) only [i_lit, l_0, l_1, l_2, l_3, l_5, l_6, l_8, l_9, l_23, l_24, l_48, l_57, l_69, l_100, in_e, ci_e, lt_t, lt_f, le_t, le_f, eq_t, eq_f, nI_add, Nat.add_zero, xl_t, xl_f, xg_t, xg_f, xle_t, xle_f, xge_t, xge_f, xe_f, ci_t, ci_f, cx_t, cx_f, cn_t, cn_f, cp_t, cp_f, vi_t, cl_nI, c_er, m_er, eq_self, true_and, and_true, true_implies, false_implies, implies_true, not_true_eq_false, not_false_eq_true, true_or, or_true, forall_eq]
        rw [show (2 : Int32) = nI 2 from rfl, m_er (by omega)] at q2
        exact q2
    unfold B_X12_rests_6
    intro Y hY
    have key : ∀ f i (b' : Nat → Nat) (M4 : Mem), i + f = 101 → Mg M3 M4 → MR M4 b' → DOK b' → Opn a b' → rsV V 101 0 a = rsV V f i b' → Y (nI i) M4 := by
      intro f
      induction f with
      | zero =>
        intro i b' M4 hi g4 h4 d4 o4 e
        obtain rfl : i = 101 := by omega
        apply hY
        refine br_t (nI_lt (a := 100) (by omega) (by omega)) (back 101 b' M4 (by omega) g4 h4 o4 e)
      | succ f ih =>
        intro i b' M4 hi g4 h4 d4 o4 e
        rw [rsV_s V f i b'] at e
        apply hY
        refine br_f (nI_nlt (b := i) (a := 100) (by omega) (by omega)) (m_turnOfAll h4 d4 (v.op o4 d0) (fun M5 g5 h5 => ?_))
        obtain ⟨t1, t2, t3⟩ := ta_ok (V := V) d4
        have b2 : b' 2 = a 2 := o4.lo (by omega)
        by_cases z : (ta V b').1 = 0
        · rw [if_pos z] at e
          rw [z]
          exact br_t (by decide) (back i _ M5 (by omega) (g4.tr g5) h5 (o4.tr t2) e)
        · rw [if_neg z] at e
          refine br_f (nI_nle (by omega) (by omega)) ?_
          rintro _ rfl
          rw [nI_1]
          exact ih (i + 1) _ M5 (by omega) (g4.tr g5) h5 t1 (o4.tr t2) e
    exact key 101 0 a M3 (by omega) Mg.rf mr3 d Opn.rf rfl
  have c1 : CX K t F M1 := hb.cx (mo.keep (k1 2 (by omega)))
  unfold B_X11_rests_13
  intro X hX
  have key : ∀ f i (b' : Nat → Nat) (M2 : Mem), i + f = 101 → Cg 43 M1 M2 → CX K t F M2 → HR 43 M2 b' → DOK b' → Opn a b' → rsV V 101 0 a = rsV V f i b' → X (nI i) M2 := by
    intro f
    induction f with
    | zero =>
      intro i b' M2 hi s2 c2 h2 d2 o2 e
      obtain rfl : i = 101 := by omega
      apply hX
      simp (disch := omega) only [i_lit, l_0, l_1, l_2, l_3, l_5, l_6, l_8, l_9, l_23, l_24, l_48, l_57, l_69, l_100, in_e, ci_e, lt_t, lt_f, le_t, le_f, eq_t, eq_f, nI_add, Nat.add_zero, xl_t, xl_f, xg_t, xg_f, xle_t, xle_f, xge_t, xge_f, xe_f, ci_t, ci_f, cx_t, cx_f, cn_t, cn_f, cp_t, cp_f, vi_t, cl_nI, c_er, m_er, eq_self, true_and, and_true, true_implies, false_implies, implies_true, not_true_eq_false, not_false_eq_true, true_or, or_true, forall_eq]
      refine model M2 ((Ca.cp c k1 kd1 tr1).tr s2.h.ca) c2.1 (fun M3 f3 mr3 => ⟨fun q => ?_, fun q => ?_⟩)
      · rw [e] at q
        exact absurd q (by show ¬ 101 ≤ 100; omega)
      · rw [show (2 : Int32) = nI 2 from rfl, m_er (by omega)]
        refine ⟨rfl, ?_⟩
        exact (Inv.er (Inv.as (n := n) hn hb ⟨hB, mr, d, v⟩ i1 i2 ((Ca.cp c k1 kd1 tr1).tr s2.h.ca) c2.1 f3 mr3 |> fun h => (⟨a, b, V, W, F, t, im, hb, c2.1, ⟨((Ca.cp c k1 kd1 tr1).tr s2.h.ca).hb hB, mr3, d, v⟩, i1.keep ((Ca.cp c k1 kd1 tr1).tr s2.h.ca).fc (f3.1 2 (by omega)), i2.keep ((Ca.cp c k1 kd1 tr1).tr s2.h.ca).fc f3⟩ : Inv n K M2 M3)) hn 2 (by omega))
    | succ f ih =>
      intro i b' M2 hi s2 c2 h2 d2' o2 e
      rw [rsV_s V f i b'] at e
      apply hX
      refine br_f (nI_nlt (b := i) (a := 100) (by omega) (by omega)) (c_turnOfAll (Or.inr (Or.inl rfl)) h2 ((s2.TR (Or.inr (Or.inl rfl)) tr1).op o2 d0) c2 d2' (fun M3 s3 c3 h3 => ?_))
      obtain ⟨t1, t2, t3⟩ := ta_ok (V := V) d2'
      have b2 : b' 2 = a 2 := o2.lo (by omega)
      by_cases z : (ta V b').1 = 0
      · rw [if_pos z] at e
        rw [z]
        refine ⟨fun q => absurd rfl q, fun _ => ?_⟩
        refine model M3 ((Ca.cp c k1 kd1 tr1).tr (s2.tr s3).h.ca) c3.1 (fun M4 f4 mr4 => ⟨fun q => ⟨by rw [e], ?_⟩, fun q => by omega⟩)
        exact Inv.as hn hb ⟨hB, mr, d, v⟩ i1 i2 ((Ca.cp c k1 kd1 tr1).tr (s2.tr s3).h.ca) c3.1 f4 mr4
      · rw [if_neg z] at e
        refine ⟨fun q => ?_, fun q => absurd q (nI_ne0 (by omega) (by omega))⟩
        rintro _ rfl
        rw [nI_1]
        exact ih (i + 1) _ M3 (by omega) (s2.tr s3) c3 h3 t1 (o2.tr t2) e
  exact key 101 0 a M1 (by omega) Cg.rf c1 h1 d Opn.rf rfl
theorem lo_25 {n K : Nat} {Mc Mm : Mem} (a1 a2 a3 a4 a5 : Int32) (hn : n < 512) (hI : Inv n K Mc Mm) : LO_25 Inv n K Mc Mm a1 a2 a3 a4 a5 := by
  have hE := hI.er hn
  have hU := hI.up hn
  obtain ⟨a, b, V, W, F, t, im, hb, mo, ⟨hB, mr, d, v⟩, i1, i2⟩ := hI
  have h := hB.1
  have tr := hB.2.1
  have kd := hB.2.2
  have c := hb.cx mo
  have d0 := d.1.1
  have d1 := d.1.2.1
  have d2 := d.1.2.2
  have dh := d.2.1
  have dt := d.2.2.2.2.1
  have f0 : Mc 30 0 = nI (a 0) := h.1.1
  have f1 : Mc 30 1 = nI (a 1) := h.1.2.1
  have f2 : Mc 30 2 = nI (a 2) := h.1.2.2
  have g0 : Mm 1 0 = nI (a 0) := mr 0 (by omega)
  have g1 : Mm 1 1 = nI (a 1) := mr 1 (by omega)
  have g2 : Mm 1 2 = nI (a 2) := mr 2 (by omega)
  unfold LO_25
  rcases rng a1 100 (by omega) with ⟨m, hm, rfl⟩ | xm | xm
  · rcases rngl a2 (a 0) (by omega) with ⟨w, hw, rfl⟩ | xw | xw
    · simp (disch := omega) only [i_lit, l_0, l_1, l_2, l_3, l_5, l_6, l_8, l_9, l_23, l_24, l_48, l_57, l_69, l_100, in_e, ci_e, lt_t, lt_f, le_t, le_f, eq_t, eq_f, nI_add, Nat.add_zero, xl_t, xl_f, xg_t, xg_f, xle_t, xle_f, xge_t, xge_f, xe_f, ci_t, ci_f, cx_t, cx_f, cn_t, cn_f, cp_t, cp_f, vi_t, cl_nI, c_er, m_er, eq_self, true_and, and_true, true_implies, false_implies, implies_true, not_true_eq_false, not_false_eq_true, true_or, or_true, forall_eq, P_X11_then, P_X11_isWindow, P_X12_then, P_X12_isWindow, f0, g0]
      refine c_copyFrom (Or.inr (Or.inl rfl)) (Or.inl rfl) (by omega) h kd tr c d (fun M1 k1 h1 kd1 tr1 => ?_)
      have c1 : CX K t F M1 := hb.cx (mo.keep (k1 2 (by omega)))
      have e0 : ∀ i, itN (ah V) i a 0 = a 0 := fun i => (ahN_ok d i).2 0 (by omega) (by omega) (by omega) (fun w _ => by omega)
      have model : ∀ M2 : Mem, Ca K Mc M2 → MOK t F M2 → P_X12_keepAside Mm (fun M7 => B_X12_then_32 (fun r2 Mm1 => nI (itN (ah V) m a (12 + 4 * w + 1)) = r2 ∧ Inv (n + 1) K M2 Mm1) (nI m) (nI w) (nI 0) M7) := fun M2 s2 mo2 => by
        refine m_keepAside mr (fun M3 k3 h3 => ?_)
        have mr3 : MR M3 a := fun k hk => by rw [k3 1 (by omega)]; exact mr k hk
        unfold B_X12_then_32
        intro Y hY
        have key : ∀ f i (M4 : Mem), i + f = m → Mg M3 M4 → MR M4 (itN (ah V) i a) → Y (nI i) M4 := by
          intro f
          induction f with
          | zero =>
            intro i M4 hi g4 h4
            obtain rfl : i = m := by omega
            apply hY
            simp (disch := omega) only [i_lit, l_0, l_1, l_2, l_3, l_5, l_6, l_8, l_9, l_23, l_24, l_48, l_57, l_69, l_100, in_e, ci_e, lt_t, lt_f, le_t, le_f, eq_t, eq_f, nI_add, Nat.add_zero, xl_t, xl_f, xg_t, xg_f, xle_t, xle_f, xge_t, xge_f, xe_f, ci_t, ci_f, cx_t, cx_f, cn_t, cn_f, cp_t, cp_f, vi_t, cl_nI, c_er, m_er, eq_self, true_and, and_true, true_implies, false_implies, implies_true, not_true_eq_false, not_false_eq_true, true_or, or_true, forall_eq, m_its h4]
            refine m_putBack h4 (fun j hj => by rw [g4.1 3 (by omega) (by omega) (by omega)]; exact h3 j hj) (fun k hk => (ahN_ok d i).2.hi d0 (by omega)) (fun M5 k5 h5 => ?_)
            exact Inv.as hn hb ⟨hB, mr, d, v⟩ i1 i2 s2 mo2 ((g4.fk k3).tr (FMo.of k5)) h5
          | succ f ih =>
            intro i M4 hi g4 h4
            apply hY
            simp (disch := omega) only [i_lit, l_0, l_1, l_2, l_3, l_5, l_6, l_8, l_9, l_23, l_24, l_48, l_57, l_69, l_100, in_e, ci_e, lt_t, lt_f, le_t, le_f, eq_t, eq_f, nI_add, Nat.add_zero, xl_t, xl_f, xg_t, xg_f, xle_t, xle_f, xge_t, xge_f, xe_f, ci_t, ci_f, cx_t, cx_f, cn_t, cn_f, cp_t, cp_f, vi_t, cl_nI, c_er, m_er, eq_self, true_and, and_true, true_implies, false_implies, implies_true, not_true_eq_false, not_false_eq_true, true_or, or_true, forall_eq]
            refine m_anHour h4 (ahN_ok d i).1 (v.hr (ahN_ok d i).2 d0) (fun M5 g5 h5 => ?_)
            exact ih (i + 1) M5 (by omega) (g4.tr g5) h5
        exact key m 0 M3 (by omega) Mg.rf mr3
      unfold B_X11_then_37
      intro X hX
      have key : ∀ f i (M2 : Mem), i + f = m → Ch 43 M1 M2 → CX K t F M2 → HR 43 M2 (itN (ah V) i a) → X (nI i) M2 := by
        intro f
        induction f with
        | zero =>
          intro i M2 hi s2 c2 h2
          obtain rfl : i = m := by omega
          have e45 : M2 45 w = nI (itN (ah V) i a (12 + 4 * w + 1)) := (h2.2.2.1 w (by rw [e0]; exact hw)).2.1
          apply hX
          simp (disch := omega) only [i_lit, l_0, l_1, l_2, l_3, l_5, l_6, l_8, l_9, l_23, l_24, l_48, l_57, l_69, l_100, in_e, ci_e, lt_t, lt_f, le_t, le_f, eq_t, eq_f, nI_add, Nat.add_zero, xl_t, xl_f, xg_t, xg_f, xle_t, xle_f, xge_t, xge_f, xe_f, ci_t, ci_f, cx_t, cx_f, cn_t, cn_f, cp_t, cp_f, vi_t, cl_nI, c_er, m_er, eq_self, true_and, and_true, true_implies, false_implies, implies_true, not_true_eq_false, not_false_eq_true, true_or, or_true, forall_eq, e45]
          exact model M2 ((Ca.cp c k1 kd1 tr1).tr s2.ca) c2.1
        | succ f ih =>
          intro i M2 hi s2 c2 h2
          apply hX
          simp (disch := omega) only [i_lit, l_0, l_1, l_2, l_3, l_5, l_6, l_8, l_9, l_23, l_24, l_48, l_57, l_69, l_100, in_e, ci_e, lt_t, lt_f, le_t, le_f, eq_t, eq_f, nI_add, Nat.add_zero, xl_t, xl_f, xg_t, xg_f, xle_t, xle_f, xge_t, xge_f, xe_f, ci_t, ci_f, cx_t, cx_f, cn_t, cn_f, cp_t, cp_f, vi_t, cl_nI, c_er, m_er, eq_self, true_and, and_true, true_implies, false_implies, implies_true, not_true_eq_false, not_false_eq_true, true_or, or_true, forall_eq]
          refine c_passHour (Or.inr (Or.inl rfl)) h2 ((s2.TR (Or.inr (Or.inl rfl)) tr1).hr (ahN_ok d i).2 d0) c2 (ahN_ok d i).1 (fun M3 s3 c3 h3 => ?_)
          exact ih (i + 1) M3 (by omega) (s2.tr s3) c3 h3
      exact key m 0 M1 (by omega) Ch.rf c1 h1
    · simp (disch := omega) only [i_lit, l_0, l_1, l_2, l_3, l_5, l_6, l_8, l_9, l_23, l_24, l_48, l_57, l_69, l_100, in_e, ci_e, lt_t, lt_f, le_t, le_f, eq_t, eq_f, nI_add, Nat.add_zero, xl_t, xl_f, xg_t, xg_f, xle_t, xle_f, xge_t, xge_f, xe_f, ci_t, ci_f, cx_t, cx_f, cn_t, cn_f, cp_t, cp_f, vi_t, cl_nI, c_er, m_er, eq_self, true_and, and_true, true_implies, false_implies, implies_true, not_true_eq_false, not_false_eq_true, true_or, or_true, forall_eq, P_X11_then, P_X11_isWindow, P_X12_then, P_X12_isWindow, f0, g0]
      exact hE 1 (by omega)
    · simp (disch := omega) only [i_lit, l_0, l_1, l_2, l_3, l_5, l_6, l_8, l_9, l_23, l_24, l_48, l_57, l_69, l_100, in_e, ci_e, lt_t, lt_f, le_t, le_f, eq_t, eq_f, nI_add, Nat.add_zero, xl_t, xl_f, xg_t, xg_f, xle_t, xle_f, xge_t, xge_f, xe_f, ci_t, ci_f, cx_t, cx_f, cn_t, cn_f, cp_t, cp_f, vi_t, cl_nI, c_er, m_er, eq_self, true_and, and_true, true_implies, false_implies, implies_true, not_true_eq_false, not_false_eq_true, true_or, or_true, forall_eq, P_X11_then, P_X11_isWindow, P_X12_then, P_X12_isWindow, f0, g0]
      exact hE 1 (by omega)
  · simp (disch := omega) only [i_lit, l_0, l_1, l_2, l_3, l_5, l_6, l_8, l_9, l_23, l_24, l_48, l_57, l_69, l_100, in_e, ci_e, lt_t, lt_f, le_t, le_f, eq_t, eq_f, nI_add, Nat.add_zero, xl_t, xl_f, xg_t, xg_f, xle_t, xle_f, xge_t, xge_f, xe_f, ci_t, ci_f, cx_t, cx_f, cn_t, cn_f, cp_t, cp_f, vi_t, cl_nI, c_er, m_er, eq_self, true_and, and_true, true_implies, false_implies, implies_true, not_true_eq_false, not_false_eq_true, true_or, or_true, forall_eq, P_X11_then, P_X11_isWindow, P_X12_then, P_X12_isWindow, f0, g0]
    exact hE 1 (by omega)
  · simp (disch := omega) only [i_lit, l_0, l_1, l_2, l_3, l_5, l_6, l_8, l_9, l_23, l_24, l_48, l_57, l_69, l_100, in_e, ci_e, lt_t, lt_f, le_t, le_f, eq_t, eq_f, nI_add, Nat.add_zero, xl_t, xl_f, xg_t, xg_f, xle_t, xle_f, xge_t, xge_f, xe_f, ci_t, ci_f, cx_t, cx_f, cn_t, cn_f, cp_t, cp_f, vi_t, cl_nI, c_er, m_er, eq_self, true_and, and_true, true_implies, false_implies, implies_true, not_true_eq_false, not_false_eq_true, true_or, or_true, forall_eq, P_X11_then, P_X11_isWindow, P_X12_then, P_X12_isWindow, f0, g0]
    exact hE 1 (by omega)
