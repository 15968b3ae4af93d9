/-! ===== helps, who ===== -/
def hpV (V : Vt) (a : Nat → Nat) (i j : Nat) : Nat := pop (conS (ta V (swA a i j)).2 V)
def hjV (V : Vt) (a : Nat → Nat) (i : Nat) : Nat → Nat → Nat × Nat → Nat × Nat
  | 0, _, s => s
  | f + 1, j, s => hjV V a i f (j + 1) (if a (12 + 4 * i + 2) = a (12 + 4 * j + 2) then s else if hpV V a i j + 1 ≤ s.1 then s else (hpV V a i j + 1, 10 * i + j))
theorem hjV_s (V : Vt) (a : Nat → Nat) (i f j : Nat) (s : Nat × Nat) : hjV V a i (f + 1) j s = hjV V a i f (j + 1) (if a (12 + 4 * i + 2) = a (12 + 4 * j + 2) then s else if hpV V a i j + 1 ≤ s.1 then s else (hpV V a i j + 1, 10 * i + j)) := rfl
def hiV (V : Vt) (a : Nat → Nat) : Nat → Nat → Nat × Nat → Nat × Nat
  | 0, _, s => s
  | f + 1, i, s => hiV V a f (i + 1) (hjV V a i f (i + 1) s)
theorem hiV_s (V : Vt) (a : Nat → Nat) (f i : Nat) (s : Nat × Nat) : hiV V a (f + 1) i s = hiV V a f (i + 1) (hjV V a i f (i + 1) s) := rfl
def hsOK (s : Nat × Nat) : Prop := s.1 ≤ 9 ∧ s.2 < 1000 ∧ (s.1 = 0 → s.2 = 0)
theorem hsOK_c {V : Vt} {a : Nat → Nat} {i j : Nat} {s : Nat × Nat} (h : hsOK s) (hi : i ≤ 8) (hj : j ≤ 8) : hsOK (if a (12 + 4 * i + 2) = a (12 + 4 * j + 2) then s else if hpV V a i j + 1 ≤ s.1 then s else (hpV V a i j + 1, 10 * i + j)) := by
  split
  · exact h
  · split
    · exact h
    · have := pop_le (conS (ta V (swA a i j)).2 V)
      refine ⟨?_, ?_, fun q => ?_⟩
      · show hpV V a i j + 1 ≤ 9
        unfold hpV
        omega
      · show 10 * i + j < 1000
        omega
      · have q : hpV V a i j + 1 = 0 := q
        omega
/-- what helps' search leaves in the model -/
def hMs (M : Mem) (s : Nat × Nat) : Prop := M 0 21 = cI s.1 ∧ M 0 20 = if s.1 = 0 then -nI 1 else nI s.2
theorem m_hsw {M : Mem} {a : Nat → Nat} {V : Vt} {x y : Nat} {Q : Int32 → Mem → Prop} (h : MR M a) (d : DOK a) (v : VOK a V) (hx : x < a 0) (hy : y < a 0) (h3 : ∀ i, i < 90 → M 3 i = nI (a i)) (hQ : ∀ M' : Mem, Mg M M' → M' 3 = M 3 → MR M' a → Q (nI (hpV V a x y)) M') :
    P_X12_swaps M (nI x) (nI y) (fun M12 => P_X12_turnOfAll M12 (fun v13 M14 => P_X12_allContent M14 (fun v15 M16 => P_X12_ones v15 (fun v17 => P_X12_putBack M16 (fun M18 => Q v17 M18))))) := by
  have d0 := d.1.1
  have ds := d.sw hx hy
  have vs : VOK (swA a x y) V := v.ab d (fun k k1 k2 => swA_n (by omega) (by omega))
  obtain ⟨t1, t2, t3⟩ := ta_ok (V := V) ds
  refine m_sw h (by omega) (by omega) (fun M1 k1 h1 => m_turnOfAll h1 ds vs (fun M2 g2 h2 => m_allContent h2 t1 (vs.op t2 ds.1.1) (fun M3 s3 => ?_)))
  have hc := conS_lt t1 V
  refine m_ones (by omega) ?_
  have e3 : M3 3 = M 3 := by rw [s3.1 3 (by omega) (by omega), g2.1 3 (by omega) (by omega) (by omega), k1 3 (by omega)]
  refine m_putBack (h2.ms s3) (fun i hi => by rw [e3]; exact h3 i hi) (fun k hk => by rw [t2.hi ds.1.1 (by omega), swA_n (by omega) (by omega)]) (fun M4 k4 h4 => ?_)
  exact hQ M4 ((((Mg.of k1).tr g2).tr s3.g).tr (Mg.of k4)) (by rw [k4 3 (by omega), e3]) h4
theorem swA_2 {a : Nat → Nat} {x y : Nat} : swA a x y 2 = a 2 := swA_n (by omega) (by omega)
theorem c_hsw {K t x y : Nat} {F : Ft} {M : Mem} {a : Nat → Nat} {V : Vt} {Q : Int32 → Mem → Prop} (hB : HB K t F 30 M a V) (c : CX K t F M) (d : DOK a) (hx : x < a 0) (hy : y < a 0) (hQ : ∀ M' : Mem, Ca K M M' → CX K t F M' → Q (nI (hpV V a x y)) M') : P_X11_contentIfSwapped K M (nI x) (nI y) Q := by
  have d0 := d.1.1
  have ds := d.sw hx hy
  obtain ⟨t1, t2, t3⟩ := ta_ok (V := V) ds
  unfold P_X11_contentIfSwapped
  refine c_copyFrom (Or.inr (Or.inl rfl)) (Or.inl rfl) (by omega) hB.1 hB.2.2 hB.2.1 c d (fun M1 k1 h1 kd1 tr1 => ?_)
  have c1 : CX K t F M1 := ⟨c.1.keep (k1 2 (by omega)), c.2⟩
  refine c_hang h1 d hx hy (fun M2 k2 h2 => ?_)
  have tr2 : TR 43 K t F M2 (swA a x y) V := (tr1.keep (k2 _ (by omega)) (fun k q _ => k2 k (by omega))).ab (swA_n (by omega) (by omega)) (swA_n (by omega) (by omega))
  have c2 : CX K t F M2 := ⟨c1.1.keep (k2 2 (by omega)), c.2⟩
  refine c_turnOfAll (Or.inr (Or.inl rfl)) h2 tr2 c2 ds (fun M3 s3 c3 h3 => ?_)
  refine c_contentSet (Or.inr (Or.inl rfl)) h3 ((s3.TR (Or.inr (Or.inl rfl)) tr2).op t2 ds.1.1) c3 t1 (fun M4 s4 c4 => ?_)
  have hc := conS_lt t1 V
  refine c_bits (by omega) ?_
  exact hQ M4 ((((Ca.cp c k1 kd1 tr1).tr (Ca.of k2)).tr s3.h.ca).tr s4.ca) c4
theorem cI_lt {x y : Nat} (hx : x < 1073741824) (hy : y < 1073741824) : cI x < cI y ↔ x < y := by
  rw [Int32.lt_iff_toInt_lt, cI_toInt hx, cI_toInt hy]
  omega
theorem cI_nle {x y : Nat} (hx : x < 1073741824) (hy : y < 1073741824) : nI x ≤ cI y ↔ x + 1 ≤ y := by
  rw [Int32.le_iff_toInt_le, nI_toInt (by omega), cI_toInt hy]
  omega
set_option maxHeartbeats 4000000 in
theorem m_findHelps {M : Mem} {a : Nat → Nat} {V : Vt} {Q : Mem → Prop} (h : MR M a) (d : DOK a) (v : VOK a V) (hQ : ∀ M' : Mem, FMo M M' → MR M' a → hMs M' (hiV V a (a 0) 0 (0, 0)) → Q M') : P_X12_findHelps M Q := by
  have d0 := d.1.1
  unfold P_X12_findHelps
  rintro _ rfl _ rfl
  have h2 : MR (sf (sf M 0 20 (-1)) 0 21 (-1)) a := fun k hk => by rw [sf_ne (by omega), sf_ne (by omega)]; exact h k hk
  have fm2 : FMo M (sf (sf M 0 20 (-1)) 0 21 (-1)) := ⟨fun k hk => by rw [sf_ne (by omega), sf_ne (by omega)], by rw [sf_j (by omega), sf_j (by omega)], by rw [sf_j (by omega), sf_j (by omega)]⟩
  have hs2 : hMs (sf (sf M 0 20 (-1)) 0 21 (-1)) (0, 0) := ⟨by rw [sf_e rfl rfl]; decide, by rw [sf_j (by omega), sf_e rfl rfl]; rfl⟩
  generalize sf (sf M 0 20 (-1)) 0 21 (-1) = M2 at *
  refine m_keepAside h2 (fun M3 k3 h3 => ?_)
  have mr3 : MR M3 a := fun k hk => by rw [k3 1 (by omega)]; exact h2 k hk
  have fm3 : FMo M M3 := fm2.tr ⟨fun k hk => k3 k (by omega), by rw [k3 0 (by omega)], by rw [k3 0 (by omega)]⟩
  have hs3 : hMs M3 (0, 0) := by unfold hMs; rw [k3 0 (by omega)]; exact hs2
  unfold B_X12_findHelps_16
  intro X hX
  have outer : ∀ f i (s : Nat × Nat) (M4 : Mem), i + f = a 0 → FMo M M4 → M4 3 = M3 3 → MR M4 a → hMs M4 s → hsOK s → hiV V a f i s = hiV V a (a 0) 0 (0, 0) → X (nI i) M4 := by
    intro f
    induction f with
    | zero =>
      intro i s M4 hi f4 e4 h4 hs4 ok e
      obtain rfl : i = a 0 := by omega
      have g0 := h4 0 (by omega)
      apply hX
      simp (disch := omega) only [i_lit, l_0, l_1, l_2, l_3, l_5, l_6, l_8, l_9, l_23, l_24, l_48, l_57, l_69, l_100, in_e, ci_e, lt_t, lt_f, le_t, le_f, eq_t, eq_f, nI_add, Nat.add_zero, xl_t, xl_f, xg_t, xg_f, xle_t, xle_f, xge_t, xge_f, xe_f, ci_t, ci_f, cx_t, cx_f, cn_t, cn_f, cp_t, cp_f, vi_t, cl_nI, c_er, m_er, eq_self, true_and, and_true, true_implies, false_implies, implies_true, not_true_eq_false, not_false_eq_true, true_or, or_true, forall_eq, g0]
      have e : s = hiV V a (a 0) 0 (0, 0) := e
      exact hQ M4 f4 h4 (by rw [← e]; exact hs4)
    | succ f ih =>
      intro i s M4 hi f4 e4 h4 hs4 ok e
      rw [hiV_s] at e
      have g0 := h4 0 (by omega)
      apply hX
      simp (disch := omega) only [i_lit, l_0, l_1, l_2, l_3, l_5, l_6, l_8, l_9, l_23, l_24, l_48, l_57, l_69, l_100, in_e, ci_e, lt_t, lt_f, le_t, le_f, eq_t, eq_f, nI_add, Nat.add_zero, xl_t, xl_f, xg_t, xg_f, xle_t, xle_f, xge_t, xge_f, xe_f, ci_t, ci_f, cx_t, cx_f, cn_t, cn_f, cp_t, cp_f, vi_t, cl_nI, c_er, m_er, eq_self, true_and, and_true, true_implies, false_implies, implies_true, not_true_eq_false, not_false_eq_true, true_or, or_true, forall_eq, g0]
      unfold B_X12_findHelps_30
      intro Y hY
      have inner : ∀ f' j (s' : Nat × Nat) (M5 : Mem), j + f' = a 0 → i < j → FMo M M5 → M5 3 = M3 3 → MR M5 a → hMs M5 s' → hsOK s' → hiV V a f (i + 1) (hjV V a i f' j s') = hiV V a (a 0) 0 (0, 0) → Y (nI j) M5 := by
        intro f'
        induction f' with
        | zero =>
          intro j s' M5 hj hij f5 e5 h5 hs5 ok5 e
          obtain rfl : j = a 0 := by omega
          have g0 := h5 0 (by omega)
          apply hY
          simp (disch := omega) only [i_lit, l_0, l_1, l_2, l_3, l_5, l_6, l_8, l_9, l_23, l_24, l_48, l_57, l_69, l_100, in_e, ci_e, lt_t, lt_f, le_t, le_f, eq_t, eq_f, nI_add, Nat.add_zero, xl_t, xl_f, xg_t, xg_f, xle_t, xle_f, xge_t, xge_f, xe_f, ci_t, ci_f, cx_t, cx_f, cn_t, cn_f, cp_t, cp_f, vi_t, cl_nI, c_er, m_er, eq_self, true_and, and_true, true_implies, false_implies, implies_true, not_true_eq_false, not_false_eq_true, true_or, or_true, forall_eq, g0]
          exact ih (i + 1) s' M5 (by omega) f5 e5 h5 hs5 ok5 e
        | succ f' ih' =>
          intro j s' M5 hj hij f5 e5 h5 hs5 ok5 e
          rw [hjV_s] at e
          have g0 := h5 0 (by omega)
          have bi := (d.2.2.1 i (by omega)).2.2.1
          have bj := (d.2.2.1 j (by omega)).2.2.1
          have d1 := d.1.2.1
          have okc := hsOK_c (V := V) (a := a) (i := i) (j := j) ok5 (by omega) (by omega)
          apply hY
          by_cases q : a (12 + 4 * i + 2) = a (12 + 4 * j + 2)
          · rw [if_pos q] at e okc
            simp (disch := omega) only [i_lit, l_0, l_1, l_2, l_3, l_5, l_6, l_8, l_9, l_23, l_24, l_48, l_57, l_69, l_100, in_e, ci_e, lt_t, lt_f, le_t, le_f, eq_t, eq_f, nI_add, Nat.add_zero, xl_t, xl_f, xg_t, xg_f, xle_t, xle_f, xge_t, xge_f, xe_f, ci_t, ci_f, cx_t, cx_f, cn_t, cn_f, cp_t, cp_f, vi_t, cl_nI, c_er, m_er, eq_self, true_and, and_true, true_implies, false_implies, implies_true, not_true_eq_false, not_false_eq_true, true_or, or_true, forall_eq, g0, m_its h5]
            exact ih' (j + 1) s' M5 (by omega) (by omega) f5 e5 h5 hs5 ok5 e
          · rw [if_neg q] at e okc
            simp (disch := omega) only [i_lit, l_0, l_1, l_2, l_3, l_5, l_6, l_8, l_9, l_23, l_24, l_48, l_57, l_69, l_100, in_e, ci_e, lt_t, lt_f, le_t, le_f, eq_t, eq_f, nI_add, Nat.add_zero, xl_t, xl_f, xg_t, xg_f, xle_t, xle_f, xge_t, xge_f, xe_f, ci_t, ci_f, cx_t, cx_f, cn_t, cn_f, cp_t, cp_f, vi_t, cl_nI, c_er, m_er, eq_self, true_and, and_true, true_implies, false_implies, implies_true, not_true_eq_false, not_false_eq_true, true_or, or_true, forall_eq, g0, m_its h5]
            refine m_hsw (Q := fun v17 M18 => ((v17 ≤ (M18 0 21) → B_X12_findHelps_102 Q X Y (nI i) (nI j) v17 (M18 0 20) M18) ∧ (¬ v17 ≤ (M18 0 21) → B_X12_findHelps_102 Q X Y (nI i) (nI j) v17 ((nI 10 * nI i) + nI j) M18))) h5 d v (by omega) (by omega) (fun w hw => by rw [e5]; exact h3 w hw) (fun M6 g6 e6 h6 => ?_)
            have o20 : M6 0 20 = M5 0 20 := g6.2 20 (by omega)
            have o21 : M6 0 21 = M5 0 21 := g6.2 21 (by omega)
            have hp9 := pop_le (conS (ta V (swA a i j)).2 V)
            have hp9 : hpV V a i j ≤ 8 := hp9
            have f6 := f5.tr g6.fm
            rw [o21, hs5.1, cI_nle (by omega) (by have := ok5.1; omega)]
            by_cases z : hpV V a i j + 1 ≤ s'.1
            · rw [if_pos z] at e okc
              refine ⟨fun _ => ?_, fun q2 => absurd z q2⟩
              unfold B_X12_findHelps_102
              rintro _ rfl
              rw [sf_j (by omega), o21, hs5.1, cI_nle (by omega) (by have := ok5.1; omega)]
              refine ⟨fun _ => ?_, fun q2 => absurd z q2⟩
              rintro _ rfl _ rfl _ rfl
              rw [show nI j + 1 = nI (j + 1) from nI_1 j]
              refine ih' (j + 1) s' _ (by omega) (by omega) (f6.tr ⟨fun k hk => by rw [sf_ne (by omega), sf_ne (by omega)], by rw [sf_j (by omega), sf_j (by omega)], by rw [sf_j (by omega), sf_j (by omega)]⟩) (by rw [sf_ne (by omega), sf_ne (by omega), e6, e5]) (fun k hk => by rw [sf_ne (by omega), sf_ne (by omega)]; exact h6 k hk) ⟨by rw [sf_e rfl rfl], ?_⟩ ok5 e
              rw [sf_j (by omega), sf_e rfl rfl, o20]
              exact hs5.2
            · rw [if_neg z] at e okc
              refine ⟨fun q2 => absurd q2 z, fun _ => ?_⟩
              unfold B_X12_findHelps_102
              rintro _ rfl
              rw [sf_j (by omega), o21, hs5.1, cI_nle (by omega) (by have := ok5.1; omega)]
              refine ⟨fun q2 => absurd q2 z, fun _ => ?_⟩
              rintro _ rfl _ rfl
              rw [show nI j + 1 = nI (j + 1) from nI_1 j, pk_mul, nI_add]
              refine ih' (j + 1) (hpV V a i j + 1, 10 * i + j) _ (by omega) (by omega) (f6.tr ⟨fun k hk => by rw [sf_ne (by omega), sf_ne (by omega)], by rw [sf_j (by omega), sf_j (by omega)], by rw [sf_j (by omega), sf_j (by omega)]⟩) (by rw [sf_ne (by omega), sf_ne (by omega), e6, e5]) (fun k hk => by rw [sf_ne (by omega), sf_ne (by omega)]; exact h6 k hk) ⟨by rw [sf_e rfl rfl, cI_s], ?_⟩ okc e
              rw [sf_j (by omega), sf_e rfl rfl, if_neg (by show ¬ hpV V a i j + 1 = 0; omega)]
      exact inner f (i + 1) s M4 (by omega) (by omega) f4 e4 h4 hs4 ok e
  exact outer (a 0) 0 (0, 0) M3 (by omega) fm3 rfl mr3 hs3 ⟨by show 0 ≤ 9; omega, by show 0 < 1000; omega, fun _ => rfl⟩ rfl
set_option maxHeartbeats 4000000 in
theorem lo_29 {n K : Nat} {Mc Mm : Mem} (a1 a2 a3 a4 a5 : Int32) (hn : n < 512) (hI : Inv n K Mc Mm) : LO_29 Inv n K Mc Mm a1 a2 a3 a4 a5 := by
  have hE := hI.er hn
  have hU := hI.up hn
  obtain ⟨a, b, V, W, F, t, im, hb, mo, ⟨hB, mr, d, v⟩, i1, i2⟩ := hI
  have h := hB.1
  have tr := hB.2.1
  have kd := hB.2.2
  have c := hb.cx mo
  have d0 := d.1.1
  have d1 := d.1.2.1
  have d2 := d.1.2.2
  have dh := d.2.1
  have dt := d.2.2.2.2.1
  have f0 : Mc 30 0 = nI (a 0) := h.1.1
  have f1 : Mc 30 1 = nI (a 1) := h.1.2.1
  have f2 : Mc 30 2 = nI (a 2) := h.1.2.2
  have g0 : Mm 1 0 = nI (a 0) := mr 0 (by omega)
  have g1 : Mm 1 1 = nI (a 1) := mr 1 (by omega)
  have g2 : Mm 1 2 = nI (a 2) := mr 2 (by omega)
  unfold LO_29
  rcases rng a1 1 (by omega) with ⟨k, hk, rfl⟩ | xk | xk
  · have hsF : ∀ f i s, i + f = a 0 → hsOK s → hsOK (hiV V a f i s) := by
      intro f
      induction f with
      | zero => intro i s _ h; exact h
      | succ f ih =>
        intro i s hi hs
        rw [hiV_s]
        refine ih (i + 1) _ (by omega) ?_
        have inner : ∀ f' j s, j + f' = a 0 → hsOK s → hsOK (hjV V a i f' j s) := by
          intro f'
          induction f' with
          | zero => intro j s _ h; exact h
          | succ f' ih' =>
            intro j s hj hs
            rw [hjV_s]
            exact ih' (j + 1) _ (by omega) (hsOK_c hs (by omega) (by omega))
        exact inner f (i + 1) s (by omega) hs
    have ok0 : hsOK (0, 0) := ⟨by show 0 ≤ 9; omega, by show 0 < 1000; omega, fun _ => rfl⟩
    have okR := hsF (a 0) 0 (0, 0) (by omega) ok0
    have model : ∀ M1 : Mem, Ca K Mc M1 → MOK t F M1 → ∀ Q : Int32 → Mem → Prop, (∀ M2, FMo Mm M2 → MR M2 a → hMs M2 (hiV V a (a 0) 0 (0, 0)) → ((nI 0 ≤ (M2 0 20) → ((¬ nI k = nI 0 → Q (M2 0 21) M2) ∧ (nI k = nI 0 → Q (M2 0 20) M2))) ∧ (¬ nI 0 ≤ (M2 0 20) → P_X12_finds M2 2 (fun v6 M7 => Q v6 M7)))) → P_X12_helps Mm (nI k) Q := fun M1 s1 mo1 Q hQ => by
      unfold P_X12_helps
      simp (disch := omega) only [l_0, l_1, in_e, lt_f, true_implies, false_implies, not_false_eq_true, not_true_eq_false, true_and, and_true]
      refine ⟨fun _ => m_findHelps mr d v (fun M2 f2 h2 hs2 => hQ M2 f2 h2 hs2), fun q => absurd q (by decide)⟩
    simp (disch := omega) only [i_lit, l_0, l_1, l_2, l_3, l_5, l_6, l_8, l_9, l_23, l_24, l_48, l_57, l_69, l_100, in_e, ci_e, lt_t, lt_f, le_t, le_f, eq_t, eq_f, nI_add, Nat.add_zero, xl_t, xl_f, xg_t, xg_f, xle_t, xle_f, xge_t, xge_f, xe_f, ci_t, ci_f, cx_t, cx_f, cn_t, cn_f, cp_t, cp_f, vi_t, cl_nI, c_er, m_er, eq_self, true_and, and_true, true_implies, false_implies, implies_true, not_true_eq_false, not_false_eq_true, true_or, or_true, forall_eq, P_X11_helps]
    unfold B_X11_helps_22
    intro X hX
    have outer : ∀ f i (s : Nat × Nat) (M1 : Mem), i + f = a 0 → Ca K Mc M1 → CX K t F M1 → hsOK s → hiV V a f i s = hiV V a (a 0) 0 (0, 0) → X (cI s.1) (nI s.2) (nI i) M1 := by
      intro f
      induction f with
      | zero =>
        intro i s M1 hi s1 c1 ok e
        obtain rfl : i = a 0 := by omega
        have e : s = hiV V a (a 0) 0 (0, 0) := e
        have f0' : M1 30 0 = nI (a 0) := by rw [s1.1 30 (by omega) (by omega) (fun j => by omega)]; exact f0
        apply hX
        rw [f0']
        refine br_t (nI_le (Nat.le_refl _) (by omega)) ?_
        rw [show (0 : Int32) = nI 0 from rfl, cI_nn (by have := ok.1; omega), eq_nI (by omega) (by omega)]
        refine ⟨fun q => ⟨fun q2 => ?_, fun q2 => ?_⟩, fun q => ?_⟩
        · refine model M1 s1 c1.1 _ (fun M2 f2 h2 hs2 => ?_)
          rw [← e] at hs2
          obtain ⟨w1, w2⟩ := hs2
          rw [if_neg (by omega)] at w2
          rw [w2]
          refine br_t (nI_pos' (by have := ok.2.1; omega)) ⟨fun _ => ⟨w1.symm, ?_⟩, fun q3 => absurd ((eq_nI (by omega) (by omega)).mp q3) q2⟩
          exact Inv.as hn hb ⟨hB, mr, d, v⟩ i1 i2 s1 c1.1 f2 h2
        · refine model M1 s1 c1.1 _ (fun M2 f2 h2 hs2 => ?_)
          rw [← e] at hs2
          obtain ⟨w1, w2⟩ := hs2
          rw [if_neg (by omega)] at w2
          rw [w2]
          refine br_t (nI_pos' (by have := ok.2.1; omega)) ⟨fun q3 => absurd (by rw [q2]) q3, fun _ => ⟨rfl, ?_⟩⟩
          exact Inv.as hn hb ⟨hB, mr, d, v⟩ i1 i2 s1 c1.1 f2 h2
        · rw [show (2 : Int32) = nI 2 from rfl, c_er (by omega)]
          refine model M1 s1 c1.1 _ (fun M2 f2 h2 hs2 => ?_)
          rw [← e] at hs2
          obtain ⟨w1, w2⟩ := hs2
          rw [if_pos (by omega)] at w2
          rw [w2]
          refine br_f (by decide) ?_
          rw [show (2 : Int32) = nI 2 from rfl, m_er (by omega)]
          refine ⟨rfl, ?_⟩
          have hI' : Inv n K M1 M2 := ⟨a, b, V, W, F, t, im, hb, c1.1, ⟨s1.hb hB, h2, d, v⟩, i1.keep s1.fc (f2.1 2 (by omega)), i2.keep s1.fc f2⟩
          exact hI'.er hn 2 (by omega)
      | succ f ih =>
        intro i s M1 hi s1 c1 ok e
        rw [hiV_s] at e
        have f0' : M1 30 0 = nI (a 0) := by rw [s1.1 30 (by omega) (by omega) (fun j => by omega)]; exact f0
        apply hX
        rw [f0']
        refine br_f (nI_ge (by omega) (by omega)) ?_
        rintro _ rfl
        rw [nI_1]
        unfold B_X11_helps_40
        intro Y hY
        have inner : ∀ f' j (s' : Nat × Nat) (M2 : Mem), j + f' = a 0 → i < j → Ca K Mc M2 → CX K t F M2 → hsOK s' → hiV V a f (i + 1) (hjV V a i f' j s') = hiV V a (a 0) 0 (0, 0) → Y (cI s'.1) (nI s'.2) (nI j) M2 := by
          intro f'
          induction f' with
          | zero =>
            intro j s' M2 hj hij s2 c2 ok2 e
            obtain rfl : j = a 0 := by omega
            have f0' : M2 30 0 = nI (a 0) := by rw [s2.1 30 (by omega) (by omega) (fun j => by omega)]; exact f0
            apply hY
            rw [f0']
            refine br_t (nI_le (Nat.le_refl _) (by omega)) ?_
            rintro _ rfl
            rw [nI_1]
            exact ih (i + 1) s' M2 (by omega) s2 c2 ok2 e
          | succ f' ih' =>
            intro j s' M2 hj hij s2 c2 ok2 e
            rw [hjV_s] at e
            have hB2 := s2.hb hB
            have f0' : M2 30 0 = nI (a 0) := hB2.1.1.1
            have ei : M2 33 i = cI (a (12 + 4 * i + 2)) := (hB2.1.2.2.1 i (by omega)).2.2.1
            have ej : M2 33 j = cI (a (12 + 4 * j + 2)) := (hB2.1.2.2.1 j (by omega)).2.2.1
            have bi := (d.2.2.1 i (by omega)).2.2.1
            have bj := (d.2.2.1 j (by omega)).2.2.1
            have okc := hsOK_c (V := V) (a := a) (i := i) (j := j) ok2 (by omega) (by omega)
            apply hY
            rw [f0', cl_nI (by omega), cl_nI (by omega), ei, ej, cI_eq (by omega) (by omega)]
            refine br_f (nI_ge (by omega) (by omega)) ⟨vp_in_nI (by omega) (by omega), vp_in_nI (by omega) (by omega), fun q => ?_, fun q => ?_⟩
            · rw [if_neg q] at e okc
              refine c_hsw hB2 c2 d (by omega) (by omega) (fun M3 s3 c3 => ?_)
              have hp9 := pop_le (conS (ta V (swA a i j)).2 V)
              have hp9 : hpV V a i j ≤ 8 := hp9
              unfold B_X11_helps_87
              rw [cI_nle (by omega) (by have := ok2.1; omega)]
              refine ⟨fun z => ?_, fun z => ?_⟩
              · rw [if_pos z] at e
                rintro _ rfl
                rw [nI_1]
                exact ih' (j + 1) s' M3 (by omega) (by omega) (s2.tr s3) c3 ok2 e
              · rw [if_neg z] at e okc
                rintro _ rfl _ rfl
                rw [nI_1, show (10 : Int32) = nI 10 from rfl, pk_mul, nI_add]
                have := ih' (j + 1) (hpV V a i j + 1, 10 * i + j) M3 (by omega) (by omega) (s2.tr s3) c3 okc e
                rw [show cI (hpV V a i j + 1, 10 * i + j).1 = nI (hpV V a i j) from cI_s _] at this
                exact this
            · rw [if_pos q] at e okc
              unfold B_X11_helps_87
              refine ⟨fun _ => ?_, fun z => absurd ?_ z⟩
              · rintro _ rfl
                rw [nI_1]
                exact ih' (j + 1) s' M2 (by omega) (by omega) s2 c2 ok2 e
              · rw [Int32.le_iff_toInt_le, cI_toInt (by have := ok2.1; omega)]
                have : (-1 : Int32).toInt = -1 := rfl
                omega
        exact inner f (i + 1) s M1 (by omega) (by omega) s1 c1 ok e
    exact outer (a 0) 0 (0, 0) Mc (by omega) Ca.rf c ok0 rfl
  · simp (disch := omega) only [i_lit, l_0, l_1, l_2, l_3, l_5, l_6, l_8, l_9, l_23, l_24, l_48, l_57, l_69, l_100, in_e, ci_e, lt_t, lt_f, le_t, le_f, eq_t, eq_f, nI_add, Nat.add_zero, xl_t, xl_f, xg_t, xg_f, xle_t, xle_f, xge_t, xge_f, xe_f, ci_t, ci_f, cx_t, cx_f, cn_t, cn_f, cp_t, cp_f, vi_t, cl_nI, c_er, m_er, eq_self, true_and, and_true, true_implies, false_implies, implies_true, not_true_eq_false, not_false_eq_true, true_or, or_true, forall_eq, P_X11_helps, P_X12_helps]
    exact hE 1 (by omega)
  · simp (disch := omega) only [i_lit, l_0, l_1, l_2, l_3, l_5, l_6, l_8, l_9, l_23, l_24, l_48, l_57, l_69, l_100, in_e, ci_e, lt_t, lt_f, le_t, le_f, eq_t, eq_f, nI_add, Nat.add_zero, xl_t, xl_f, xg_t, xg_f, xle_t, xle_f, xge_t, xge_f, xe_f, ci_t, ci_f, cx_t, cx_f, cn_t, cn_f, cp_t, cp_f, vi_t, cl_nI, c_er, m_er, eq_self, true_and, and_true, true_implies, false_implies, implies_true, not_true_eq_false, not_false_eq_true, true_or, or_true, forall_eq, P_X11_helps, P_X12_helps]
    exact hE 1 (by omega)
