/-! ===== who ===== -/
theorem jdg_s {p : Nat → Bool} {n : Nat} : jdg p n n = unl p n 0 := by
  unfold jdg
  have e : (if n < n then n else n) = n := by split <;> rfl
  rw [e, if_pos (rfl : n = n)]
  split
  · rename_i h
    exact h.symm
  · rfl
def flg (p : Nat → Bool) (b : Bool) : Nat → Bool
  | 0 => b
  | w + 1 => flg p b w && p w
theorem flg_t {p : Nat → Bool} {b : Bool} : ∀ w, flg p b w = true ↔ b = true ∧ ∀ j, j < w → p j = true
  | 0 => ⟨fun h => ⟨h, fun j hj => absurd hj (by omega)⟩, fun h => h.1⟩
  | w + 1 => by
    show (flg p b w && p w) = true ↔ _
    rw [Bool.and_eq_true, flg_t w]
    constructor
    · rintro ⟨⟨h1, h2⟩, h3⟩
      refine ⟨h1, fun j hj => ?_⟩
      by_cases e : j = w
      · rw [e]; exact h3
      · exact h2 j (by omega)
    · rintro ⟨h1, h2⟩
      exact ⟨⟨h1, fun j hj => h2 j (by omega)⟩, h2 w (by omega)⟩
/-- whether the windows would stand so behind a lodger's turn -/
def whB (V : Vt) (a : Nat → Nat) (q : Nat → Nat → Bool) (l : Nat) : Bool := flg (fun w => q w ((tn V l a).2 (12 + 4 * w + 1))) (decide (0 < (tn V l a).1)) (a 0)
theorem c_stand {K t s l : Nat} {F : Ft} {M : Mem} {a : Nat → Nat} {V : Vt} {q : Nat → Nat → Bool} {Q : Int32 → Mem → Prop} (hs : s < 4) (hB : HB K t F 30 M a V) (c : CX K t F M) (d : DOK a) (hl : l < a 2) (e1 : M (22 + 2 * s) 1 = nI (a 0)) (hq : ∀ i x, i < 40 → x ≤ 9 → (M (22 + 2 * s + 1) i = nI x ↔ q i x = true)) (hQ : ∀ M' : Mem, Ca K M M' → CX K t F M' → Q (bI (whB V a q l)) M') : P_X11_wouldStandSo K M (nI l) (22 + 2 * s) Q := by
  have d0 := d.1.1
  unfold P_X11_wouldStandSo
  refine c_copyFrom (Or.inr (Or.inl rfl)) (Or.inl rfl) (by omega) hB.1 hB.2.2 hB.2.1 c d (fun M1 k1 h1 kd1 tr1 => ?_)
  have c1 : CX K t F M1 := ⟨c.1.keep (k1 2 (by omega)), c.2⟩
  refine c_turnOf (Or.inr (Or.inl rfl)) h1 tr1 c1 d hl (fun M2 s2 c2 h2 => ?_)
  obtain ⟨t1, t2, t3⟩ := tn_ok (V := V) (l := l) d
  have ca := (Ca.cp c k1 kd1 tr1).tr s2.h.ca
  have e0 : (tn V l a).2 0 = a 0 := t2.lo (by omega)
  by_cases z : (tn V l a).1 = 0
  · have e : whB V a q l = false := by
      cases hc : whB V a q l with
      | false => rfl
      | true =>
        have := ((flg_t _).mp hc).1
        rw [decide_eq_true_eq] at this
        omega
    rw [z]
    have := hQ M2 ca c2
    rw [e] at this
    exact br_t (by decide) this
  · refine br_f (nI_nle (by omega) (by omega)) ?_
    have f0 : M2 43 0 = nI (a 0) := by rw [← e0]; exact h2.1.1
    have er : M2 (22 + 2 * s) = M (22 + 2 * s) := ca.1 _ (by omega) (by omega) (fun j => by omega)
    have er1 : M2 (22 + 2 * s + 1) = M (22 + 2 * s + 1) := ca.1 _ (by omega) (by omega) (fun j => by omega)
    refine c_unlike (L := a 0) (n := a 0) (p := fun w => q w ((tn V l a).2 (12 + 4 * w + 1))) (by omega) d0 (rL_sh hs) (by rw [er]; exact e1) f0 (fun i i1 i2 => ?_) ?_
    · rw [er1, (h2.2.2.1 i (by rw [e0]; exact i2)).2.1]
      exact hq i _ (by omega) (t1.2.2.1 i (by rw [e0]; exact i2)).2.1
    · rw [jdg_s]
      have hb : unl (fun w => q w ((tn V l a).2 (12 + 4 * w + 1))) (a 0) 0 ≤ a 0 := by
        have : ∀ f i, unl (fun w => q w ((tn V l a).2 (12 + 4 * w + 1))) f i ≤ i + f := by
          intro f
          induction f with
          | zero => intro i; exact Nat.zero_le _
          | succ f ih =>
            intro i
            rw [unl_s]
            have := ih (i + 1)
            split <;> omega
        have := this (a 0) 0
        omega
      have eqv : unl (fun w => q w ((tn V l a).2 (12 + 4 * w + 1))) (a 0) 0 = 0 ↔ whB V a q l = true := by
        rw [unl_0]
        unfold whB
        rw [flg_t]
        constructor
        · intro h
          exact ⟨decide_eq_true (by omega), fun j hj => h j (by omega) (by omega)⟩
        · intro h j j1 j2
          exact h.2 j (by omega)
      rw [show (0 : Int32) = nI 0 from rfl, cI_nn (by omega)]
      have := hQ M2 ca c2
      by_cases y : unl (fun w => q w ((tn V l a).2 (12 + 4 * w + 1))) (a 0) 0 = 0
      · rw [eqv.mp y] at this
        exact ⟨fun y2 => absurd y (by omega), fun _ => this⟩
      · have e : whB V a q l = false := by
          cases hc : whB V a q l with
          | false => rfl
          | true => exact absurd (eqv.mpr hc) y
        rw [e] at this
        exact ⟨fun _ => this, fun y2 => absurd y2 (by omega)⟩
theorem m_stand {s l : Nat} {M : Mem} {a : Nat → Nat} {V : Vt} {Q : Int32 → Mem → Prop} {X51 : Int32 → Int32 → Mem → Prop} {x2 : Int32} (hs : s < 4) (h : MR M a) (d : DOK a) (v : VOK a V) (hl : l < a 2) (h3 : ∀ i, i < 90 → M 3 i = nI (a i)) (hQ : ∀ M' : Mem, Mg M M' → M' 3 = M 3 → MR M' a → B_X12_who_147 Q X51 (nI s) (nI l) x2 (if whB V a (fun i x => decide (M 14 (40 * s + i) = nI x)) l = true then nI 1 <<< (nI l &&& nI 31) else nI 0) M') :
    P_X12_turnOf M (nI l) (fun v11 M12 => ((v11 ≤ 0 → B_X12_who_74 Q X51 (nI s) x2 (nI l) 0 M12) ∧ (¬ v11 ≤ 0 → B_X12_who_74 Q X51 (nI s) x2 (nI l) 1 M12))) := by
  have d0 := d.1.1
  refine m_turnOf h d v hl (fun M1 g1 h1 => ?_)
  obtain ⟨t1, t2, t3⟩ := tn_ok (V := V) (l := l) d
  have e0 : (tn V l a).2 0 = a 0 := t2.lo (by omega)
  have main : B_X12_who_74 Q X51 (nI s) x2 (nI l) (bI (decide (0 < (tn V l a).1))) M1 := by
    unfold B_X12_who_74 B_X12_who_79
    intro Y hY
    have f0 : M1 1 0 = nI (a 0) := by rw [← e0]; exact h1 0 (by omega)
    have e14 : M1 14 = M 14 := g1.1 14 (by omega) (by omega) (by omega)
    have key : ∀ f w, w + f = a 0 → Y (bI (flg (fun w => decide (M 14 (40 * s + w) = nI ((tn V l a).2 (12 + 4 * w + 1)))) (decide (0 < (tn V l a).1)) w)) (nI w) M1 := by
      intro f
      induction f with
      | zero =>
        intro w hw
        obtain rfl : w = a 0 := by omega
        apply hY
        rw [f0]
        refine br_t (nI_le (Nat.le_refl _) (by omega)) ?_
        refine m_putBack h1 (fun i hi => by rw [g1.1 3 (by omega) (by omega) (by omega)]; exact h3 i hi) (fun k hk => t2.hi d0 (by omega)) (fun M2 k2 h2 => ?_)
        have := hQ M2 (g1.tr (Mg.of k2)) (by rw [k2 3 (by omega), g1.1 3 (by omega) (by omega) (by omega)]) h2
        have eb : whB V a (fun i x => decide (M 14 (40 * s + i) = nI x)) l = flg (fun w => decide (M 14 (40 * s + w) = nI ((tn V l a).2 (12 + 4 * w + 1)))) (decide (0 < (tn V l a).1)) (a 0) := rfl
        rw [eb] at this
        cases hc : flg (fun w => decide (M 14 (40 * s + w) = nI ((tn V l a).2 (12 + 4 * w + 1)))) (decide (0 < (tn V l a).1)) (a 0) with
        | true =>
          rw [hc, if_pos rfl] at this
          exact ⟨fun q => absurd q (by decide), fun _ => this⟩
        | false =>
          rw [hc, if_neg (by decide)] at this
          exact ⟨fun _ => this, fun q => absurd rfl q⟩
      | succ f ih =>
        intro w hw
        have n := ih (w + 1) (by omega)
        have es : flg (fun w => decide (M 14 (40 * s + w) = nI ((tn V l a).2 (12 + 4 * w + 1)))) (decide (0 < (tn V l a).1)) (w + 1) = (flg (fun w => decide (M 14 (40 * s + w) = nI ((tn V l a).2 (12 + 4 * w + 1)))) (decide (0 < (tn V l a).1)) w && decide (M 14 (40 * s + w) = nI ((tn V l a).2 (12 + 4 * w + 1)))) := rfl
        rw [es] at n
        apply hY
        rw [f0]
        refine br_f (nI_ge (by omega) (by omega)) ?_
        cases hc : flg (fun w => decide (M 14 (40 * s + w) = nI ((tn V l a).2 (12 + 4 * w + 1)))) (decide (0 < (tn V l a).1)) w with
        | false =>
          rw [hc] at n
          refine ⟨fun _ => ?_, fun q => absurd rfl q⟩
          unfold B_X12_who_122
          rintro _ rfl
          rw [nI_1]
          exact n
        | true =>
          rw [hc, Bool.true_and] at n
          refine ⟨fun q => absurd q (by decide), fun _ => ?_⟩
          rw [show (1 : Int32) = nI 1 from rfl, m_its h1 (by omega), show (40 : Int32) = nI 40 from rfl, pk_mul, nI_add, cl_nI (by omega), e14]
          refine ⟨vp_in_nI (by omega) (by omega), fun q => ?_, fun q => ?_⟩
          · rw [decide_eq_false (fun z => q z.symm)] at n
            unfold B_X12_who_122
            rintro _ rfl
            rw [nI_1]
            exact n
          · rw [decide_eq_true q.symm] at n
            unfold B_X12_who_122
            rintro _ rfl
            rw [nI_1]
            exact n
    exact key (a 0) 0 (by omega)
  by_cases z : (tn V l a).1 = 0
  · rw [decide_eq_false (by omega)] at main
    rw [z]
    exact br_t (by decide) main
  · rw [decide_eq_true (by omega)] at main
    exact br_f (nI_nle (by omega) (by omega)) main
theorem lo_30 {n K : Nat} {Mc Mm : Mem} (a1 a2 a3 a4 a5 : Int32) (hn : n < 512) (hI : Inv n K Mc Mm) : LO_30 Inv n K Mc Mm a1 a2 a3 a4 a5 := by
  have hE := hI.er hn
  have hU := hI.up hn
  obtain ⟨a, b, V, W, F, t, im, hb, mo, ⟨hB, mr, d, v⟩, i1, i2⟩ := hI
  have h := hB.1
  have tr := hB.2.1
  have kd := hB.2.2
  have c := hb.cx mo
  have d0 := d.1.1
  have d1 := d.1.2.1
  have d2 := d.1.2.2
  have dh := d.2.1
  have dt := d.2.2.2.2.1
  have f0 : Mc 30 0 = nI (a 0) := h.1.1
  have f1 : Mc 30 1 = nI (a 1) := h.1.2.1
  have f2 : Mc 30 2 = nI (a 2) := h.1.2.2
  have g0 : Mm 1 0 = nI (a 0) := mr 0 (by omega)
  have g1 : Mm 1 1 = nI (a 1) := mr 1 (by omega)
  have g2 : Mm 1 2 = nI (a 2) := mr 2 (by omega)
  unfold LO_30
  rcases rng a1 3 (by omega) with ⟨s, hs, rfl⟩ | xs | xs
  · have hsh := i2.2.2.2.2.2 s (by omega)
    obtain ⟨L, B, p1, p2, p3, p4, p5, p6, p7⟩ := hsh
    by_cases b0 : B = 0
    · simp (disch := omega) only [i_lit, l_0, l_1, l_2, l_3, l_5, l_6, l_8, l_9, l_23, l_24, l_48, l_57, l_69, l_100, in_e, ci_e, lt_t, lt_f, le_t, le_f, eq_t, eq_f, nI_add, Nat.add_zero, xl_t, xl_f, xg_t, xg_f, xle_t, xle_f, xge_t, xge_f, xe_f, ci_t, ci_f, cx_t, cx_f, cn_t, cn_f, cp_t, cp_f, vi_t, cl_nI, c_er, m_er, eq_self, true_and, and_true, true_implies, false_implies, implies_true, not_true_eq_false, not_false_eq_true, true_or, or_true, forall_eq, P_X11_who, P_X11_isSheet, P_X12_who, P_X12_isSheet, p5, p6]
      exact hE 2 (by omega)
    · by_cases eL : L = a 0
      · subst eL
        have model : ∀ M1 : Mem, Ca K Mc M1 → MOK t F M1 → P_X12_keepAside Mm (fun M9 => B_X12_who_51 (fun r2 Mm1 => nI (setP (whB V a (fun i x => decide (Mm 14 (40 * s + i) = nI x))) (a 2)) = r2 ∧ Inv (n + 1) K M1 Mm1) (nI s) (nI 0) (nI 0) M9) := fun M1 s1 mo1 => by
          refine m_keepAside mr (fun M3 k3 h3 => ?_)
          have mr3 : MR M3 a := fun k hk => by rw [k3 1 (by omega)]; exact mr k hk
          unfold B_X12_who_51
          intro Y hY
          have key : ∀ f l (M4 : Mem), l + f = a 2 → Mg M3 M4 → M4 3 = M3 3 → MR M4 a → Y (nI (setP (whB V a (fun i x => decide (Mm 14 (40 * s + i) = nI x))) l)) (nI l) M4 := by
            intro f
            induction f with
            | zero =>
              intro l M4 hl g4 e4 h4
              obtain rfl : l = a 2 := by omega
              apply hY
              rw [h4 2 (by omega)]
              refine br_t (nI_le (Nat.le_refl _) (by omega)) ⟨rfl, ?_⟩
              exact Inv.as hn hb ⟨hB, mr, d, v⟩ i1 i2 s1 mo1 (Mg.fk k3 g4) h4
            | succ f ih =>
              intro l M4 hl g4 e4 h4
              have hsl := setP_lt (whB V a (fun i x => decide (Mm 14 (40 * s + i) = nI x))) l
              have e14 : M4 14 = Mm 14 := by rw [g4.1 14 (by omega) (by omega) (by omega), k3 14 (by omega)]
              apply hY
              rw [h4 2 (by omega)]
              refine br_f (nI_ge (by omega) (by omega)) (m_stand (by omega) h4 d v (by omega) (fun i hi => by rw [e4]; exact h3 i hi) (fun M5 g5 e5 h5 => ?_))
              have n := ih (l + 1) M5 (by omega) (g4.tr g5) (by rw [e5, e4]) h5
              have e : setP (whB V a (fun i x => decide (Mm 14 (40 * s + i) = nI x))) (l + 1) = setP (whB V a (fun i x => decide (Mm 14 (40 * s + i) = nI x))) l + if whB V a (fun i x => decide (Mm 14 (40 * s + i) = nI x)) l = true then 2 ^ l else 0 := rfl
              rw [e] at n
              rw [e14]
              unfold B_X12_who_147
              rintro _ rfl _ rfl
              rw [nI_1]
              by_cases z : whB V a (fun i x => decide (Mm 14 (40 * s + i) = nI x)) l = true
              · rw [if_pos z] at n ⊢
                rw [show nI 1 <<< (nI l &&& nI 31) = (1 : Int32) <<< (nI l &&& 31) from rfl, or_bit hsl (by omega)]
                exact n
              · rw [if_neg z] at n ⊢
                rw [show nI 0 = (0 : Int32) from rfl, Int32.or_zero]
                exact n
          exact key (a 2) 0 M3 (by omega) Mg.rf rfl mr3
        simp (disch := omega) only [i_lit, l_0, l_1, l_2, l_3, l_5, l_6, l_8, l_9, l_23, l_24, l_48, l_57, l_69, l_100, in_e, ci_e, lt_t, lt_f, le_t, le_f, eq_t, eq_f, nI_add, Nat.add_zero, xl_t, xl_f, xg_t, xg_f, xle_t, xle_f, xge_t, xge_f, xe_f, ci_t, ci_f, cx_t, cx_f, cn_t, cn_f, cp_t, cp_f, vi_t, cl_nI, c_er, m_er, eq_self, true_and, and_true, true_implies, false_implies, implies_true, not_true_eq_false, not_false_eq_true, true_or, or_true, forall_eq, P_X11_who, P_X11_isSheet, P_X12_who, P_X12_isSheet, p3, p4, p5, p6, f0, g0]
        unfold B_X11_who_52
        intro X hX
        have key : ∀ f l (M1 : Mem), l + f = a 2 → Ca K Mc M1 → CX K t F M1 → X (nI (setP (whB V a (fun i x => decide (Mm 14 (40 * s + i) = nI x))) l)) (nI l) M1 := by
          intro f
          induction f with
          | zero =>
            intro l M1 hl s1 c1
            obtain rfl : l = a 2 := by omega
            apply hX
            rw [(s1.hb hB).1.1.2.2]
            exact br_t (nI_le (Nat.le_refl _) (by omega)) (model M1 s1 c1.1)
          | succ f ih =>
            intro l M1 hl s1 c1
            have hsl := setP_lt (whB V a (fun i x => decide (Mm 14 (40 * s + i) = nI x))) l
            have hB1 := s1.hb hB
            have er : M1 (22 + 2 * s) = Mc (22 + 2 * s) := s1.1 _ (by omega) (by omega) (fun j => by omega)
            have er1 : M1 (22 + 2 * s + 1) = Mc (22 + 2 * s + 1) := s1.1 _ (by omega) (by omega) (fun j => by omega)
            apply hX
            rw [hB1.1.1.2.2]
            refine br_f (nI_ge (by omega) (by omega)) (c_stand (q := fun i x => decide (Mm 14 (40 * s + i) = nI x)) (by omega) hB1 c1 d (by omega) (by rw [er]; exact p3) (fun i x hi hx => by rw [er1, decide_eq_true_eq]; exact p7 i hi x hx) (fun M2 s2 c2 => ?_))
            have n := ih (l + 1) M2 (by omega) (s1.tr s2) c2
            have e : setP (whB V a (fun i x => decide (Mm 14 (40 * s + i) = nI x))) (l + 1) = setP (whB V a (fun i x => decide (Mm 14 (40 * s + i) = nI x))) l + if whB V a (fun i x => decide (Mm 14 (40 * s + i) = nI x)) l = true then 2 ^ l else 0 := rfl
            rw [e] at n
            cases z : whB V a (fun i x => decide (Mm 14 (40 * s + i) = nI x)) l with
            | true =>
              rw [z, if_pos rfl] at n
              refine ⟨fun q => absurd q (by decide), fun _ => ?_⟩
              rintro _ rfl _ rfl
              rw [nI_1, or_bit hsl (by omega)]
              exact n
            | false =>
              rw [z, if_neg (by decide)] at n
              refine ⟨fun _ => ?_, fun q => absurd rfl q⟩
              rintro _ rfl
              rw [nI_1]
              exact n
        exact key (a 2) 0 Mc (by omega) Ca.rf c
      · simp (disch := omega) only [i_lit, l_0, l_1, l_2, l_3, l_5, l_6, l_8, l_9, l_23, l_24, l_48, l_57, l_69, l_100, in_e, ci_e, lt_t, lt_f, le_t, le_f, eq_t, eq_f, nI_add, Nat.add_zero, xl_t, xl_f, xg_t, xg_f, xle_t, xle_f, xge_t, xge_f, xe_f, ci_t, ci_f, cx_t, cx_f, cn_t, cn_f, cp_t, cp_f, vi_t, cl_nI, c_er, m_er, eq_self, true_and, and_true, true_implies, false_implies, implies_true, not_true_eq_false, not_false_eq_true, true_or, or_true, forall_eq, P_X11_who, P_X11_isSheet, P_X12_who, P_X12_isSheet, p3, p4, p5, p6, f0, g0]
        exact hE 2 (by omega)
  · simp (disch := omega) only [i_lit, l_0, l_1, l_2, l_3, l_5, l_6, l_8, l_9, l_23, l_24, l_48, l_57, l_69, l_100, in_e, ci_e, lt_t, lt_f, le_t, le_f, eq_t, eq_f, nI_add, Nat.add_zero, xl_t, xl_f, xg_t, xg_f, xle_t, xle_f, xge_t, xge_f, xe_f, ci_t, ci_f, cx_t, cx_f, cn_t, cn_f, cp_t, cp_f, vi_t, cl_nI, c_er, m_er, eq_self, true_and, and_true, true_implies, false_implies, implies_true, not_true_eq_false, not_false_eq_true, true_or, or_true, forall_eq, P_X11_who, P_X11_isSheet, P_X12_who, P_X12_isSheet]
    exact hE 1 (by omega)
  · simp (disch := omega) only [i_lit, l_0, l_1, l_2, l_3, l_5, l_6, l_8, l_9, l_23, l_24, l_48, l_57, l_69, l_100, in_e, ci_e, lt_t, lt_f, le_t, le_f, eq_t, eq_f, nI_add, Nat.add_zero, xl_t, xl_f, xg_t, xg_f, xle_t, xle_f, xge_t, xge_f, xe_f, ci_t, ci_f, cx_t, cx_f, cn_t, cn_f, cp_t, cp_f, vi_t, cl_nI, c_er, m_er, eq_self, true_and, and_true, true_implies, false_implies, implies_true, not_true_eq_false, not_false_eq_true, true_or, or_true, forall_eq, P_X11_who, P_X11_isSheet, P_X12_who, P_X12_isSheet]
    exact hE 1 (by omega)
