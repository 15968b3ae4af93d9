/-! ===== the class's reader of a text ===== -/
def lvI (v : Int32) : Int32 := if v = 37 then 5 else if v = 38 then 2 else if v = 42 then 5 else if v = 43 then 4 else if v = 45 then 4 else if v = 47 then 5 else if v = 60 then 3 else if v = 61 then 3 else if v = 62 then 3 else if v = 124 then 1 else 0
theorem lv_e {v : Int32} {R : Int32 → Prop} : P_X10_levelOf v R = R (lvI v) := by
  apply propext
  unfold P_X10_levelOf
  constructor
  · rintro ⟨h1, h2, h3, h4, h5, h6, h7, h8, h9, h10, h0⟩
    unfold lvI
    by_cases q1 : v = 37
    · rw [if_pos q1]; exact h1 q1
    · rw [if_neg q1]
      by_cases q2 : v = 38
      · rw [if_pos q2]; exact h2 q2
      · rw [if_neg q2]
        by_cases q3 : v = 42
        · rw [if_pos q3]; exact h3 q3
        · rw [if_neg q3]
          by_cases q4 : v = 43
          · rw [if_pos q4]; exact h4 q4
          · rw [if_neg q4]
            by_cases q5 : v = 45
            · rw [if_pos q5]; exact h5 q5
            · rw [if_neg q5]
              by_cases q6 : v = 47
              · rw [if_pos q6]; exact h6 q6
              · rw [if_neg q6]
                by_cases q7 : v = 60
                · rw [if_pos q7]; exact h7 q7
                · rw [if_neg q7]
                  by_cases q8 : v = 61
                  · rw [if_pos q8]; exact h8 q8
                  · rw [if_neg q8]
                    by_cases q9 : v = 62
                    · rw [if_pos q9]; exact h9 q9
                    · rw [if_neg q9]
                      by_cases q10 : v = 124
                      · rw [if_pos q10]; exact h10 q10
                      · rw [if_neg q10]; exact h0 q1 q2 q3 q4 q5 q6 q7 q8 q9 q10
  · intro h
    refine ⟨fun q => ?_, fun q => ?_, fun q => ?_, fun q => ?_, fun q => ?_, fun q => ?_, fun q => ?_, fun q => ?_, fun q => ?_, fun q => ?_, fun q1 q2 q3 q4 q5 q6 q7 q8 q9 q10 => ?_⟩
    · subst q; rw [show lvI 37 = 5 by decide] at h; exact h
    · subst q; rw [show lvI 38 = 2 by decide] at h; exact h
    · subst q; rw [show lvI 42 = 5 by decide] at h; exact h
    · subst q; rw [show lvI 43 = 4 by decide] at h; exact h
    · subst q; rw [show lvI 45 = 4 by decide] at h; exact h
    · subst q; rw [show lvI 47 = 5 by decide] at h; exact h
    · subst q; rw [show lvI 60 = 3 by decide] at h; exact h
    · subst q; rw [show lvI 61 = 3 by decide] at h; exact h
    · subst q; rw [show lvI 62 = 3 by decide] at h; exact h
    · subst q; rw [show lvI 124 = 1 by decide] at h; exact h
    · unfold lvI at h
      rw [if_neg q1, if_neg q2, if_neg q3, if_neg q4, if_neg q5, if_neg q6, if_neg q7, if_neg q8, if_neg q9, if_neg q10] at h
      exact h
theorem lv_n : ∀ c, c < 256 → lvI (nI c) = nI (lvl c) := by decide +kernel
def TOK (r m T : Nat) (M : Mem) : Prop := T = 0 ∨ ∃ c, c ≤ 255 ∧ M (r + 2) (T - 1) = nI c ∧ lvl c < m ∧ c ≠ 33
def Fr (r : Nat) (M M' : Mem) : Prop := (∀ k, k ≠ r → k ≠ r + 1 → k ≠ r + 2 → M' k = M k) ∧ M' r 0 = M r 0
theorem Fr.rf {r : Nat} {M : Mem} : Fr r M M := ⟨fun _ _ _ _ => rfl, rfl⟩
theorem Fr.tr {r : Nat} {M M' M'' : Mem} (h : Fr r M M') (h' : Fr r M' M'') : Fr r M M'' := ⟨fun k k0 k1 k2 => (h'.1 k k0 k1 k2).trans (h.1 k k0 k1 k2), h'.2.trans h.2⟩
def Sm (r L T : Nat) (M M' : Mem) : Prop := Fr r M M' ∧ (∀ k, k < L → M' (r + 1) k = M (r + 1) k) ∧ ∀ k, k < T → M' (r + 2) k = M (r + 2) k
theorem Sm.rf {r L T : Nat} {M : Mem} : Sm r L T M M := ⟨Fr.rf, fun _ _ => rfl, fun _ _ => rfl⟩
theorem Sm.tr {r L T L' T' : Nat} {M M' M'' : Mem} (h : Sm r L T M M') (h' : Sm r L' T' M' M'') (hL : L ≤ L') (hT : T ≤ T') : Sm r L T M M'' := ⟨h.1.tr h'.1, fun k hk => (h'.2.1 k (by omega)).trans (h.2.1 k hk), fun k hk => (h'.2.2 k (by omega)).trans (h.2.2 k hk)⟩
theorem TOK.sm {r m L T : Nat} {M M' : Mem} (h : TOK r m T M) (s : Sm r L T M M') : TOK r m T M' := by
  by_cases q : T = 0
  · exact Or.inl q
  · rcases h with h | ⟨c, h1, h2, h3⟩
    · exact Or.inl h
    · exact Or.inr ⟨c, h1, by rw [s.2.2 (T - 1) (by omega)]; exact h2, h3⟩
def At (r L T O : Nat) (M : Mem) : Prop := M r 3 = nI L ∧ M r 5 = nI T ∧ M r 6 = nI O
theorem c_code {K r L : Nat} {x : Int32} {M : Mem} {Q : Mem → Prop} (h : M r 3 = nI L) (hL : L < 50) (hQ : Q (sf (sf M (r + 1) L x) r 3 (nI (L + 1)))) : P_X10_addCode K M r x Q := by
  unfold P_X10_addCode
  simp (disch := omega) only [i_lit, l_0, l_1, l_2, l_3, l_5, l_6, l_8, l_9, l_23, l_24, l_48, l_57, l_69, l_100, in_e, ci_e, lt_t, lt_f, le_t, le_f, eq_t, eq_f, nI_add, Nat.add_zero, xl_t, xl_f, xg_t, xg_f, xle_t, xle_f, xge_t, xge_f, xe_f, ci_t, ci_f, cx_t, cx_f, cn_t, cn_f, cp_t, cp_f, vi_t, cl_nI, c_er, m_er, eq_self, true_and, and_true, true_implies, false_implies, implies_true, not_true_eq_false, not_false_eq_true, true_or, or_true, forall_eq, h, sf_ne]
  exact hQ
theorem se_base {K r m T : Nat} {M : Mem} {Q : Mem → Prop} (h5 : M r 5 = nI T) (hT : T ≤ 50) (hm : m ≤ 6) (tok : TOK r m T M) (hQ : Q M) : P_X10_settleDownTo K M r (nI m) Q := by
  unfold P_X10_settleDownTo B_X10_settleDownTo_0
  intro X hX
  apply hX
  rw [h5]
  by_cases q : T = 0
  · subst q
    exact br_t (by decide) hQ
  · rcases tok with t | ⟨c, c1, c2, c3, _⟩
    · exact absurd t q
    · obtain ⟨T, rfl⟩ : ∃ T', T = T' + 1 := ⟨T - 1, by omega⟩
      rw [nI_pred, cl_nI (by omega), lv_e]
      have c2 : M (r + 2) T = nI c := c2
      rw [c2, lv_n c (by omega)]
      exact br_f (nI_nle (by omega) (by omega)) ⟨vp_in_nI (by omega) (by omega), br_t (nI_lt c3 (by omega)) hQ⟩
theorem se_pop {K r m T L c : Nat} {M : Mem} {Q : Mem → Prop} (h3 : M r 3 = nI L) (h5 : M r 5 = nI (T + 1)) (hc : c ≤ 255) (e : M (r + 2) T = nI c) (hl : m ≤ lvl c) (hL : L < 50) (hT : T < 50) (hQ : P_X10_settleDownTo K (sf (sf (sf M r 5 (nI T)) (r + 1) L (-nI c)) r 3 (nI (L + 1))) r (nI m) Q) : P_X10_settleDownTo K M r (nI m) Q := by
  have hl5 := lvl_le c
  unfold P_X10_settleDownTo B_X10_settleDownTo_0 at *
  intro X hX
  apply hX
  rw [h5]
  refine br_f (nI_nle (by omega) (by omega)) ?_
  rw [nI_pred, cl_nI (by omega), lv_e, e, lv_n c (by omega)]
  refine ⟨vp_in_nI (by omega) (by omega), br_f (nI_nlt (by omega) (by omega)) ?_⟩
  rintro _ rfl _ rfl
  rw [sf_e rfl rfl, cl_nI (by omega), sf_ne (k' := r + 2) (by omega), e]
  exact ⟨vp_in_nI (by omega) (by omega), c_code (by rw [sf_j (by omega)]; exact h3) hL (hQ X hX)⟩
theorem code_mono {K r : Nat} {x : Int32} {M : Mem} {R1 R2 : Mem → Prop} (f : ∀ M, R1 M → R2 M) (h : P_X10_addCode K M r x R1) : P_X10_addCode K M r x R2 := ⟨fun z => f _ (h.1 z), fun z => ⟨(h.2 z).1, fun M2 e2 v4 e4 M5 e5 => f _ ((h.2 z).2 M2 e2 v4 e4 M5 e5)⟩⟩
theorem se_le {K r m m' : Nat} {M : Mem} {Q : Mem → Prop} (hm : m' ≤ m) (h6 : m ≤ 6) (h : P_X10_settleDownTo K M r (nI m) (fun M1 => P_X10_settleDownTo K M1 r (nI m') Q)) : P_X10_settleDownTo K M r (nI m') Q := by
  refine h (fun M => P_X10_settleDownTo K M r (nI m') Q) (fun M body => ?_)
  by_cases z : M r 5 ≤ 0
  · exact body.1 z
  · obtain ⟨b1, b2⟩ := body.2 z
    rw [lv_e] at b2
    by_cases y : lvI (M (r + 2) (M r 5 - 1).toNatClampNeg) < nI m
    · exact b2.1 y
    · have b3 := b2.2 y
      unfold P_X10_settleDownTo B_X10_settleDownTo_0
      intro X hX
      apply hX
      refine br_f z ⟨b1, ?_⟩
      rw [lv_e]
      refine ⟨fun q => absurd ?_ y, fun _ => ?_⟩
      · rw [Int32.lt_iff_toInt_lt, nI_toInt (by omega)] at *
        omega
      · intro v5 e5 M6 e6
        obtain ⟨c1, c2⟩ := b3 v5 e5 M6 e6
        exact ⟨c1, code_mono (fun M8 s => s X hX) c2⟩
theorem cn_end {K r T : Nat} {M : Mem} {Q : Mem → Prop} (h5 : M r 5 = nI T) (hT : T ≤ 50) (tk : T = 0 ∨ ∃ c, c ≤ 255 ∧ M (r + 2) (T - 1) = nI c ∧ c ≠ 33) (hQ : Q M) : P_X10_closeNots K M r Q := by
  unfold P_X10_closeNots B_X10_closeNots_0
  intro X hX
  apply hX
  rw [h5]
  by_cases q : T = 0
  · subst q
    exact br_t (by decide) hQ
  · rcases tk with t | ⟨c, c1, c2, c3⟩
    · exact absurd t q
    · obtain ⟨T, rfl⟩ : ∃ T', T = T' + 1 := ⟨T - 1, by omega⟩
      rw [nI_pred, cl_nI (by omega)]
      have c2 : M (r + 2) T = nI c := c2
      rw [c2]
      exact br_f (nI_nle (by omega) (by omega)) ⟨vp_in_nI (by omega) (by omega), fun _ => hQ, fun z => absurd ((eq_nI (b := 33) (by omega) (by omega)).mp z) c3⟩
theorem cn_step {K r T L O : Nat} {M : Mem} {Q : Mem → Prop} (h3 : M r 3 = nI L) (h5 : M r 5 = nI (T + 1)) (h6 : M r 6 = nI (O + 1)) (e : M (r + 2) T = nI 33) (hL : L < 50) (hT : T < 50) (hQ : P_X10_closeNots K (sf (sf (sf (sf M r 5 (nI T)) r 6 (nI O)) (r + 1) L (-33)) r 3 (nI (L + 1))) r Q) : P_X10_closeNots K M r Q := by
  unfold P_X10_closeNots B_X10_closeNots_0 at *
  intro X hX
  apply hX
  rw [h5]
  refine br_f (nI_nle (by omega) (by omega)) ?_
  rw [nI_pred, cl_nI (by omega), e]
  refine ⟨vp_in_nI (by omega) (by omega), fun z => absurd rfl z, fun _ => ?_⟩
  rintro _ rfl _ rfl
  rw [sf_j (by omega), h6]
  rintro _ rfl _ rfl
  rw [nI_pred]
  exact c_code (by rw [sf_j (by omega), sf_j (by omega)]; exact h3) hL (hQ X hX)
theorem c_push {K r T : Nat} {x : Int32} {M : Mem} {Q : Int32 → Mem → Prop} (h5 : M r 5 = nI T) (hT : T < 50) (hQ : Q (nI 1) (sf (sf M (r + 2) T x) r 5 (nI (T + 1)))) : P_X10_push K M r x Q := by
  unfold P_X10_push
  simp (disch := omega) only [i_lit, l_0, l_1, l_2, l_3, l_5, l_6, l_8, l_9, l_23, l_24, l_48, l_57, l_69, l_100, in_e, ci_e, lt_t, lt_f, le_t, le_f, eq_t, eq_f, nI_add, Nat.add_zero, xl_t, xl_f, xg_t, xg_f, xle_t, xle_f, xge_t, xge_f, xe_f, ci_t, ci_f, cx_t, cx_f, cn_t, cn_f, cp_t, cp_f, vi_t, cl_nI, c_er, m_er, eq_self, true_and, and_true, true_implies, false_implies, implies_true, not_true_eq_false, not_false_eq_true, true_or, or_true, forall_eq, h5, sf_ne]
  exact hQ
/-- settling down to a level leaves one value -/
def PD (K r m T L : Nat) (v : V3) (b O : Nat) (M : Mem) : Prop := ∀ Q : Mem → Prop, (∀ M' L', Sm r L T M M' → At r L' T O M' → L' + T ≤ b → Seg (M' (r + 1)) L L' v → Q M') → P_X10_settleDownTo K M r (nI m) Q
theorem PD.base {K r m T L L' b O : Nat} {v : V3} {M : Mem} (h : At r L' T O M) (hb : L' + T ≤ b) (hT : T ≤ 50) (hm : m ≤ 6) (s : Seg (M (r + 1)) L L' v) (tok : TOK r m T M) : PD K r m T L v b O M := fun Q hQ => se_base h.2.1 hT hm tok (hQ M L' Sm.rf h hb s)
theorem PD.weak {K r m m' T L b O : Nat} {v : V3} {M : Mem} (h : PD K r m T L v b O M) (hm : m' ≤ m) (h6 : m ≤ 6) (hb : b ≤ 50) (tok : TOK r m' T M) : PD K r m' T L v b O M := fun Q hQ => se_le hm h6 (h _ (fun M' L' s a hb2 sg => se_base a.2.1 (by omega) (by omega) (tok.sm s) (hQ M' L' s a hb2 sg)))
theorem PD.jo {K r m m' T L L2 b O c : Nat} {v w : V3} {M : Mem} (h : PD K r m (T + 1) L2 w b O M) (hc : c ≤ 255) (e : M (r + 2) T = nI c) (hl : m' ≤ lvl c) (h0 : lvl c ≠ 0) (hm : m' ≤ m) (h6 : m ≤ 6) (hb : b ≤ 50) (hL : L ≤ L2) (s : Seg (M (r + 1)) L L2 v) (tok : TOK r m' T M) : PD K r m' T L (jn c v w) b O M := fun Q hQ => se_le hm h6 (h _ (fun M' L' s1 a hb2 sg => by
  refine se_pop a.1 a.2.1 hc (by rw [s1.2.2 T (by omega)]; exact e) hl (by omega) (by omega) ?_
  have s2 : Sm r L' T M' (sf (sf (sf M' r 5 (nI T)) (r + 1) L' (-nI c)) r 3 (nI (L' + 1))) := ⟨⟨fun k k0 k1 k2 => by rw [sf_ne k0, sf_ne k1, sf_ne k0], by rw [sf_j (by omega), sf_ne (by omega), sf_j (by omega)]⟩, fun k hk => by rw [sf_ne (by omega), sf_j (by omega), sf_ne (by omega)], fun k hk => by rw [sf_ne (by omega), sf_ne (by omega), sf_ne (by omega)]⟩
  have a2 : At r (L' + 1) T O (sf (sf (sf M' r 5 (nI T)) (r + 1) L' (-nI c)) r 3 (nI (L' + 1))) := ⟨sf_e rfl rfl, by rw [sf_j (by omega), sf_ne (by omega), sf_e rfl rfl], by rw [sf_j (by omega), sf_ne (by omega), sf_j (by omega)]; exact a.2.2⟩
  have e2 : sf (sf (sf M' r 5 (nI T)) (r + 1) L' (-nI c)) r 3 (nI (L' + 1)) (r + 1) L' = -nI c := by rw [sf_ne (by omega), sf_e rfl rfl]
  generalize sf (sf (sf M' r 5 (nI T)) (r + 1) L' (-nI c)) r 3 (nI (L' + 1)) = M2 at *
  have hL2 := sg.1
  have s12 : Sm r L T M M2 := Sm.tr (L' := L') (T' := T) ⟨s1.1, fun k hk => s1.2.1 k (by omega), fun k hk => s1.2.2 k (by omega)⟩ s2 (by omega) (Nat.le_refl _)
  refine se_base a2.2.1 (by omega) (by omega) (tok.sm s12) (hQ M2 (L' + 1) s12 a2 (by omega) ?_)
  exact Seg.jo (s.cg (fun k k1 k2 => by rw [s2.2.1 k (by omega), s1.2.1 k k2])) (sg.cg (fun k k1 k2 => s2.2.1 k k2)) e2 h0))
theorem PD.b {K r m T L b b' O : Nat} {v : V3} {M : Mem} (h : PD K r m T L v b O M) (hb : b ≤ b') : PD K r m T L v b' O M := fun Q hQ => h Q (fun M' L' s a hb2 sg => hQ M' L' s a (by omega) sg)
/-- a comparison waits on top -/
def PCc (K r : Nat) (M : Mem) : Prop := ∀ Q : Mem → Prop, (∀ M1 T1 c, Fr r M M1 → M1 r 5 = nI (T1 + 1) → T1 < 50 → M1 (r + 2) T1 = nI c → lvl c = 3 → c ≤ 255 → Q M1) → P_X10_settleDownTo K M r (nI 4) Q
