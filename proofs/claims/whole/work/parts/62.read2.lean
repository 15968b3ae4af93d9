/-! ===== the class's reader, sign by sign ===== -/
def RB (K r u : Nat) (Q : Int32 → Mem → Prop) (X : Int32 → Int32 → Mem → Prop) (x4 : Int32) (x5 : Int32) (M : Mem) : Prop :=
  ((((M 38 1) ≤ x5 → ((¬ x4 = 0 → Q (M 38 1) M) ∧
      (x4 = 0 → (((M r 6) ≤ 0 → P_X10_settleDownTo K M r 1 (fun M5 => Q (-1) M5)) ∧
        (¬ (M r 6) ≤ 0 → Q (M 38 1) M))))) ∧
    (¬ (M 38 1) ≤ x5 → vp_in x5 (rLen 38) ∧ ∀ x6_7 : Int32, x6_7 = M (38 + 1) x5.toNatClampNeg → ∀ x7_8 : Int32, x7_8 = x5 + 1 → ((¬ x4 = 0 → P_X10_isDigit x6_7 (fun v10 => ((v10 = 0 → P_X10_isName u x6_7 (fun v12 => ((v12 = 0 → P_X10_opens K M r x6_7 (fun v14 M15 => ((¬ v14 = 0 → B_X10_read_167 K r 38 Q X u x4 x7_8 M15) ∧
            (v14 = 0 → Q x5 M15)))) ∧
          (¬ v12 = 0 → P_J0_indexOf_0f7a4 u ((x6_7.toUInt32 % 65536).toInt32) (fun v17 => P_X10_addValue K M r ((-1) - v17) (fun M18 => B_X10_read_167 K r 38 Q X u 0 x7_8 M18)))))) ∧
        (¬ v10 = 0 → P_X10_numberEnd K M 38 x5 (fun v19 => P_X10_numberOf K M 38 x5 v19 (fun v20 => P_X10_addValue K M r v20 (fun M21 => B_X10_read_167 K r 38 Q X u 0 v19 M21))))))) ∧
      (x4 = 0 → ((¬ x6_7 = 41 → P_X10_joins K M r x6_7 (fun v23 M24 => ((¬ v23 = 0 → B_X10_read_76 K r 38 Q X u x6_7 x7_8 M24) ∧
          (v23 = 0 → Q x5 M24)))) ∧
        (x6_7 = 41 → P_X10_closes K M r (fun v27 M28 => ((v27 = 0 → Q x5 M28) ∧
          (¬ v27 = 0 → B_X10_read_76 K r 38 Q X u x6_7 x7_8 M28))))))))))
def TPc (n : Nat) (bs : Nat → Nat) (M : Mem) : Prop := M 38 1 = nI n ∧ ∀ i, i < n → M 39 i = nI (bs i)
theorem TPc.fr {n r : Nat} {bs : Nat → Nat} {M M' : Mem} (h : TPc n bs M) (hr : 69 ≤ r) (f : Fr r M M') : TPc n bs M' := by
  unfold TPc
  rw [f.1 38 (by omega) (by omega) (by omega), f.1 39 (by omega) (by omega) (by omega)]
  exact h
theorem lg_t8 : ∀ u, u < 2 → ∀ c, c < 256 → (sB u 0 = (nI c).toInt8.toInt32 ↔ nm u c = 1) ∧ (sB u 1 = (nI c).toInt8.toInt32 ↔ nm u c = 2) ∧ (sB u 2 = (nI c).toInt8.toInt32 ↔ nm u c = 3) := by decide +kernel
theorem c_ixOf {u c : Nat} {R : Int32 → Prop} (hu : u < 2) (hc : c ≤ 255) (h : R (cI (nm u c))) : P_J0_indexOf_0f7a4 u (((nI c).toUInt32 % 65536).toInt32) R := by
  obtain ⟨t0, t1, t2⟩ := lg_t8 u hu c (by omega)
  have e : ((nI c).toUInt32 % 65536).toInt32 = nI c := by
    rw [pk_char, pk_tn (by omega)]
    congr 1
    omega
  have e3 : (3 : Int32) >>> ((0 : Int32) &&& 31) = nI 3 := by decide
  rw [e]
  unfold P_J0_indexOf_0f7a4 P_J0_indexOf_7cf53 P_J0_isLatin1_aae02 P_J0_length_8abf5 P_J0_coder_7d493
  refine ⟨fun z => absurd z (by decide), fun _ => ?_⟩
  show P_J1_indexOf_4cfef u (nI c) 0 ((3 : Int32) >>> ((0 : Int32) &&& 31)) R
  rw [e3]
  unfold P_J1_indexOf_4cfef P_J1_canEncode_9a6ad
  refine br_f (nI_pos (by omega)) (br_f (nI_nlt (b := c) (a := 255) (by omega) (by omega)) ⟨fun _ => ?_, fun z => absurd z (by decide)⟩)
  rintro _ rfl _ rfl
  refine ⟨fun _ => ?_, fun z => absurd (by decide) z⟩
  unfold P_J1_indexOfChar_4cfef
  rintro _ rfl
  unfold B_J1_indexOfChar_4cfef_7
  intro X hX
  rw [show (if (0 : Int32) < 0 then (0 : Int32) else 0) = nI 0 by decide, show (if (3 : Int32) < nI 3 then (3 : Int32) else nI 3) = nI 3 by decide] at *
  have hm := nm_le u c
  have x3 : (nm u c ≠ 1 ∧ nm u c ≠ 2 ∧ nm u c ≠ 3 → X (nI 3)) := fun q => by
    apply hX
    refine br_t (nI_le (Nat.le_refl _) (by omega)) ?_
    rw [show nm u c = 0 by omega] at h
    exact h
  have x2 : (nm u c ≠ 1 ∧ nm u c ≠ 2 → X (nI 2)) := fun q => by
    apply hX
    refine br_f (nI_ge (a := 2) (b := 3) (by omega) (by omega)) ⟨vp_in_nI (n := 2) (by omega) (by omega), fun z => ?_, fun z => ?_⟩
    · rintro _ rfl
      rw [nI_1]
      exact x3 ⟨q.1, q.2, fun e => z (t2.mpr e)⟩
    · rw [t2.mp z, cI_s] at h
      exact h
  have x1 : (nm u c ≠ 1 → X (nI 1)) := fun q => by
    apply hX
    refine br_f (nI_ge (a := 1) (b := 3) (by omega) (by omega)) ⟨vp_in_nI (n := 1) (by omega) (by omega), fun z => ?_, fun z => ?_⟩
    · rintro _ rfl
      rw [nI_1]
      exact x2 ⟨q, fun e => z (t1.mpr e)⟩
    · rw [t1.mp z, cI_s] at h
      exact h
  apply hX
  refine br_f (nI_ge (a := 0) (b := 3) (by omega) (by omega)) ⟨vp_in_nI (n := 0) (by omega) (by omega), fun z => ?_, fun z => ?_⟩
  · rintro _ rfl
    rw [nI_1]
    exact x1 (fun e => z (t0.mpr e))
  · rw [t0.mp z, cI_s] at h
    exact h
theorem c_isN {u c : Nat} {R : Int32 → Prop} (hu : u < 2) (hc : c ≤ 255) (h : R (if nm u c = 0 then nI 0 else nI 1)) : P_X10_isName u (nI c) R := by
  unfold P_X10_isName
  refine c_ixOf hu hc ?_
  have hm := nm_le u c
  by_cases q : nm u c = 0
  · rw [if_pos q] at h
    rw [q]
    exact br_t (by decide) h
  · rw [if_neg q] at h
    refine br_f ?_ h
    show ¬ cI (nm u c) < nI 0
    rw [cI_neg (by omega)]
    exact q
theorem c_isD {c : Nat} {R : Int32 → Prop} (hc : c ≤ 255) (h : R (if 48 ≤ c ∧ c ≤ 57 then nI 1 else nI 0)) : P_X10_isDigit (nI c) R := by
  unfold P_X10_isDigit
  by_cases q : 48 ≤ c ∧ c ≤ 57
  · rw [if_pos q] at h
    simp (disch := omega) only [i_lit, l_0, l_1, l_2, l_3, l_5, l_6, l_8, l_9, l_23, l_24, l_48, l_57, l_69, l_100, in_e, ci_e, lt_t, lt_f, le_t, le_f, eq_t, eq_f, nI_add, Nat.add_zero, xl_t, xl_f, xg_t, xg_f, xle_t, xle_f, xge_t, xge_f, xe_f, ci_t, ci_f, cx_t, cx_f, cn_t, cn_f, cp_t, cp_f, vi_t, cl_nI, c_er, m_er, eq_self, true_and, and_true, true_implies, false_implies, implies_true, not_true_eq_false, not_false_eq_true, true_or, or_true, forall_eq]
    exact h
  · rw [if_neg q] at h
    by_cases q2 : c < 48
    · simp (disch := omega) only [i_lit, l_0, l_1, l_2, l_3, l_5, l_6, l_8, l_9, l_23, l_24, l_48, l_57, l_69, l_100, in_e, ci_e, lt_t, lt_f, le_t, le_f, eq_t, eq_f, nI_add, Nat.add_zero, xl_t, xl_f, xg_t, xg_f, xle_t, xle_f, xge_t, xge_f, xe_f, ci_t, ci_f, cx_t, cx_f, cn_t, cn_f, cp_t, cp_f, vi_t, cl_nI, c_er, m_er, eq_self, true_and, and_true, true_implies, false_implies, implies_true, not_true_eq_false, not_false_eq_true, true_or, or_true, forall_eq]
      exact h
    · simp (disch := omega) only [i_lit, l_0, l_1, l_2, l_3, l_5, l_6, l_8, l_9, l_23, l_24, l_48, l_57, l_69, l_100, in_e, ci_e, lt_t, lt_f, le_t, le_f, eq_t, eq_f, nI_add, Nat.add_zero, xl_t, xl_f, xg_t, xg_f, xle_t, xle_f, xge_t, xge_f, xe_f, ci_t, ci_f, cx_t, cx_f, cn_t, cn_f, cp_t, cp_f, vi_t, cl_nI, c_er, m_er, eq_self, true_and, and_true, true_implies, false_implies, implies_true, not_true_eq_false, not_false_eq_true, true_or, or_true, forall_eq]
      exact h
section RD
variable {K r n u : Nat} {bs : Nat → Nat} {Q : Int32 → Mem → Prop} {X : Int32 → Int32 → Mem → Prop} {M : Mem}
theorem c_nEnd {R : Int32 → Prop} {p : Nat} (tp : TPc n bs M) (hn : n ≤ 50) (hb : ∀ i, i < n → bs i ≤ 255) (hp : p ≤ n) (h : R (nI (dgE bs n 4 p))) : P_X10_numberEnd K M 38 (nI p) R := by
  unfold P_X10_numberEnd
  rintro _ rfl
  have e : (if (nI p + 4) < M 38 1 then (nI p + 4) else M 38 1) = nI (if p + 4 < n then p + 4 else n) := by
    rw [tp.1, show nI p + 4 = nI (p + 4) from nI_add p 4]
    exact mn_nI (by omega) (by omega)
  rw [e]
  generalize hv : (if p + 4 < n then p + 4 else n) = w at *
  have hw : w ≤ n ∧ w ≤ p + 4 ∧ (w = n ∨ w = p + 4) := by
    rw [← hv]
    split <;> omega
  unfold B_X10_numberEnd_13
  intro Y hY
  have key : ∀ f i, i + f = p + 4 → i ≤ n → dgE bs n f i = dgE bs n 4 p → Y (nI i) := by
    intro f
    induction f with
    | zero =>
      intro i hi hin e
      apply hY
      refine br_t (nI_le (by omega) (by omega)) ?_
      have e : i = dgE bs n 4 p := e
      rw [e]
      exact h
    | succ f ih =>
      intro i hi hin e
      have e : (if i < n ∧ 48 ≤ bs i ∧ bs i ≤ 57 then dgE bs n f (i + 1) else i) = dgE bs n 4 p := e
      apply hY
      by_cases q : i < n
      · refine br_f (nI_ge (by omega) (by omega)) ⟨by rw [r38]; exact vp_in_nI (by omega) (by omega), ?_⟩
        rw [cl_nI (by omega), tp.2 i q]
        refine c_isD (hb i q) ?_
        by_cases q2 : 48 ≤ bs i ∧ bs i ≤ 57
        · rw [if_pos q2]
          rw [if_pos ⟨q, q2⟩] at e
          refine ⟨fun z => absurd z (by decide), fun _ => ?_⟩
          rintro _ rfl
          rw [nI_1]
          exact ih (i + 1) (by omega) (by omega) e
        · rw [if_neg q2]
          rw [if_neg (fun z => q2 z.2)] at e
          refine ⟨fun _ => ?_, fun z => absurd rfl z⟩
          rw [e]
          exact h
      · rw [if_neg (fun z => q z.1)] at e
        refine br_t (nI_le (by omega) (by omega)) ?_
        rw [e]
        exact h
  exact key 4 p (by omega) hp rfl
theorem c_nOf {R : Int32 → Prop} {p : Nat} (tp : TPc n bs M) (hn : n ≤ 50) (hp : p ≤ n) (h : R (nI (dgV bs n 4 p 0))) : P_X10_numberOf K M 38 (nI p) (nI (dgE bs n 4 p)) R := by
  have hE := dgE_b (bs := bs) (n := n) 4 p hp
  unfold P_X10_numberOf B_X10_numberOf_5
  intro Y hY
  have key : ∀ f i v, i ≤ n → dgE bs n f i = dgE bs n 4 p → dgV bs n f i v = dgV bs n 4 p 0 → Y (nI v) (nI i) := by
    intro f
    induction f with
    | zero =>
      intro i v hin e1 e2
      have e1 : i = dgE bs n 4 p := e1
      have e2 : v = dgV bs n 4 p 0 := e2
      apply hY
      rw [← e1]
      refine br_t (nI_le (Nat.le_refl _) (by omega)) ?_
      rw [e2]
      exact h
    | succ f ih =>
      intro i v hin e1 e2
      have e1 : (if i < n ∧ 48 ≤ bs i ∧ bs i ≤ 57 then dgE bs n f (i + 1) else i) = dgE bs n 4 p := e1
      have e2 : (if i < n ∧ 48 ≤ bs i ∧ bs i ≤ 57 then dgV bs n f (i + 1) (10 * v + bs i - 48) else v) = dgV bs n 4 p 0 := e2
      apply hY
      by_cases q : i < n ∧ 48 ≤ bs i ∧ bs i ≤ 57
      · rw [if_pos q] at e1 e2
        have := dgE_b (bs := bs) (n := n) f (i + 1) (by omega)
        refine br_f (nI_ge (by omega) (by omega)) ⟨by rw [r38]; exact vp_in_nI (by omega) (by omega), ?_⟩
        rw [cl_nI (by omega), tp.2 i q.1]
        rintro _ rfl _ rfl
        rw [nI_1, show nI v * 10 = nI (v * 10) from pk_mul v 10, nI_add, show (48 : Int32) = nI 48 from rfl, sb_nI (by omega), Nat.mul_comm v 10]
        exact ih (i + 1) _ (by omega) e1 e2
      · rw [if_neg q] at e1 e2
        rw [← e1]
        refine br_t (nI_le (Nat.le_refl _) (by omega)) ?_
        rw [e2]
        exact h
  exact key 4 p 0 hp rfl rfl
def RX (K r u : Nat) (Q : Int32 → Mem → Prop) (X : Int32 → Int32 → Mem → Prop) : Prop := ∀ x4 x5 M, RB K r u Q X x4 x5 M → X x4 x5 M
theorem rw_end {p : Nat} (hX : RX K r u Q X) (tp : TPc n bs M) (hn : n ≤ 50) (hp : n ≤ p) (hp2 : p ≤ 50) (q : Q (nI n) M) : X (nI 1) (nI p) M := by
  apply hX
  unfold RB
  rw [tp.1]
  exact br_t (nI_le hp (by omega)) ⟨fun _ => q, fun z => absurd z (by decide)⟩
theorem rn_end0 {p : Nat} (hX : RX K r u Q X) (tp : TPc n bs M) (hp : n ≤ p) (hp2 : p ≤ 50) (h6 : M r 6 = nI 0) (q : P_X10_settleDownTo K M r (nI 1) (fun M5 => Q (-1) M5)) : X (nI 0) (nI p) M := by
  apply hX
  unfold RB
  rw [tp.1, h6]
  exact br_t (nI_le hp (by omega)) ⟨fun z => absurd rfl z, fun _ => br_t (by decide) q⟩
theorem rn_end1 {p O : Nat} (hX : RX K r u Q X) (tp : TPc n bs M) (hp : n ≤ p) (hp2 : p ≤ 50) (h6 : M r 6 = nI (O + 1)) (hO : O < 50) (q : Q (nI n) M) : X (nI 0) (nI p) M := by
  apply hX
  unfold RB
  rw [tp.1, h6]
  exact br_t (nI_le hp (by omega)) ⟨fun z => absurd rfl z, fun _ => br_f (nI_nle (by omega) (by omega)) q⟩
theorem rb_in {p : Nat} {x4 : Int32} (hX : RX K r u Q X) (tp : TPc n bs M) (hn : n ≤ 50) (hp : p < n)
    (h1 : ¬ x4 = 0 → P_X10_isDigit (nI (bs p)) (fun v10 => ((v10 = 0 → P_X10_isName u (nI (bs p)) (fun v12 => ((v12 = 0 → P_X10_opens K M r (nI (bs p)) (fun v14 M15 => ((¬ v14 = 0 → X x4 (nI (p + 1)) M15) ∧ (v14 = 0 → Q (nI p) M15)))) ∧
          (¬ v12 = 0 → P_J0_indexOf_0f7a4 u (((nI (bs p)).toUInt32 % 65536).toInt32) (fun v17 => P_X10_addValue K M r ((-1) - v17) (fun M18 => X 0 (nI (p + 1)) M18)))))) ∧
        (¬ v10 = 0 → P_X10_numberEnd K M 38 (nI p) (fun v19 => P_X10_numberOf K M 38 (nI p) v19 (fun v20 => P_X10_addValue K M r v20 (fun M21 => X 0 v19 M21)))))))
    (h0 : x4 = 0 → ((¬ nI (bs p) = 41 → P_X10_joins K M r (nI (bs p)) (fun v23 M24 => ((¬ v23 = 0 → X 1 (nI (p + 1)) M24) ∧ (v23 = 0 → Q (nI p) M24)))) ∧
        (nI (bs p) = 41 → P_X10_closes K M r (fun v27 M28 => ((v27 = 0 → Q (nI p) M28) ∧ (¬ v27 = 0 → X 0 (nI (p + 1)) M28)))))) : X x4 (nI p) M := by
  apply hX
  unfold RB B_X10_read_167 B_X10_read_76 B_X10_read_167
  rw [tp.1]
  refine br_f (nI_ge hp (by omega)) ⟨by rw [r38]; exact vp_in_nI (by omega) (by omega), ?_⟩
  rw [cl_nI (by omega)]
  rintro _ rfl _ rfl
  rw [show M (38 + 1) p = nI (bs p) from tp.2 p hp, nI_1]
  refine ⟨h1, fun z => ⟨fun z2 => ?_, fun z2 => ?_⟩⟩
  · have := (h0 z).1 z2
    have eq : ∀ M24 : Mem, ((nI (bs p) = 41 → X 0 (nI (p + 1)) M24) ∧ (¬ nI (bs p) = 41 → X 1 (nI (p + 1)) M24)) = X 1 (nI (p + 1)) M24 := fun M24 => propext ⟨fun h => h.2 z2, fun h => ⟨fun q => absurd q z2, fun _ => h⟩⟩
    simp only [eq]
    exact this
  · have := (h0 z).2 z2
    have eq : ∀ M24 : Mem, ((nI (bs p) = 41 → X 0 (nI (p + 1)) M24) ∧ (¬ nI (bs p) = 41 → X 1 (nI (p + 1)) M24)) = X 0 (nI (p + 1)) M24 := fun M24 => propext ⟨fun h => h.1 z2, fun h => ⟨fun _ => h, fun q => absurd z2 q⟩⟩
    simp only [eq]
    exact this
end RD
