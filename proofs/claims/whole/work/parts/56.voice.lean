/-! ===== voices ===== -/
def psh (x : Int32) (s : Nat × (Nat → Int32)) : Nat × (Nat → Int32) := if 40 ≤ s.1 then s else (s.1 + 1, upd s.2 s.1 x)
theorem psh_le {x : Int32} {s : Nat × (Nat → Int32)} (h : s.1 ≤ 40) : (psh x s).1 ≤ 40 := by
  unfold psh
  split
  · exact h
  · show s.1 + 1 ≤ 40
    omega
def tCc (M : Mem) (s : Nat × (Nat → Int32)) : Prop := s.1 ≤ 40 ∧ M 5 1 = nI s.1 ∧ ∀ i, i < s.1 → M 6 i = s.2 i
def tCm (M : Mem) (s : Nat × (Nat → Int32)) : Prop := s.1 ≤ 40 ∧ M 0 23 = nI s.1 ∧ ∀ i, i < s.1 → M 11 i = s.2 i
/-- but the trace -/
def Ct (M M' : Mem) : Prop := ∀ k, k ≠ 5 → k ≠ 6 → M' k = M k
theorem Ct.rf {M : Mem} : Ct M M := fun _ _ _ => rfl
theorem Ct.tr {M M' M'' : Mem} (h : Ct M M') (h' : Ct M' M'') : Ct M M'' := fun k h1 h2 => (h' k h1 h2).trans (h k h1 h2)
def Mt (M M' : Mem) : Prop := (∀ k, k ≠ 0 → k ≠ 11 → M' k = M k) ∧ ∀ j, j ≠ 23 → M' 0 j = M 0 j
theorem Mt.rf {M : Mem} : Mt M M := ⟨fun _ _ _ => rfl, fun _ _ => rfl⟩
theorem Mt.tr {M M' M'' : Mem} (h : Mt M M') (h' : Mt M' M'') : Mt M M'' := ⟨fun k h1 h2 => (h'.1 k h1 h2).trans (h.1 k h1 h2), fun j h1 => (h'.2 j h1).trans (h.2 j h1)⟩
theorem r5 : rLen 5 = 40 := rfl
theorem c_tadd {K : Nat} {x : Int32} {M : Mem} {s : Nat × (Nat → Int32)} {Q : Mem → Prop} (h : tCc M s) (hQ : ∀ M' : Mem, Ct M M' → tCc M' (psh x s) → Q M') : P_X4_add K M 5 x Q := by
  obtain ⟨h0, h1, h2⟩ := h
  by_cases q : 40 ≤ s.1
  · have e : psh x s = s := if_pos q
    rw [e] at hQ
    simp (disch := omega) only [i_lit, l_0, l_1, l_2, l_3, l_5, l_6, l_8, l_9, l_23, l_24, l_48, l_57, l_69, l_100, in_e, ci_e, lt_t, lt_f, le_t, le_f, eq_t, eq_f, nI_add, Nat.add_zero, xl_t, xl_f, xg_t, xg_f, xle_t, xle_f, xge_t, xge_f, xe_f, ci_t, ci_f, cx_t, cx_f, cn_t, cn_f, cp_t, cp_f, vi_t, cl_nI, c_er, m_er, eq_self, true_and, and_true, true_implies, false_implies, implies_true, not_true_eq_false, not_false_eq_true, true_or, or_true, forall_eq, P_X4_add, r5, ofNat_nI, h1]
    exact hQ M Ct.rf ⟨h0, h1, h2⟩
  · have e : psh x s = (s.1 + 1, upd s.2 s.1 x) := if_neg q
    rw [e] at hQ
    simp (disch := omega) only [i_lit, l_0, l_1, l_2, l_3, l_5, l_6, l_8, l_9, l_23, l_24, l_48, l_57, l_69, l_100, in_e, ci_e, lt_t, lt_f, le_t, le_f, eq_t, eq_f, nI_add, Nat.add_zero, xl_t, xl_f, xg_t, xg_f, xle_t, xle_f, xge_t, xge_f, xe_f, ci_t, ci_f, cx_t, cx_f, cn_t, cn_f, cp_t, cp_f, vi_t, cl_nI, c_er, m_er, eq_self, true_and, and_true, true_implies, false_implies, implies_true, not_true_eq_false, not_false_eq_true, true_or, or_true, forall_eq, P_X4_add, r5, ofNat_nI, h1, sf_ne]
    refine hQ _ (fun k k5 k6 => by rw [sf_ne k5, sf_ne k6]) ⟨by show s.1 + 1 ≤ 40; omega, sf_e rfl rfl, fun i hi => ?_⟩
    have hi : i < s.1 + 1 := hi
    show _ = upd s.2 s.1 x i
    rw [sf_ne (by omega)]
    by_cases q2 : i = s.1
    · rw [q2, sf_e rfl rfl, pk_us]
    · rw [sf_j q2, pk_un q2]
      exact h2 i (by omega)
theorem m_ran {x : Int32} {M : Mem} {s : Nat × (Nat → Int32)} {Q : Mem → Prop} (h : tCm M s) (hQ : ∀ M' : Mem, Mt M M' → tCm M' (psh x s) → Q M') : P_X12_ran M x Q := by
  obtain ⟨h0, h1, h2⟩ := h
  by_cases q : 40 ≤ s.1
  · have e : psh x s = s := if_pos q
    rw [e] at hQ
    simp (disch := omega) only [i_lit, l_0, l_1, l_2, l_3, l_5, l_6, l_8, l_9, l_23, l_24, l_48, l_57, l_69, l_100, in_e, ci_e, lt_t, lt_f, le_t, le_f, eq_t, eq_f, nI_add, Nat.add_zero, xl_t, xl_f, xg_t, xg_f, xle_t, xle_f, xge_t, xge_f, xe_f, ci_t, ci_f, cx_t, cx_f, cn_t, cn_f, cp_t, cp_f, vi_t, cl_nI, c_er, m_er, eq_self, true_and, and_true, true_implies, false_implies, implies_true, not_true_eq_false, not_false_eq_true, true_or, or_true, forall_eq, P_X12_ran, h1]
    exact hQ M Mt.rf ⟨h0, h1, h2⟩
  · have e : psh x s = (s.1 + 1, upd s.2 s.1 x) := if_neg q
    rw [e] at hQ
    simp (disch := omega) only [i_lit, l_0, l_1, l_2, l_3, l_5, l_6, l_8, l_9, l_23, l_24, l_48, l_57, l_69, l_100, in_e, ci_e, lt_t, lt_f, le_t, le_f, eq_t, eq_f, nI_add, Nat.add_zero, xl_t, xl_f, xg_t, xg_f, xle_t, xle_f, xge_t, xge_f, xe_f, ci_t, ci_f, cx_t, cx_f, cn_t, cn_f, cp_t, cp_f, vi_t, cl_nI, c_er, m_er, eq_self, true_and, and_true, true_implies, false_implies, implies_true, not_true_eq_false, not_false_eq_true, true_or, or_true, forall_eq, P_X12_ran, h1, sf_ne]
    refine hQ _ ⟨fun k k5 k6 => by rw [sf_ne k5, sf_ne k6], fun j hj => by rw [sf_j hj, sf_ne (by omega)]⟩ ⟨by show s.1 + 1 ≤ 40; omega, sf_e rfl rfl, fun i hi => ?_⟩
    have hi : i < s.1 + 1 := hi
    show _ = upd s.2 s.1 x i
    rw [sf_ne (by omega)]
    by_cases q2 : i = s.1
    · rw [q2, sf_e rfl rfl, pk_us]
    · rw [sf_j q2, pk_un q2]
      exact h2 i (by omega)
/-- what each kind's bodies leave in the trace, and give -/
def wS (k : Nat) (s : Nat × (Nat → Int32)) : Nat × (Nat → Int32) := if k = 2 ∨ k = 5 then psh 10 (psh 30 s) else psh 10 s
def wR (k : Nat) (n x : Int32) : Int32 := if k = 2 ∨ k = 5 then (x + n) * 3 else x + n
def sS (k : Nat) (s : Nat × (Nat → Int32)) : Nat × (Nat → Int32) := if k = 3 then psh 12 (psh 40 s) else if k = 6 then psh 12 (psh 40 (psh 70 s)) else psh 12 s
def sR (k : Nat) (n m x : Int32) : Int32 := if k = 3 then -(x - m) else if k = 6 then (-(x - m)) ^^^ n else x - m
def bS (k : Nat) (s : Nat × (Nat → Int32)) : Nat × (Nat → Int32) := wS k (psh 11 s)
def pS (k : Nat) (s : Nat × (Nat → Int32)) : Nat × (Nat → Int32) := if k = 1 then psh 12 (bS 1 (psh 20 s)) else if k = 4 then psh 12 (bS 4 (psh 20 (psh 50 s))) else bS k s
def pR (k : Nat) (n m x : Int32) : Int32 := if k = 1 then wR 1 n x * 2 - (1 - m) else if k = 4 then wR 4 n (x + 1) * 2 - (1 - m) else wR k n x * 2
def tbS (k : Nat) (s : Nat × (Nat → Int32)) : Nat × (Nat → Int32) := sS k (pS k (psh 13 s))
def tbR (k : Nat) (n m x : Int32) : Int32 := pR k n m x ^^^ sR k n m x
def tS (k : Nat) (s : Nat × (Nat → Int32)) : Nat × (Nat → Int32) := if k = 5 then wS 5 (tbS 5 (psh 60 s)) else if k = 6 then tbS 6 (pS 6 (psh 71 s)) else tbS k s
def tR (k : Nat) (n m x : Int32) : Int32 := if k = 5 then tbR 5 n m x - wR 5 n 2 else if k = 6 then pR 6 n m x - tbR 6 n m x else tbR k n m x
section VC
variable {K : Nat} {n m : Int32} {s : Nat × (Nat → Int32)} {M : Mem} {Q : Int32 → Mem → Prop}
theorem c_w3 {g x : Int32} (h : tCc M s) (hQ : ∀ M' : Mem, Ct M M' → tCc M' (psh 10 s) → Q (x + n) M') : P_X3_wakes K M g n m x 5 Q := by
  unfold P_X3_wakes
  exact c_tadd h hQ
theorem c_w7 {g x : Int32} (h : tCc M s) (hQ : ∀ M' : Mem, Ct M M' → tCc M' (psh 10 (psh 30 s)) → Q ((x + n) * 3) M') : P_X7_wakes K M g n m x 5 Q := by
  unfold P_X7_wakes
  exact c_tadd h (fun M1 k1 h1 => c_w3 h1 (fun M2 k2 h2 => hQ M2 (k1.tr k2) h2))
theorem c_wk {k : Nat} {x : Int32} (hk : k ≤ 6) (h : tCc M s) (hQ : ∀ M' : Mem, Ct M M' → tCc M' (wS k s) → Q (wR k n x) M') : P_L_X3_wakes K M (nI (15 + k)) n m x 5 Q := by
  unfold P_L_X3_wakes
  rcases k7 hk with rfl | rfl | rfl | rfl | rfl | rfl | rfl <;> refine ⟨fun q => ?_, fun q => ?_, fun q => ?_, fun q => ?_, fun q => ?_, fun q => ?_, fun q => ?_⟩ <;> first | exact absurd q (by decide) | exact c_w3 h hQ | exact c_w7 h hQ
theorem c_sh3 {g x : Int32} (h : tCc M s) (hQ : ∀ M' : Mem, Ct M M' → tCc M' (psh 12 s) → Q (x - m) M') : P_X3_shuts K M g n m x 5 Q := by
  unfold P_X3_shuts
  exact c_tadd h hQ
theorem c_sh6 {g x : Int32} (h : tCc M s) (hQ : ∀ M' : Mem, Ct M M' → tCc M' (psh 12 (psh 40 s)) → Q (-(x - m)) M') : P_X6_shuts K M g n m x 5 Q := by
  unfold P_X6_shuts
  exact c_tadd h (fun M1 k1 h1 => c_sh3 h1 (fun M2 k2 h2 => hQ M2 (k1.tr k2) h2))
theorem c_sh8 {g x : Int32} (h : tCc M s) (hQ : ∀ M' : Mem, Ct M M' → tCc M' (psh 12 (psh 40 (psh 70 s))) → Q ((-(x - m)) ^^^ n) M') : P_X8_shuts K M g n m x 5 Q := by
  unfold P_X8_shuts
  exact c_tadd h (fun M1 k1 h1 => c_sh6 h1 (fun M2 k2 h2 => hQ M2 (k1.tr k2) h2))
theorem c_shu {k : Nat} {x : Int32} (hk : k ≤ 6) (h : tCc M s) (hQ : ∀ M' : Mem, Ct M M' → tCc M' (sS k s) → Q (sR k n m x) M') : P_L_X3_shuts K M (nI (15 + k)) n m x 5 Q := by
  unfold P_L_X3_shuts
  rcases k7 hk with rfl | rfl | rfl | rfl | rfl | rfl | rfl <;> refine ⟨fun q => ?_, fun q => ?_, fun q => ?_, fun q => ?_, fun q => ?_, fun q => ?_, fun q => ?_⟩ <;> first | exact absurd q (by decide) | exact c_sh3 h hQ | exact c_sh6 h hQ | exact c_sh8 h hQ
theorem c_p3 {k : Nat} {x : Int32} (hk : k ≤ 6) (h : tCc M s) (hQ : ∀ M' : Mem, Ct M M' → tCc M' (bS k s) → Q (wR k n x * 2) M') : P_X3_pulls K M (nI (15 + k)) n m x 5 Q := by
  unfold P_X3_pulls
  exact c_tadd h (fun M1 k1 h1 => c_wk hk h1 (fun M2 k2 h2 => hQ M2 (k1.tr k2) h2))
theorem c_p0 {k : Nat} {x : Int32} (hk : k = 1 ∨ k = 4) (h : tCc M s) (hQ : ∀ M' : Mem, Ct M M' → tCc M' (psh 12 (bS k (psh 20 s))) → Q (wR k n x * 2 - (1 - m)) M') : P_X0_pulls K M (nI (15 + k)) n m x 5 Q := by
  unfold P_X0_pulls P_L_X0_shuts
  refine c_tadd h (fun M1 k1 h1 => c_p3 (by omega) h1 (fun M2 k2 h2 => ⟨fun _ => ?_, fun _ => ?_⟩))
  · exact c_sh3 h2 (fun M3 k3 h3 => hQ M3 ((k1.tr k2).tr k3) h3)
  · exact c_sh3 h2 (fun M3 k3 h3 => hQ M3 ((k1.tr k2).tr k3) h3)
theorem c_p1 {x : Int32} (h : tCc M s) (hQ : ∀ M' : Mem, Ct M M' → tCc M' (psh 12 (bS 4 (psh 20 (psh 50 s)))) → Q (wR 4 n (x + 1) * 2 - (1 - m)) M') : P_X1_pulls K M (nI (15 + 4)) n m x 5 Q := by
  unfold P_X1_pulls
  exact c_tadd h (fun M1 k1 h1 => c_p0 (Or.inr rfl) h1 (fun M2 k2 h2 => hQ M2 (k1.tr k2) h2))
theorem c_pul {k : Nat} {x : Int32} (hk : k ≤ 6) (h : tCc M s) (hQ : ∀ M' : Mem, Ct M M' → tCc M' (pS k s) → Q (pR k n m x) M') : P_L_X3_pulls K M (nI (15 + k)) n m x 5 Q := by
  unfold P_L_X3_pulls
  rcases k7 hk with rfl | rfl | rfl | rfl | rfl | rfl | rfl <;> refine ⟨fun q => ?_, fun q => ?_, fun q => ?_, fun q => ?_, fun q => ?_, fun q => ?_, fun q => ?_⟩ <;> first | exact absurd q (by decide) | exact c_p3 (by omega) h hQ | exact c_p0 (Or.inl rfl) h hQ | exact c_p1 h hQ
theorem c_t3 {k : Nat} {x : Int32} (hk : k ≤ 6) (h : tCc M s) (hQ : ∀ M' : Mem, Ct M M' → tCc M' (tbS k s) → Q (tbR k n m x) M') : P_X3_tells K M (nI (15 + k)) n m x 5 Q := by
  unfold P_X3_tells
  exact c_tadd h (fun M1 k1 h1 => c_pul hk h1 (fun M2 k2 h2 => c_shu hk h2 (fun M3 k3 h3 => hQ M3 ((k1.tr k2).tr k3) h3)))
theorem c_t8 {x : Int32} (h : tCc M s) (hQ : ∀ M' : Mem, Ct M M' → tCc M' (tbS 6 (pS 6 (psh 71 s))) → Q (pR 6 n m x - tbR 6 n m x) M') : P_X8_tells K M (nI (15 + 6)) n m x 5 Q := by
  unfold P_X8_tells P_L_X8_pulls
  exact c_tadd h (fun M1 k1 h1 _ => c_p3 (by omega) h1 (fun M2 k2 h2 => c_t3 (by omega) h2 (fun M3 k3 h3 => hQ M3 ((k1.tr k2).tr k3) h3)))
theorem c_t9 {x : Int32} (h : tCc M s) (hQ : ∀ M' : Mem, Ct M M' → tCc M' (wS 5 (tbS 5 (psh 60 s))) → Q (tbR 5 n m x - wR 5 n 2) M') : P_X9_tells K M (nI (15 + 5)) n m x 5 Q := by
  unfold P_X9_tells P_L_X9_wakes
  exact c_tadd h (fun M1 k1 h1 => c_t3 (by omega) h1 (fun M2 k2 h2 _ => c_w7 h2 (fun M3 k3 h3 => hQ M3 ((k1.tr k2).tr k3) h3)))
theorem c_tel {k : Nat} {x : Int32} (hk : k ≤ 6) (h : tCc M s) (hQ : ∀ M' : Mem, Ct M M' → tCc M' (tS k s) → Q (tR k n m x) M') : P_L_X3_tells K M (nI (15 + k)) n m x 5 Q := by
  unfold P_L_X3_tells
  unfold tS tR at hQ
  by_cases h5 : k = 5
  · subst h5
    rw [if_pos rfl, if_pos rfl] at hQ
    have base := c_t9 (K := K) h hQ
    exact ⟨fun q => absurd q (by decide), fun q => absurd q (by decide), fun q => absurd q (by decide), fun q => absurd q (by decide), fun q => absurd q (by decide), fun _ => base, fun q => absurd q (by decide)⟩
  · rw [if_neg h5, if_neg h5] at hQ
    by_cases h6 : k = 6
    · subst h6
      rw [if_pos rfl, if_pos rfl] at hQ
      have base := c_t8 (K := K) h hQ
      exact ⟨fun q => absurd q (by decide), fun q => absurd q (by decide), fun q => absurd q (by decide), fun q => absurd q (by decide), fun q => absurd q (by decide), fun q => absurd q (by decide), fun _ => base⟩
    · rw [if_neg h6, if_neg h6] at hQ
      have base := c_t3 (K := K) hk h hQ
      refine ⟨fun _ => base, fun _ => base, fun _ => base, fun _ => base, fun _ => base, fun q => ?_, fun q => ?_⟩
      · have := (eq_nI (a := 15 + k) (b := 20) (by omega) (by omega)).mp q
        omega
      · have := (eq_nI (a := 15 + k) (b := 21) (by omega) (by omega)).mp q
        omega
end VC
section VM
variable {s : Nat × (Nat → Int32)} {M : Mem} {Q : Int32 → Mem → Prop}
theorem m_w0 {f : Nat} {x : Int32} (h : tCm M s) (hQ : ∀ M' : Mem, Mt M M' → tCm M' (psh 10 s) → Q (x + M 0 24) M') : P_X12_wakesBy (f + 1) M (nI 0) x Q := by
  show Pb_X12_wakesBy _ _ _ _ _
  refine ⟨fun _ => m_ran h (fun M1 k1 h1 => ?_), fun q => absurd q (by decide), fun q => absurd rfl q⟩
  rw [k1.2 24 (by omega)]
  exact hQ M1 k1 h1
theorem m_w2 {f : Nat} {x : Int32} (h : tCm M s) (hQ : ∀ M' : Mem, Mt M M' → tCm M' (psh 10 (psh 30 s)) → Q ((x + M 0 24) * 3) M') : P_X12_wakesBy (f + 2) M (nI 2) x Q := by
  show Pb_X12_wakesBy _ _ _ _ _
  refine ⟨fun q => absurd q (by decide), fun _ => m_ran h (fun M1 k1 h1 => ?_), fun _ q => absurd rfl q⟩
  rw [show (2 : Int32) = nI 2 from rfl, m_above (by omega)]
  refine m_w0 h1 (fun M2 k2 h2 => ?_)
  rw [k1.2 24 (by omega)]
  exact hQ M2 (k1.tr k2) h2
theorem m_wd {f k : Nat} {x : Int32} (hk : k ≤ 6) (h0 : k ≠ 0) (h2 : k ≠ 2) : P_X12_wakesBy (f + 1) M (nI k) x Q = P_X12_wakesBy f M (nI (kaN k)) x (fun v8 M9 => Q v8 M9) := by
  show Pb_X12_wakesBy _ _ _ _ _ = _
  unfold Pb_X12_wakesBy
  simp (disch := omega) only [i_lit, l_0, l_1, l_2, l_3, l_5, l_6, l_8, l_9, l_23, l_24, l_48, l_57, l_69, l_100, in_e, ci_e, lt_t, lt_f, le_t, le_f, eq_t, eq_f, nI_add, Nat.add_zero, xl_t, xl_f, xg_t, xg_f, xle_t, xle_f, xge_t, xge_f, xe_f, ci_t, ci_f, cx_t, cx_f, cn_t, cn_f, cp_t, cp_f, vi_t, cl_nI, c_er, m_er, eq_self, true_and, and_true, true_implies, false_implies, implies_true, not_true_eq_false, not_false_eq_true, true_or, or_true, forall_eq, m_above]
theorem m_wk {k : Nat} {x : Int32} (hk : k ≤ 6) (h : tCm M s) (hQ : ∀ M' : Mem, Mt M M' → tCm M' (wS k s) → Q (wR k (M 0 24) x) M') : P_X12_wakesBy 4 M (nI k) x Q := by
  rcases k7 hk with rfl | rfl | rfl | rfl | rfl | rfl | rfl
  · exact m_w0 h hQ
  · rw [m_wd (by omega) (by omega) (by omega)]
    exact m_w0 (f := 2) h hQ
  · exact m_w2 h hQ
  · rw [m_wd (by omega) (by omega) (by omega)]
    exact m_w0 (f := 2) h hQ
  · rw [m_wd (by omega) (by omega) (by omega), show kaN 4 = 1 from rfl, m_wd (by omega) (by omega) (by omega)]
    exact m_w0 (f := 1) h hQ
  · rw [m_wd (by omega) (by omega) (by omega)]
    exact m_w2 (f := 1) h hQ
  · rw [m_wd (by omega) (by omega) (by omega), show kaN 6 = 3 from rfl, m_wd (by omega) (by omega) (by omega)]
    exact m_w0 (f := 1) h hQ
/-- who speaks: a lodger's kind and number m -/
def tW (M : Mem) (a : Nat → Nat) (l : Nat) : Prop := MR M a ∧ M 0 24 = nI l
theorem tW.k {M M' : Mem} {a : Nat → Nat} {l : Nat} (h : tW M a l) (k : Mt M M') : tW M' a l := ⟨fun j hj => by rw [k.1 1 (by omega) (by omega)]; exact h.1 j hj, by rw [k.2 24 (by omega)]; exact h.2⟩
variable {a : Nat → Nat} {l : Nat}
theorem m_own (hl : l ≤ 6) (w : tW M a l) {R : Int32 → Prop} : P_X12_own M R = R (nI (a (44 + 3 * l))) := by
  unfold P_X12_own
  rw [w.2, show (0 : Int32) = nI 0 from rfl, m_of w.1 (by omega), Nat.add_zero]
theorem m_s0 {f : Nat} {x : Int32} (hl : l ≤ 6) (w : tW M a l) (h : tCm M s) (hQ : ∀ M' : Mem, Mt M M' → tCm M' (psh 12 s) → Q (x - nI (a (44 + 3 * l + 1))) M') : P_X12_shutsBy (f + 1) M (nI 0) x Q := by
  show Pb_X12_shutsBy _ _ _ _ _
  refine ⟨fun _ => m_ran h (fun M1 k1 h1 => ?_), fun q => absurd q (by decide), fun q => absurd q (by decide), fun q => absurd rfl q⟩
  rw [(w.k k1).2, show (1 : Int32) = nI 1 from rfl, m_of (w.k k1).1 (by omega)]
  exact hQ M1 k1 h1
theorem m_s3 {f : Nat} {x : Int32} (hl : l ≤ 6) (w : tW M a l) (h : tCm M s) (hQ : ∀ M' : Mem, Mt M M' → tCm M' (psh 12 (psh 40 s)) → Q (-(x - nI (a (44 + 3 * l + 1)))) M') : P_X12_shutsBy (f + 2) M (nI 3) x Q := by
  show Pb_X12_shutsBy _ _ _ _ _
  refine ⟨fun q => absurd q (by decide), fun _ => m_ran h (fun M1 k1 h1 => ?_), fun q => absurd q (by decide), fun _ q => absurd rfl q⟩
  rw [show (3 : Int32) = nI 3 from rfl, m_above (by omega)]
  exact m_s0 hl (w.k k1) h1 (fun M2 k2 h2 => hQ M2 (k1.tr k2) h2)
theorem m_s6 {f : Nat} {x : Int32} (hl : l ≤ 6) (w : tW M a l) (h : tCm M s) (hQ : ∀ M' : Mem, Mt M M' → tCm M' (psh 12 (psh 40 (psh 70 s))) → Q ((-(x - nI (a (44 + 3 * l + 1)))) ^^^ nI l) M') : P_X12_shutsBy (f + 3) M (nI 6) x Q := by
  show Pb_X12_shutsBy _ _ _ _ _
  refine ⟨fun q => absurd q (by decide), fun q => absurd q (by decide), fun _ => m_ran h (fun M1 k1 h1 => ?_), fun _ _ q => absurd rfl q⟩
  rw [show (6 : Int32) = nI 6 from rfl, m_above (by omega)]
  refine m_s3 hl (w.k k1) h1 (fun M2 k2 h2 => ?_)
  rw [((w.k k1).k k2).2]
  exact hQ M2 (k1.tr k2) h2
theorem m_sd {f k : Nat} {x : Int32} (hk : k ≤ 6) (h0 : k ≠ 0) (h2 : k ≠ 3) (h6 : k ≠ 6) : P_X12_shutsBy (f + 1) M (nI k) x Q = P_X12_shutsBy f M (nI (kaN k)) x (fun v8 M9 => Q v8 M9) := by
  show Pb_X12_shutsBy _ _ _ _ _ = _
  unfold Pb_X12_shutsBy
  simp (disch := omega) only [i_lit, l_0, l_1, l_2, l_3, l_5, l_6, l_8, l_9, l_23, l_24, l_48, l_57, l_69, l_100, in_e, ci_e, lt_t, lt_f, le_t, le_f, eq_t, eq_f, nI_add, Nat.add_zero, xl_t, xl_f, xg_t, xg_f, xle_t, xle_f, xge_t, xge_f, xe_f, ci_t, ci_f, cx_t, cx_f, cn_t, cn_f, cp_t, cp_f, vi_t, cl_nI, c_er, m_er, eq_self, true_and, and_true, true_implies, false_implies, implies_true, not_true_eq_false, not_false_eq_true, true_or, or_true, forall_eq, m_above]
theorem m_shu {k : Nat} {x : Int32} (hl : l ≤ 6) (hk : k ≤ 6) (w : tW M a l) (h : tCm M s) (hQ : ∀ M' : Mem, Mt M M' → tCm M' (sS k s) → Q (sR k (nI l) (nI (a (44 + 3 * l + 1))) x) M') : P_X12_shutsBy 4 M (nI k) x Q := by
  rcases k7 hk with rfl | rfl | rfl | rfl | rfl | rfl | rfl
  · exact m_s0 hl w h hQ
  · rw [m_sd (by omega) (by omega) (by omega) (by omega)]
    exact m_s0 (f := 2) hl w h hQ
  · rw [m_sd (by omega) (by omega) (by omega) (by omega)]
    exact m_s0 (f := 2) hl w h hQ
  · exact m_s3 hl w h hQ
  · rw [m_sd (by omega) (by omega) (by omega) (by omega), show kaN 4 = 1 from rfl, m_sd (by omega) (by omega) (by omega) (by omega)]
    exact m_s0 (f := 1) hl w h hQ
  · rw [m_sd (by omega) (by omega) (by omega) (by omega), show kaN 5 = 2 from rfl, m_sd (by omega) (by omega) (by omega) (by omega)]
    exact m_s0 (f := 1) hl w h hQ
  · exact m_s6 hl w h hQ
theorem m_p0 {f : Nat} {x : Int32} (hl : l ≤ 6) (hk : a (44 + 3 * l) ≤ 6) (w : tW M a l) (h : tCm M s) (hQ : ∀ M' : Mem, Mt M M' → tCm M' (bS (a (44 + 3 * l)) s) → Q (wR (a (44 + 3 * l)) (nI l) x * 2) M') : P_X12_pullsBy (f + 1) M (nI 0) x Q := by
  show Pb_X12_pullsBy _ _ _ _ _
  refine ⟨fun _ => m_ran h (fun M1 k1 h1 => ?_), fun q => absurd q (by decide), fun q => absurd q (by decide), fun q => absurd rfl q⟩
  rw [m_own hl (w.k k1)]
  refine m_wk hk h1 (fun M2 k2 h2 => ?_)
  rw [(w.k k1).2]
  exact hQ M2 (k1.tr k2) h2
theorem m_p1 {f : Nat} {x : Int32} (hl : l ≤ 6) (hk : a (44 + 3 * l) = 1 ∨ a (44 + 3 * l) = 4) (w : tW M a l) (h : tCm M s) (hQ : ∀ M' : Mem, Mt M M' → tCm M' (psh 12 (bS (a (44 + 3 * l)) (psh 20 s))) → Q (wR (a (44 + 3 * l)) (nI l) x * 2 - (1 - nI (a (44 + 3 * l + 1)))) M') : P_X12_pullsBy (f + 2) M (nI 1) x Q := by
  show Pb_X12_pullsBy _ _ _ _ _
  refine ⟨fun q => absurd q (by decide), fun _ => m_ran h (fun M1 k1 h1 => ?_), fun q => absurd q (by decide), fun _ q => absurd rfl q⟩
  rw [show (1 : Int32) = nI 1 from rfl, m_above (by omega)]
  refine m_p0 hl (by omega) (w.k k1) h1 (fun M2 k2 h2 => ?_)
  have w2 := (w.k k1).k k2
  rw [m_own hl w2]
  have e : sS (a (44 + 3 * l)) (bS (a (44 + 3 * l)) (psh 20 s)) = psh 12 (bS (a (44 + 3 * l)) (psh 20 s)) := by
    unfold sS
    rw [if_neg (by omega), if_neg (by omega)]
  have e2 : ∀ y, sR (a (44 + 3 * l)) (nI l) (nI (a (44 + 3 * l + 1))) y = y - nI (a (44 + 3 * l + 1)) := fun y => by
    unfold sR
    rw [if_neg (by omega), if_neg (by omega)]
  refine m_shu hl (by omega) w2 h2 (fun M3 k3 h3 => ?_)
  rw [e] at h3
  rw [e2]
  exact hQ M3 ((k1.tr k2).tr k3) h3
theorem m_pd {f k : Nat} {x : Int32} (hk : k ≤ 6) (h0 : k ≠ 0) (h2 : k ≠ 1) (h6 : k ≠ 4) : P_X12_pullsBy (f + 1) M (nI k) x Q = P_X12_pullsBy f M (nI (kaN k)) x (fun v8 M9 => Q v8 M9) := by
  show Pb_X12_pullsBy _ _ _ _ _ = _
  unfold Pb_X12_pullsBy B_X12_pullsBy_100
  simp (disch := omega) only [i_lit, l_0, l_1, l_2, l_3, l_5, l_6, l_8, l_9, l_23, l_24, l_48, l_57, l_69, l_100, in_e, ci_e, lt_t, lt_f, le_t, le_f, eq_t, eq_f, nI_add, Nat.add_zero, xl_t, xl_f, xg_t, xg_f, xle_t, xle_f, xge_t, xge_f, xe_f, ci_t, ci_f, cx_t, cx_f, cn_t, cn_f, cp_t, cp_f, vi_t, cl_nI, c_er, m_er, eq_self, true_and, and_true, true_implies, false_implies, implies_true, not_true_eq_false, not_false_eq_true, true_or, or_true, forall_eq, m_above]
theorem m_pul {x : Int32} (hl : l ≤ 6) (hk : a (44 + 3 * l) ≤ 6) (w : tW M a l) (h : tCm M s) (hQ : ∀ M' : Mem, Mt M M' → tCm M' (pS (a (44 + 3 * l)) s) → Q (pR (a (44 + 3 * l)) (nI l) (nI (a (44 + 3 * l + 1))) x) M') : P_X12_pullsBy 4 M (nI (a (44 + 3 * l))) x Q := by
  have hp0 : ∀ f, a (44 + 3 * l) ≠ 1 → a (44 + 3 * l) ≠ 4 → P_X12_pullsBy (f + 1) M (nI 0) x Q := fun f n1 n4 => by
    unfold pS pR at hQ
    rw [if_neg n1, if_neg n1, if_neg n4, if_neg n4] at hQ
    exact m_p0 hl hk w h hQ
  rcases k7 hk with e | e | e | e | e | e | e
  · have := hp0 3 (by omega) (by omega)
    rw [e]
    exact this
  · unfold pS pR at hQ
    rw [if_pos e, if_pos e] at hQ
    have := m_p1 (f := 2) (x := x) (Q := Q) hl (Or.inl e) w h (fun M1 k1 h1 => by rw [e] at h1 ⊢; exact hQ M1 k1 h1)
    rw [e]
    exact this
  · have := hp0 2 (by omega) (by omega)
    rw [e, m_pd (by omega) (by omega) (by omega) (by omega)]
    exact this
  · have := hp0 2 (by omega) (by omega)
    rw [e, m_pd (by omega) (by omega) (by omega) (by omega)]
    exact this
  · unfold pS pR at hQ
    have z1 : ¬ a (44 + 3 * l) = 1 := by omega
    rw [if_neg z1, if_neg z1, if_pos e, if_pos e] at hQ
    rw [e]
    show Pb_X12_pullsBy _ _ _ _ _
    refine ⟨fun q => absurd q (by decide), fun q => absurd q (by decide), fun _ => m_ran h (fun M1 k1 h1 => ?_), fun _ _ q => absurd rfl q⟩
    rw [show (4 : Int32) = nI 4 from rfl, m_above (by omega)]
    exact m_p1 (f := 1) hl (Or.inr e) (w.k k1) h1 (fun M2 k2 h2 => by rw [e] at h2 ⊢; exact hQ M2 (k1.tr k2) h2)
  · have := hp0 1 (by omega) (by omega)
    rw [e, m_pd (by omega) (by omega) (by omega) (by omega), show kaN 5 = 2 from rfl, m_pd (by omega) (by omega) (by omega) (by omega)]
    exact this
  · have := hp0 1 (by omega) (by omega)
    rw [e, m_pd (by omega) (by omega) (by omega) (by omega), show kaN 6 = 3 from rfl, m_pd (by omega) (by omega) (by omega) (by omega)]
    exact this
theorem m_t0 {f : Nat} {x : Int32} (hl : l ≤ 6) (hk : a (44 + 3 * l) ≤ 6) (w : tW M a l) (h : tCm M s) (hQ : ∀ M' : Mem, Mt M M' → tCm M' (tbS (a (44 + 3 * l)) s) → Q (tbR (a (44 + 3 * l)) (nI l) (nI (a (44 + 3 * l + 1))) x) M') : P_X12_tellsBy (f + 1) M (nI 0) x Q := by
  show Pb_X12_tellsBy _ _ _ _ _
  refine ⟨fun _ => m_ran h (fun M1 k1 h1 => ?_), fun q => absurd q (by decide), fun q => absurd q (by decide), fun q => absurd rfl q⟩
  rw [m_own hl (w.k k1)]
  refine m_pul hl hk (w.k k1) h1 (fun M2 k2 h2 => ?_)
  have w2 := (w.k k1).k k2
  rw [m_own hl w2]
  exact m_shu hl hk w2 h2 (fun M3 k3 h3 => hQ M3 ((k1.tr k2).tr k3) h3)
theorem m_td {f k : Nat} {x : Int32} (hk : k ≤ 6) (h0 : k ≠ 0) (h2 : k ≠ 5) (h6 : k ≠ 6) : P_X12_tellsBy (f + 1) M (nI k) x Q = P_X12_tellsBy f M (nI (kaN k)) x (fun v8 M9 => Q v8 M9) := by
  show Pb_X12_tellsBy _ _ _ _ _ = _
  unfold Pb_X12_tellsBy
  simp (disch := omega) only [i_lit, l_0, l_1, l_2, l_3, l_5, l_6, l_8, l_9, l_23, l_24, l_48, l_57, l_69, l_100, in_e, ci_e, lt_t, lt_f, le_t, le_f, eq_t, eq_f, nI_add, Nat.add_zero, xl_t, xl_f, xg_t, xg_f, xle_t, xle_f, xge_t, xge_f, xe_f, ci_t, ci_f, cx_t, cx_f, cn_t, cn_f, cp_t, cp_f, vi_t, cl_nI, c_er, m_er, eq_self, true_and, and_true, true_implies, false_implies, implies_true, not_true_eq_false, not_false_eq_true, true_or, or_true, forall_eq, m_above]
theorem m_tel {x : Int32} (hl : l ≤ 6) (hk : a (44 + 3 * l) ≤ 6) (w : tW M a l) (h : tCm M s) (hQ : ∀ M' : Mem, Mt M M' → tCm M' (tS (a (44 + 3 * l)) s) → Q (tR (a (44 + 3 * l)) (nI l) (nI (a (44 + 3 * l + 1))) x) M') : P_X12_tellsBy 4 M (nI (a (44 + 3 * l))) x Q := by
  have hp0 : ∀ f, a (44 + 3 * l) ≠ 5 → a (44 + 3 * l) ≠ 6 → P_X12_tellsBy (f + 1) M (nI 0) x Q := fun f n1 n4 => by
    unfold tS tR at hQ
    rw [if_neg n1, if_neg n1, if_neg n4, if_neg n4] at hQ
    exact m_t0 hl hk w h hQ
  rcases k7 hk with e | e | e | e | e | e | e
  · have := hp0 3 (by omega) (by omega)
    rw [e]
    exact this
  · have := hp0 2 (by omega) (by omega)
    rw [e, m_td (by omega) (by omega) (by omega) (by omega)]
    exact this
  · have := hp0 2 (by omega) (by omega)
    rw [e, m_td (by omega) (by omega) (by omega) (by omega)]
    exact this
  · have := hp0 2 (by omega) (by omega)
    rw [e, m_td (by omega) (by omega) (by omega) (by omega)]
    exact this
  · have := hp0 1 (by omega) (by omega)
    rw [e, m_td (by omega) (by omega) (by omega) (by omega), show kaN 4 = 1 from rfl, m_td (by omega) (by omega) (by omega) (by omega)]
    exact this
  · unfold tS tR at hQ
    rw [if_pos e, if_pos e] at hQ
    rw [e]
    show Pb_X12_tellsBy _ _ _ _ _
    refine ⟨fun q => absurd q (by decide), fun _ => m_ran h (fun M1 k1 h1 => ?_), fun q => absurd q (by decide), fun _ q => absurd rfl q⟩
    rw [show (5 : Int32) = nI 5 from rfl, m_above (by omega), show kaN 5 = 2 from rfl, m_td (by omega) (by omega) (by omega) (by omega)]
    refine m_t0 (f := 1) hl hk (w.k k1) h1 (fun M2 k2 h2 => ?_)
    have w2 := (w.k k1).k k2
    rw [m_own hl w2, e]
    rw [e] at h2
    refine m_wk (by omega) h2 (fun M3 k3 h3 => ?_)
    rw [w2.2]
    exact hQ M3 ((k1.tr k2).tr k3) h3
  · unfold tS tR at hQ
    have z1 : ¬ a (44 + 3 * l) = 5 := by omega
    rw [if_neg z1, if_neg z1, if_pos e, if_pos e] at hQ
    rw [e]
    show Pb_X12_tellsBy _ _ _ _ _
    refine ⟨fun q => absurd q (by decide), fun q => absurd q (by decide), fun _ => m_ran h (fun M1 k1 h1 => ?_), fun _ _ q => absurd rfl q⟩
    rw [m_own hl (w.k k1)]
    refine m_pul hl hk (w.k k1) h1 (fun M2 k2 h2 => ?_)
    have w2 := (w.k k1).k k2
    rw [show (6 : Int32) = nI 6 from rfl, m_above (by omega), show kaN 6 = 3 from rfl, m_td (by omega) (by omega) (by omega) (by omega)]
    refine m_t0 (f := 1) hl hk w2 h2 (fun M3 k3 h3 => ?_)
    rw [e] at h3 ⊢
    exact hQ M3 ((k1.tr k2).tr k3) h3
end VM
theorem Inv.vo {n K t im : Nat} {F : Ft} {Mc Mm Mc' Mm' : Mem} {a b : Nat → Nat} {V W : Vt} {s : Nat × (Nat → Int32)} (hn : n < 512) (hb : Ivb n K t im) (mo : MOK t F Mc) (hs : Iv0 K t F Mc Mm a V) (i1 : Iv1 K t F Mc Mm b W im) (i2 : Iv2 Mc Mm t im) (hc : Ct Mc Mc') (hm : (∀ k, k ≠ 0 → k ≠ 11 → Mm' k = Mm k) ∧ Mm' 0 3 = Mm 0 3) (sc : tCc Mc' s) (sm : tCm Mm' s) : Inv (n + 1) K Mc' Mm' := by
  obtain ⟨h1, h2, h3, h4⟩ := hs
  obtain ⟨j1, j2, j3, j4, j5, j6⟩ := i2
  refine ⟨a, b, V, W, F, t, im, hb.up hn, mo.keep (hc 2 (by omega) (by omega)), ⟨h1.keep (fun k k1 k2 => hc k (by omega) (by omega)) (fun k k1 k2 => hc k (by omega) (by omega)), fun k hk => by rw [hm.1 1 (by omega) (by omega)]; exact h2 k hk, h3, h4⟩, ?_, ?_, ?_, ?_, fun i hi => ?_, ⟨s.1, sc.1, sc.2.1, sm.2.1, fun i hi => by rw [sc.2.2 i hi, sm.2.2 i hi]⟩, fun u hu => (j6 u hu).keep (hc _ (by omega) (by omega)) (hc _ (by omega) (by omega)) (hm.1 _ (by omega) (by omega)) (hm.1 _ (by omega) (by omega)) (hm.1 _ (by omega) (by omega))⟩
  · refine ⟨i1.1.keep (hc _ (by omega) (by omega)) (hc _ (by omega) (by omega)), ?_⟩
    rcases i1.2 with ⟨q, r⟩ | ⟨q1, q2, q3, q4⟩
    · exact Or.inl ⟨q, r.keep (hc _ (by omega) (by omega)) (hc _ (by omega) (by omega))⟩
    · exact Or.inr ⟨q1.keep (fun k k1 k2 => hc k (by omega) (by omega)) (fun k k1 k2 => hc k (by omega) (by omega)), fun k hk => by rw [hm.1 2 (by omega) (by omega)]; exact q2 k hk, q3, q4⟩
  · rw [hc 0 (by omega) (by omega)]; exact j1
  · rw [hm.2]; exact j2
  · rw [hc 0 (by omega) (by omega)]; exact j3
  · rw [hc 4 (by omega) (by omega), hm.1 4 (by omega) (by omega)]; exact j4 i hi
theorem lo_32 {n K : Nat} {Mc Mm : Mem} (a1 a2 a3 a4 a5 : Int32) (hn : n < 512) (hI : Inv n K Mc Mm) : LO_32 Inv n K Mc Mm a1 a2 a3 a4 a5 := by
  have hE := hI.er hn
  have hU := hI.up hn
  obtain ⟨a, b, V, W, F, t, im, hb, mo, ⟨hB, mr, d, v⟩, i1, i2⟩ := hI
  have h := hB.1
  have tr := hB.2.1
  have kd := hB.2.2
  have c := hb.cx mo
  have d0 := d.1.1
  have d1 := d.1.2.1
  have d2 := d.1.2.2
  have dh := d.2.1
  have dt := d.2.2.2.2.1
  have f0 : Mc 30 0 = nI (a 0) := h.1.1
  have f1 : Mc 30 1 = nI (a 1) := h.1.2.1
  have f2 : Mc 30 2 = nI (a 2) := h.1.2.2
  have g0 : Mm 1 0 = nI (a 0) := mr 0 (by omega)
  have g1 : Mm 1 1 = nI (a 1) := mr 1 (by omega)
  have g2 : Mm 1 2 = nI (a 2) := mr 2 (by omega)
  unfold LO_32
  rcases rngl a1 (a 2) (by omega) with ⟨l, hl, rfl⟩ | xl | xl
  · have e5 : sf Mc 5 1 (nI 0) 35 l = nI (15 + a (44 + 3 * l)) := by rw [sf_ne (by omega)]; exact (h.2.2.2.1 l hl).1
    have e6 : sf Mc 5 1 (nI 0) 36 l = nI (a (44 + 3 * l + 1)) := by rw [sf_ne (by omega)]; exact (h.2.2.2.1 l hl).2.1
    have dl := d.2.2.2.1 l hl
    have k15 : isKd_X3 (nI (15 + a (44 + 3 * l))) = True := eq_true (kd15 dl.1)
    have hc0 : Ct Mc (sf Mc 5 1 (nI 0)) := fun k k5 k6 => sf_ne k5
    have sc0 : tCc (sf Mc 5 1 (nI 0)) (0, fun _ => 0) := ⟨by show 0 ≤ 40; omega, sf_e rfl rfl, fun i hi => absurd hi (by show ¬ i < 0; omega)⟩
    have sm0 : tCm (sf (sf Mm 0 23 (nI 0)) 0 24 (nI l)) (0, fun _ => 0) := ⟨by show 0 ≤ 40; omega, by rw [sf_j (by omega), sf_e rfl rfl], fun i hi => absurd hi (by show ¬ i < 0; omega)⟩
    have w0 : tW (sf (sf Mm 0 23 (nI 0)) 0 24 (nI l)) a l := ⟨fun k hk => by rw [sf_ne (by omega), sf_ne (by omega)]; exact mr k hk, sf_e rfl rfl⟩
    have hm0 : (∀ k, k ≠ 0 → k ≠ 11 → sf (sf Mm 0 23 (nI 0)) 0 24 (nI l) k = Mm k) ∧ sf (sf Mm 0 23 (nI 0)) 0 24 (nI l) 0 3 = Mm 0 3 := ⟨fun k k0 _ => by rw [sf_ne k0, sf_ne k0], by rw [sf_j (by omega), sf_j (by omega)]⟩
    have ow : ∀ {R : Int32 → Prop}, P_X12_own (sf (sf Mm 0 23 (nI 0)) 0 24 (nI l)) R = R (nI (a (44 + 3 * l))) := fun {R} => m_own (by omega) w0
    have fin : ∀ {s : Nat × (Nat → Int32)} {M1 M2 : Mem}, Ct (sf Mc 5 1 (nI 0)) M1 → tCc M1 s → Mt (sf (sf Mm 0 23 (nI 0)) 0 24 (nI l)) M2 → tCm M2 s → Inv (n + 1) K M1 M2 := fun k1 s1 k2 s2 =>
      Inv.vo hn hb mo ⟨hB, mr, d, v⟩ i1 i2 (hc0.tr k1) ⟨fun k q1 q2 => by rw [k2.1 k q1 q2, hm0.1 k q1 q2], by rw [k2.2 3 (by omega), hm0.2]⟩ s1 s2
    rcases rng a2 3 (by omega) with ⟨u, hu, rfl⟩ | xu | xu
    · rcases (show u = 0 ∨ u = 1 ∨ u = 2 ∨ u = 3 by omega) with rfl | rfl | rfl | rfl
      · simp (disch := omega) only [i_lit, l_0, l_1, l_2, l_3, l_5, l_6, l_8, l_9, l_23, l_24, l_48, l_57, l_69, l_100, in_e, ci_e, lt_t, lt_f, le_t, le_f, eq_t, eq_f, nI_add, Nat.add_zero, xl_t, xl_f, xg_t, xg_f, xle_t, xle_f, xge_t, xge_f, xe_f, ci_t, ci_f, cx_t, cx_f, cn_t, cn_f, cp_t, cp_f, vi_t, cl_nI, c_er, m_er, eq_self, true_and, and_true, true_implies, false_implies, implies_true, not_true_eq_false, not_false_eq_true, true_or, or_true, forall_eq, P_X11_voice, P_X11_isLodger, P_X12_voice, P_X12_isLodger, f2, g2, e5, e6, k15, ow]
        refine c_wk dl.1 sc0 (fun M1 k1 s1 => m_wk dl.1 sm0 (fun M2 k2 s2 => ?_))
        rw [w0.2]
        exact ⟨rfl, fin k1 s1 k2 s2⟩
      · simp (disch := omega) only [i_lit, l_0, l_1, l_2, l_3, l_5, l_6, l_8, l_9, l_23, l_24, l_48, l_57, l_69, l_100, in_e, ci_e, lt_t, lt_f, le_t, le_f, eq_t, eq_f, nI_add, Nat.add_zero, xl_t, xl_f, xg_t, xg_f, xle_t, xle_f, xge_t, xge_f, xe_f, ci_t, ci_f, cx_t, cx_f, cn_t, cn_f, cp_t, cp_f, vi_t, cl_nI, c_er, m_er, eq_self, true_and, and_true, true_implies, false_implies, implies_true, not_true_eq_false, not_false_eq_true, true_or, or_true, forall_eq, P_X11_voice, P_X11_isLodger, P_X12_voice, P_X12_isLodger, f2, g2, e5, e6, k15, ow]
        exact c_pul dl.1 sc0 (fun M1 k1 s1 => m_pul (by omega) dl.1 w0 sm0 (fun M2 k2 s2 => ⟨rfl, fin k1 s1 k2 s2⟩))
      · simp (disch := omega) only [i_lit, l_0, l_1, l_2, l_3, l_5, l_6, l_8, l_9, l_23, l_24, l_48, l_57, l_69, l_100, in_e, ci_e, lt_t, lt_f, le_t, le_f, eq_t, eq_f, nI_add, Nat.add_zero, xl_t, xl_f, xg_t, xg_f, xle_t, xle_f, xge_t, xge_f, xe_f, ci_t, ci_f, cx_t, cx_f, cn_t, cn_f, cp_t, cp_f, vi_t, cl_nI, c_er, m_er, eq_self, true_and, and_true, true_implies, false_implies, implies_true, not_true_eq_false, not_false_eq_true, true_or, or_true, forall_eq, P_X11_voice, P_X11_isLodger, P_X12_voice, P_X12_isLodger, f2, g2, e5, e6, k15, ow]
        exact c_shu dl.1 sc0 (fun M1 k1 s1 => m_shu (by omega) dl.1 w0 sm0 (fun M2 k2 s2 => ⟨rfl, fin k1 s1 k2 s2⟩))
      · simp (disch := omega) only [i_lit, l_0, l_1, l_2, l_3, l_5, l_6, l_8, l_9, l_23, l_24, l_48, l_57, l_69, l_100, in_e, ci_e, lt_t, lt_f, le_t, le_f, eq_t, eq_f, nI_add, Nat.add_zero, xl_t, xl_f, xg_t, xg_f, xle_t, xle_f, xge_t, xge_f, xe_f, ci_t, ci_f, cx_t, cx_f, cn_t, cn_f, cp_t, cp_f, vi_t, cl_nI, c_er, m_er, eq_self, true_and, and_true, true_implies, false_implies, implies_true, not_true_eq_false, not_false_eq_true, true_or, or_true, forall_eq, P_X11_voice, P_X11_isLodger, P_X12_voice, P_X12_isLodger, f2, g2, e5, e6, k15, ow]
        exact c_tel dl.1 sc0 (fun M1 k1 s1 => m_tel (by omega) dl.1 w0 sm0 (fun M2 k2 s2 => ⟨rfl, fin k1 s1 k2 s2⟩))
    · simp (disch := omega) only [i_lit, l_0, l_1, l_2, l_3, l_5, l_6, l_8, l_9, l_23, l_24, l_48, l_57, l_69, l_100, in_e, ci_e, lt_t, lt_f, le_t, le_f, eq_t, eq_f, nI_add, Nat.add_zero, xl_t, xl_f, xg_t, xg_f, xle_t, xle_f, xge_t, xge_f, xe_f, ci_t, ci_f, cx_t, cx_f, cn_t, cn_f, cp_t, cp_f, vi_t, cl_nI, c_er, m_er, eq_self, true_and, and_true, true_implies, false_implies, implies_true, not_true_eq_false, not_false_eq_true, true_or, or_true, forall_eq, P_X11_voice, P_X11_isLodger, P_X12_voice, P_X12_isLodger, f2, g2]
      exact hE 1 (by omega)
    · simp (disch := omega) only [i_lit, l_0, l_1, l_2, l_3, l_5, l_6, l_8, l_9, l_23, l_24, l_48, l_57, l_69, l_100, in_e, ci_e, lt_t, lt_f, le_t, le_f, eq_t, eq_f, nI_add, Nat.add_zero, xl_t, xl_f, xg_t, xg_f, xle_t, xle_f, xge_t, xge_f, xe_f, ci_t, ci_f, cx_t, cx_f, cn_t, cn_f, cp_t, cp_f, vi_t, cl_nI, c_er, m_er, eq_self, true_and, and_true, true_implies, false_implies, implies_true, not_true_eq_false, not_false_eq_true, true_or, or_true, forall_eq, P_X11_voice, P_X11_isLodger, P_X12_voice, P_X12_isLodger, f2, g2]
      exact hE 1 (by omega)
  · simp (disch := omega) only [i_lit, l_0, l_1, l_2, l_3, l_5, l_6, l_8, l_9, l_23, l_24, l_48, l_57, l_69, l_100, in_e, ci_e, lt_t, lt_f, le_t, le_f, eq_t, eq_f, nI_add, Nat.add_zero, xl_t, xl_f, xg_t, xg_f, xle_t, xle_f, xge_t, xge_f, xe_f, ci_t, ci_f, cx_t, cx_f, cn_t, cn_f, cp_t, cp_f, vi_t, cl_nI, c_er, m_er, eq_self, true_and, and_true, true_implies, false_implies, implies_true, not_true_eq_false, not_false_eq_true, true_or, or_true, forall_eq, P_X11_voice, P_X11_isLodger, P_X12_voice, P_X12_isLodger, f2, g2]
    exact hE 1 (by omega)
  · simp (disch := omega) only [i_lit, l_0, l_1, l_2, l_3, l_5, l_6, l_8, l_9, l_23, l_24, l_48, l_57, l_69, l_100, in_e, ci_e, lt_t, lt_f, le_t, le_f, eq_t, eq_f, nI_add, Nat.add_zero, xl_t, xl_f, xg_t, xg_f, xle_t, xle_f, xge_t, xge_f, xe_f, ci_t, ci_f, cx_t, cx_f, cn_t, cn_f, cp_t, cp_f, vi_t, cl_nI, c_er, m_er, eq_self, true_and, and_true, true_implies, false_implies, implies_true, not_true_eq_false, not_false_eq_true, true_or, or_true, forall_eq, P_X11_voice, P_X11_isLodger, P_X12_voice, P_X12_isLodger, f2, g2]
    exact hE 1 (by omega)
