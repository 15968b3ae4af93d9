theorem m_its {M : Mem} {a : Nat → Nat} (h : MR M a) {w j : Nat} {Q : Int32 → Prop} (hw : 12 + 4 * w + j < 264) : P_X12_its M (nI w) (nI j) Q = Q (nI (a (12 + 4 * w + j))) := by
  have e : ((12 : Int32) + (4 * nI w)) + nI j = nI (12 + 4 * w + j) := by
    rw [show (4 : Int32) = nI 4 from rfl, show (12 : Int32) = nI 12 from rfl, pk_mul, nI_add, nI_add]
  unfold P_X12_its
  rw [e, cl_nI (by omega), h _ hw]
  exact propext ⟨fun q => q.2, fun q => ⟨(in_nI (by omega)).mpr hw, q⟩⟩
theorem m_puts {M : Mem} {w j : Nat} {v : Int32} {Q : Mem → Prop} (hw : 12 + 4 * w + j < 264) : P_X12_puts M (nI w) (nI j) v Q = Q (sf M 1 (12 + 4 * w + j) v) := by
  have e : ((12 : Int32) + (4 * nI w)) + nI j = nI (12 + 4 * w + j) := by
    rw [show (4 : Int32) = nI 4 from rfl, show (12 : Int32) = nI 12 from rfl, pk_mul, nI_add, nI_add]
  unfold P_X12_puts
  rw [e, cl_nI (by omega)]
  exact propext ⟨fun q => q.2 _ rfl, fun q => ⟨(in_nI (by omega)).mpr hw, fun M1 h1 => by rw [h1]; exact q⟩⟩
theorem m_of {M : Mem} {a : Nat → Nat} (h : MR M a) {l j : Nat} {Q : Int32 → Prop} (hw : 44 + 3 * l + j < 264) : P_X12_of M (nI l) (nI j) Q = Q (nI (a (44 + 3 * l + j))) := by
  have e : ((44 : Int32) + (3 * nI l)) + nI j = nI (44 + 3 * l + j) := by
    rw [show (3 : Int32) = nI 3 from rfl, show (44 : Int32) = nI 44 from rfl, pk_mul, nI_add, nI_add]
  unfold P_X12_of
  rw [e, cl_nI (by omega), h _ hw]
  exact propext ⟨fun q => q.2, fun q => ⟨(in_nI (by omega)).mpr hw, q⟩⟩
theorem m_sets {M : Mem} {l j : Nat} {v : Int32} {Q : Mem → Prop} (hw : 44 + 3 * l + j < 264) : P_X12_sets M (nI l) (nI j) v Q = Q (sf M 1 (44 + 3 * l + j) v) := by
  have e : ((44 : Int32) + (3 * nI l)) + nI j = nI (44 + 3 * l + j) := by
    rw [show (3 : Int32) = nI 3 from rfl, show (44 : Int32) = nI 44 from rfl, pk_mul, nI_add, nI_add]
  unfold P_X12_sets
  rw [e, cl_nI (by omega)]
  exact propext ⟨fun q => q.2 _ rfl, fun q => ⟨(in_nI (by omega)).mpr hw, fun M1 h1 => by rw [h1]; exact q⟩⟩
theorem m_openIn {M : Mem} {a : Nat → Nat} {x : Nat} {Q : Int32 → Prop} (h : MR M a) (d : DOK a) (hx : x ≤ 10) (hQ : Q (nI (oin a x))) : P_X12_openIn M (cI x) Q := by
  unfold P_X12_openIn B_X12_openIn_4
  intro X hX
  have d0 := d.1.1
  have h0 := h 0 (by omega)
  have key : ∀ f w, w + f = a 0 → X (nI (oinP a x w)) (nI w) := by
    intro f
    induction f with
    | zero =>
      intro w hw
      obtain rfl : w = a 0 := by omega
      apply hX
      simp (disch := omega) only [h0, le_nI, Nat.le_refl, true_implies, not_true, false_implies, and_true]
      exact hQ
    | succ f ih =>
      intro w hw
      have b := d.2.2.1 w (by omega)
      have n := ih (w + 1) (by omega)
      apply hX
      unfold B_X12_openIn_35
      simp (disch := omega) only [h0, i_lit, le_nI, m_its h, cI_eqn', nI_add, nI_1, forall_eq, Nat.add_zero]
      refine ⟨fun q => absurd q (by omega), fun _ => ⟨fun q => ?_, fun q => ?_⟩⟩
      · have : oinP a x (w + 1) = oinP a x w := by
          show oinP a x w + (if a (12 + 4 * w) + 1 = x then a (12 + 4 * w + 1) else 0) = _
          rw [if_neg (by omega)]
          rfl
        rw [this] at n
        exact n
      · have : oinP a x (w + 1) = oinP a x w + a (12 + 4 * w + 1) := by
          show oinP a x w + (if a (12 + 4 * w) + 1 = x then a (12 + 4 * w + 1) else 0) = _
          rw [if_pos (by omega)]
        rw [this] at n
        exact n
  exact key (a 0) 0 (by omega)
/-! ===== a text's value ===== -/
def hA (x : Int32) : Nat := if x < 0 then 0 else if 99 < x then 99 else x.toNatClampNeg
theorem hA_le (x : Int32) : hA x ≤ 99 := by
  unfold hA
  split
  · omega
  · split
    · omega
    · rename_i h1 h2
      obtain ⟨j, hj, rfl⟩ := nI_of h1
      rw [cl_nI (by omega)]
      simp (disch := omega) only [i_lit, lt_nI] at h2
      omega
theorem hA_nI {j : Nat} (hj : j < 2147483648) : hA (nI j) = if j < 99 then j else 99 := by
  unfold hA
  rw [if_neg (nI_pos (by omega)), cl_nI hj]
  by_cases h : 99 < j
  · rw [if_pos (show (99 : Int32) < nI j from nI_lt h (by omega)), if_neg (by omega)]
  · rw [if_neg (show ¬ (99 : Int32) < nI j from nI_nlt (a := 99) (b := j) (by omega) (by omega))]
    split <;> omega
theorem hA_neg {x : Int32} (h : x < 0) : hA x = 0 := if_pos h
theorem mn_nI {j k : Nat} (hj : j < 2147483648) (hk : k < 2147483648) : (if nI j < nI k then nI j else nI k) = nI (if j < k then j else k) := by
  by_cases h : j < k
  · rw [if_pos h, if_pos (nI_lt h (by omega))]
  · rw [if_neg h, if_neg (nI_nlt (by omega) (by omega))]
theorem mx_nI {j k : Nat} (hj : j < 2147483648) (hk : k < 2147483648) : (if nI j < nI k then nI k else nI j) = nI (if j < k then k else j) := by
  by_cases h : j < k
  · rw [if_pos h, if_pos (nI_lt h (by omega))]
  · rw [if_neg h, if_neg (nI_nlt (by omega) (by omega))]
theorem c_held {x : Int32} {Q : Int32 → Prop} (hQ : Q (nI (hA x))) : P_X2_heldAir x Q := by
  unfold P_X2_heldAir
  rintro v1 rfl v2 rfl
  have e : (if 0 < (if x < 99 then x else 99) then (if x < 99 then x else 99) else 0) = nI (hA x) := by
    by_cases h : x < 0
    · rw [hA_neg h]
      have h1 : x < 99 := by rw [Int32.lt_iff_toInt_lt] at h ⊢; have : (0 : Int32).toInt = 0 := rfl; have : (99 : Int32).toInt = 99 := rfl; omega
      have h2 : ¬ 0 < x := by rw [Int32.lt_iff_toInt_lt] at h ⊢; omega
      rw [if_pos h1, if_neg h2]
      rfl
    · obtain ⟨j, hj, rfl⟩ := nI_of h
      rw [hA_nI hj, show (if nI j < 99 then nI j else 99) = nI (if j < 99 then j else 99) from mn_nI (k := 99) hj (by omega)]
      generalize hy : (if j < 99 then j else 99) = y
      have hy2 : y ≤ 99 := by rw [← hy]; split <;> omega
      rw [show (if 0 < nI y then nI y else 0) = nI (if 0 < y then y else 0) from mx_nI (j := 0) (by omega) (by omega)]
      congr 1
      split <;> omega
  rw [e]
  exact hQ
theorem m_held {x : Int32} {Q : Int32 → Prop} (hQ : Q (nI (hA x))) : P_X12_held x 0 99 Q := by
  unfold P_X12_held
  by_cases h : x < 0
  · rw [hA_neg h] at hQ
    have h2 : ¬ 0 ≤ x := by rw [Int32.lt_iff_toInt_lt] at h; rw [Int32.le_iff_toInt_le]; omega
    exact br_f h2 hQ
  · obtain ⟨j, hj, rfl⟩ := nI_of h
    rw [hA_nI hj] at hQ
    refine br_t (nI_pos' (by omega)) ?_
    simp (disch := omega) only [i_lit, le_nI]
    by_cases h1 : j < 99
    · rw [if_pos h1] at hQ
      exact br_t (by omega) hQ
    · rw [if_neg h1] at hQ
      refine ⟨fun q => ?_, fun _ => hQ⟩
      obtain rfl : j = 99 := by omega
      exact hQ
def cjoin (s a b : Int32) : Int32 :=
  if s = 38 then (if a = 0 then 0 else if b = 0 then 0 else 1) else if s = 42 then a * b else if s = 43 then a + b else if s = 45 then a - b else if s = 47 then (if b = 0 then 0 else a / b) else if s = 60 then (if b ≤ a then 0 else 1) else if s = 61 then (if a = b then 1 else 0) else if s = 62 then (if a ≤ b then 0 else 1) else if s = 124 then (if a = 0 then (if b = 0 then 0 else 1) else 1) else (if b = 0 then 0 else a - a / b * b)
theorem c_joined {s a b : Int32} {Q : Int32 → Prop} (hQ : Q (cjoin s a b)) : P_X10_joined s a b Q := by
  unfold P_X10_joined
  unfold cjoin at hQ
  refine ⟨fun h => ?_, fun h => ?_, fun h => ?_, fun h => ?_, fun h => ?_, fun h => ?_, fun h => ?_, fun h => ?_, fun h => ?_, fun n1 n2 n3 n4 n5 n6 n7 n8 n9 => ?_⟩
  · subst h
    refine ⟨fun h => ?_, fun h => ⟨fun h2 => ?_, fun h2 => ?_⟩⟩ <;> simp_all
  · subst h; simpa using hQ
  · subst h; simpa using hQ
  · subst h; simpa using hQ
  · subst h
    refine ⟨fun h => ?_, fun h => ?_⟩ <;> simp_all
  · subst h
    refine ⟨fun h => ?_, fun h => ?_⟩ <;> simp_all
  · subst h
    refine ⟨fun h => ?_, fun h => ?_⟩ <;> simp_all
  · subst h
    refine ⟨fun h => ?_, fun h => ?_⟩ <;> simp_all
  · subst h
    refine ⟨fun h => ?_, fun h => ⟨fun h2 => ?_, fun h2 => ?_⟩⟩ <;> simp_all
  · rw [if_neg n1, if_neg n2, if_neg n3, if_neg n4, if_neg n5, if_neg n6, if_neg n7, if_neg n8, if_neg n9] at hQ
    refine ⟨fun h => ?_, fun h => ?_⟩ <;> simp_all
