theorem c_hanging {K g : Nat} {M : Mem} {a : Nat → Nat} {Q : Int32 → Prop} (h : HR g M a) (d : DOK a) (hQ : Q (nI (setP (fun w => decide (0 < a (12 + 4 * w + 2))) (a 0)))) : P_X2_hanging K M g Q := by
  unfold P_X2_hanging B_X2_hanging_4
  intro X hX
  have d0 := d.1.1
  have d1 := d.1.2.1
  have key : ∀ f w, w + f = a 0 → X (nI (setP (fun w => decide (0 < a (12 + 4 * w + 2))) w)) (nI w) := by
    intro f
    induction f with
    | zero =>
      intro w hw
      obtain rfl : w = a 0 := by omega
      apply hX
      rw [h.1.1]
      exact br_t (nI_le (Nat.le_refl _) (by omega)) hQ
    | succ f ih =>
      intro w hw
      have e := h.2.2.1 w (by omega)
      have b := d.2.2.1 w (by omega)
      have n := ih (w + 1) (by omega)
      have hs := setP_lt (fun w => decide (0 < a (12 + 4 * w + 2))) w
      have es : setP (fun w => decide (0 < a (12 + 4 * w + 2))) (w + 1) = setP (fun w => decide (0 < a (12 + 4 * w + 2))) w + if decide (0 < a (12 + 4 * w + 2)) = true then 2 ^ w else 0 := rfl
      rw [es] at n
      apply hX
      rw [h.1.1]
      refine br_f (nI_ge (by omega) (by omega)) ⟨vp_in_nI (by omega) (by omega), ?_⟩
      rw [cl_nI (by omega), e.2.2.1, show (cI (a (12 + 4 * w + 2)) < 0) = (a (12 + 4 * w + 2) = 0) from propext (cI_neg (by omega))]
      refine ⟨fun q => ?_, fun q => ?_⟩
      · rw [if_neg (by rw [decide_eq_true_eq]; omega), Nat.add_zero] at n
        rintro _ rfl
        rw [nI_1]
        exact n
      · rw [if_pos (by rw [decide_eq_true_eq]; omega)] at n
        rintro _ rfl _ rfl
        rw [nI_1, or_bit hs (by omega)]
        exact n
  exact key (a 0) 0 (by omega)
theorem c_setOf {K g c : Nat} {M : Mem} {a : Nat → Nat} {Q : Int32 → Prop} (h : HR g M a) (d : DOK a) (hc : c ≤ 100) (hQ : Q (nI (setP (fun w => decide (a (12 + 4 * w + 2) = c + 1)) (a 0)))) : P_X2_setOf K M g (nI c) Q := by
  unfold P_X2_setOf B_X2_setOf_4
  intro X hX
  have d0 := d.1.1
  have d1 := d.1.2.1
  have key : ∀ f w, w + f = a 0 → X (nI (setP (fun w => decide (a (12 + 4 * w + 2) = c + 1)) w)) (nI w) := by
    intro f
    induction f with
    | zero =>
      intro w hw
      obtain rfl : w = a 0 := by omega
      apply hX
      rw [h.1.1]
      exact br_t (nI_le (Nat.le_refl _) (by omega)) hQ
    | succ f ih =>
      intro w hw
      have e := h.2.2.1 w (by omega)
      have b := d.2.2.1 w (by omega)
      have n := ih (w + 1) (by omega)
      have hs := setP_lt (fun w => decide (a (12 + 4 * w + 2) = c + 1)) w
      have es : setP (fun w => decide (a (12 + 4 * w + 2) = c + 1)) (w + 1) = setP (fun w => decide (a (12 + 4 * w + 2) = c + 1)) w + if decide (a (12 + 4 * w + 2) = c + 1) = true then 2 ^ w else 0 := rfl
      rw [es] at n
      apply hX
      rw [h.1.1]
      refine br_f (nI_ge (by omega) (by omega)) ⟨vp_in_nI (by omega) (by omega), ?_⟩
      rw [cl_nI (by omega), e.2.2.1, cI_eqn (by omega) (by omega)]
      refine ⟨fun q => ?_, fun q => ?_⟩
      · rw [if_neg (by rw [decide_eq_true_eq]; omega), Nat.add_zero] at n
        rintro _ rfl
        rw [nI_1]
        exact n
      · rw [if_pos (by rw [decide_eq_true_eq]; omega)] at n
        rintro _ rfl _ rfl
        rw [nI_1, or_bit hs (by omega)]
        exact n
  exact key (a 0) 0 (by omega)
theorem m_windowsOf {c : Nat} {M : Mem} {a : Nat → Nat} {Q : Int32 → Prop} (h : MR M a) (d : DOK a) (hc : c ≤ 100) (hQ : Q (nI (setP (fun w => decide (a (12 + 4 * w + 2) = c + 1)) (a 0)))) : P_X12_windowsOf M (nI c) Q := by
  unfold P_X12_windowsOf B_X12_windowsOf_4
  intro X hX
  have d0 := d.1.1
  have d1 := d.1.2.1
  have key : ∀ f w, w + f = a 0 → X (nI (setP (fun w => decide (a (12 + 4 * w + 2) = c + 1)) w)) (nI w) := by
    intro f
    induction f with
    | zero =>
      intro w hw
      obtain rfl : w = a 0 := by omega
      apply hX
      rw [h 0 (by omega)]
      exact br_t (nI_le (Nat.le_refl _) (by omega)) hQ
    | succ f ih =>
      intro w hw
      have b := d.2.2.1 w (by omega)
      have n := ih (w + 1) (by omega)
      have hs := setP_lt (fun w => decide (a (12 + 4 * w + 2) = c + 1)) w
      have es : setP (fun w => decide (a (12 + 4 * w + 2) = c + 1)) (w + 1) = setP (fun w => decide (a (12 + 4 * w + 2) = c + 1)) w + if decide (a (12 + 4 * w + 2) = c + 1) = true then 2 ^ w else 0 := rfl
      rw [es] at n
      apply hX
      rw [h 0 (by omega)]
      refine br_f (nI_ge (by omega) (by omega)) ?_
      unfold B_X12_windowsOf_34
      rw [show (2 : Int32) = nI 2 from rfl, m_its h (by omega), nI_1, eq_nI (by omega) (by omega)]
      refine ⟨fun q => ?_, fun q => ?_⟩
      · rw [if_neg (by rw [decide_eq_true_eq]; omega), Nat.add_zero] at n
        rintro _ rfl _ rfl
        rw [nI_1, Int32.or_zero]
        exact n
      · rw [if_pos (by rw [decide_eq_true_eq]; omega)] at n
        rintro _ rfl _ rfl
        rw [nI_1, or_bit hs (by omega)]
        exact n
  exact key (a 0) 0 (by omega)
