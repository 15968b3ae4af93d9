theorem c_canPull {K g i j : Nat} {M : Mem} {a : Nat → Nat} {Q : Int32 → Prop} (h : HR g M a) (d : DOK a) (hi : i < a 0) (hj : j < a 0) (h1 : canP a i j → Q 1) (h0 : ¬ canP a i j → Q 0) : P_X2_canPull K M g (nI i) (nI j) Q := by
  have d0 := d.1.1
  have d1 := d.1.2.1
  have ei := h.2.2.1 i hi
  have ej := h.2.2.1 j hj
  have bi := d.2.2.1 i hi
  have bj := d.2.2.1 j hj
  unfold P_X2_canPull
  simp (disch := omega) only [i_lit, cl_nI, ei.2.1, ei.2.2.1, ei.2.2.2, ej.2.1, ej.2.2.1, ej.2.2.2, eq_nI, cI_neg, cI_eq, le_nI, in_nI]
  exact ⟨fun q => h0 (fun c => c.1 q), fun q => ⟨by omega, fun q2 => h0 (fun c => by have := c.2.1; omega), fun q2 => ⟨by omega, by omega, fun q3 => h0 (fun c => q3 c.2.2.1), fun q3 => ⟨by omega, fun q4 => h0 (fun c => q4 c.2.2.2.1), fun q4 => ⟨by omega, fun q5 => h0 (fun c => q5 c.2.2.2.2.1), fun q5 => ⟨by omega, fun q6 => h0 (fun c => by have := c.2.2.2.2.2.1; omega), fun q6 => ⟨by omega, fun q7 => h0 (fun c => by have := c.2.2.2.2.2.2; omega), fun q7 => h1 ⟨q, by omega, q3, q4, q5, by omega, by omega⟩⟩⟩⟩⟩⟩⟩⟩
theorem m_canPull {i j : Nat} {M : Mem} {a : Nat → Nat} {Q : Int32 → Prop} (h : MR M a) (d : DOK a) (hi : i < a 0) (hj : j < a 0) (h1 : canP a i j → Q 1) (h0 : ¬ canP a i j → Q 0) : P_X12_canPull M (nI i) (nI j) Q := by
  have d0 := d.1.1
  have d1 := d.1.2.1
  have bi := d.2.2.1 i hi
  have bj := d.2.2.1 j hj
  have z0 : ¬ canP a i j → B_X12_canPull_34 M Q (nI i) (nI j) 0 := fun q => br_t rfl (h0 q)
  have z1 : i ≠ j → 0 < a (12 + 4 * i + 2) → a (12 + 4 * i + 2) = a (12 + 4 * j + 2) → B_X12_canPull_34 M Q (nI i) (nI j) 1 := fun p1 p2 p3 => by
    unfold B_X12_canPull_34
    refine br_f (by decide) ?_
    simp (disch := omega) only [i_lit, m_its h, eq_nI, le_nI]
    exact ⟨fun q4 => h0 (fun c => q4 c.2.2.2.1), fun q4 => ⟨fun q5 => h0 (fun c => q5 c.2.2.2.2.1), fun q5 => ⟨fun q6 => h0 (fun c => by have := c.2.2.2.2.2.1; omega), fun q6 => ⟨fun q7 => h0 (fun c => by have := c.2.2.2.2.2.2; omega), fun q7 => h1 ⟨p1, p2, p3, q4, q5, by omega, by omega⟩⟩⟩⟩⟩
  unfold P_X12_canPull
  rw [show (2 : Int32) = nI 2 from rfl, eq_nI (by omega) (by omega), m_its h (by omega), m_its h (by omega), m_its h (by omega), show (0 : Int32) = nI 0 from rfl, le_nI (by omega) (by omega), eq_nI (by omega) (by omega)]
  exact ⟨fun q => z0 (fun c => c.1 q), fun q => ⟨fun q2 => z0 (fun c => by have := c.2.1; omega), fun q2 => ⟨fun q3 => z0 (fun c => q3 c.2.2.1), fun q3 => z1 q (by omega) q3⟩⟩⟩
def lckd (a : Nat → Nat) : Prop := a 6 ≤ a 3 ∧ a 3 < a 7
theorem c_isLocked {K g : Nat} {M : Mem} {a : Nat → Nat} {Q : Int32 → Prop} (h : HR g M a) (d : DOK a) (h1 : lckd a → Q 1) (h0 : ¬ lckd a → Q 0) : P_X2_isLocked K M g Q := by
  have dd := d.2.1
  unfold P_X2_isLocked
  rw [h.2.1.1, h.2.1.2.2.2.1, h.2.1.2.2.2.2.1, lt_nI (by omega) (by omega), le_nI (by omega) (by omega)]
  exact ⟨fun q => h0 (fun c => by have := c.1; omega), fun q => ⟨fun q2 => h0 (fun c => by have := c.2; omega), fun q2 => h1 ⟨by omega, by omega⟩⟩⟩
theorem m_isLocked {M : Mem} {a : Nat → Nat} {Q : Int32 → Prop} (h : MR M a) (d : DOK a) (h1 : lckd a → Q 1) (h0 : ¬ lckd a → Q 0) : P_X12_isLocked M Q := by
  have dd := d.2.1
  unfold P_X12_isLocked
  rw [h 3 (by omega), h 6 (by omega), h 7 (by omega), lt_nI (by omega) (by omega), le_nI (by omega) (by omega)]
  exact ⟨fun q => h0 (fun c => by have := c.1; omega), fun q => ⟨fun q2 => h0 (fun c => by have := c.2; omega), fun q2 => h1 ⟨by omega, by omega⟩⟩⟩
/-! ===== the pull that a lodger chooses ===== -/
def canB (a : Nat → Nat) (i j : Nat) : Bool := decide (i ≠ j ∧ 0 < a (12 + 4 * i + 2) ∧ a (12 + 4 * i + 2) = a (12 + 4 * j + 2) ∧ a (12 + 4 * i + 3) = 0 ∧ a (12 + 4 * j + 3) = 0 ∧ a (12 + 4 * i + 1) < 9 ∧ 0 < a (12 + 4 * j + 1))
theorem canB_t {a : Nat → Nat} {i j : Nat} (h : canP a i j) : canB a i j = true := decide_eq_true h
theorem canB_f {a : Nat → Nat} {i j : Nat} (h : ¬ canP a i j) : canB a i j = false := decide_eq_false h
theorem canB_i {a : Nat → Nat} {i j : Nat} (h : canB a i j = true) : canP a i j := by
  unfold canB at h
  unfold canP
  exact of_decide_eq_true h
def farL (a : Nat → Nat) (V : Vt) (l : Nat) : Nat := farV (a (44 + 3 * l)) (a (44 + 3 * l + 1)) (airR a V (a (44 + 3 * l + 2)))
/-- on from the k-th pair, with what was found (0: nothing; one more than 8 times the one and the other) -/
def chG (a : Nat → Nat) (V : Vt) (l now n : Nat) : Nat → Nat → Nat → Nat
  | 0, _, z => z
  | f + 1, k, z =>
    if (a (12 + 4 * (k / n)) = a (44 + 3 * l + 2) ∨ a (12 + 4 * (k % n)) = a (44 + 3 * l + 2)) ∧ canB a (k / n) (k % n) = true then
      (if conL (plA a (k / n) (k % n)) V l = true then 8 * (k / n) + k % n + 1
      else chG a V l now n f (k + 1) (if farL (plA a (k / n) (k % n)) V l < now ∧ z = 0 then 8 * (k / n) + k % n + 1 else z))
    else chG a V l now n f (k + 1) z
def chV (a : Nat → Nat) (V : Vt) (l : Nat) : Nat := chG a V l (farL a V l) (a 0) (a 0 * a 0) 0 0
theorem m_choice {l : Nat} {M : Mem} {a : Nat → Nat} {V : Vt} {Q : Int32 → Mem → Prop} (h : MR M a) (d : DOK a) (v : VOK a V) (hl : l < a 2) (hV : ∀ i j, i < a 0 → j < a 0 → canP a i j → VOK (plA a i j) V) (hQ : ∀ M' : Mem, (∀ k, k ≠ 0 → k ≠ 1 → k ≠ 5 → M' k = M k) → (∀ j, (j < 5 ∨ 10 < j) → M' 0 j = M 0 j) → MR M' a → Q (cI (chV a V l)) M') : P_X12_choice M (nI l) Q := by
  have dl := d.2.2.2.1 l hl
  have hl6 := d.1.2.2
  have d0 := d.1.1
  have hf := farV_le (k := a (44 + 3 * l)) dl.2.1 (airR_le a V (a (44 + 3 * l + 2)))
  unfold P_X12_choice
  refine m_farOf h d v hl (fun M2 s2 => ?_)
  rintro _ rfl
  have h2 := h.ms s2
  rw [h2 0 (by omega)]
  unfold B_X12_choice_19
  intro X hX
  have hnn : a 0 * a 0 ≤ 64 := Nat.mul_le_mul (show a 0 ≤ 8 from d0) (show a 0 ≤ 8 from d0)
  have key : ∀ f k z (M3 : Mem), k + f = a 0 * a 0 → z ≤ 64 → (∀ k, k ≠ 0 → k ≠ 1 → k ≠ 5 → M3 k = M k) → (∀ j, (j < 5 ∨ 10 < j) → M3 0 j = M 0 j) → MR M3 a → chG a V l (farL a V l) (a 0) f k z = chV a V l → X (cI z) (nI k) M3 := by
    intro f
    induction f with
    | zero =>
      intro k z M3 hk hz k1 k2 h3 hc
      obtain rfl : k = a 0 * a 0 := by omega
      apply hX
      rw [pk_mul]
      refine br_t (nI_le (Nat.le_refl _) (by omega)) ?_
      have : z = chV a V l := hc
      rw [this]
      exact hQ M3 k1 k2 h3
    | succ f ih =>
      intro k z M3 hk hz k1 k2 h3 hc
      have hn0 : 0 < a 0 := by
        rcases Nat.eq_zero_or_pos (a 0) with q | q
        · rw [q] at hk; omega
        · exact q
      have hi : k / a 0 < a 0 := (Nat.div_lt_iff_lt_mul hn0).mpr (by omega)
      have hj : k % a 0 < a 0 := Nat.mod_lt _ hn0
      apply hX
      rw [pk_mul]
      refine br_f (nI_ge (by omega) (by omega)) ⟨nI_ne0 hn0 (by omega), ?_⟩
      rw [pk_rem (by omega) hn0 (by omega), pk_div (by omega) hn0 (by omega)]
      rintro _ rfl
      refine ⟨nI_ne0 hn0 (by omega), ?_⟩
      rintro _ rfl
      unfold chG at hc
      have bi := d.2.2.1 _ hi
      have bj := d.2.2.1 _ hj
      generalize k / a 0 = i at *
      generalize k % a 0 = j at *
      have nx : ∀ z', z' ≤ 64 → chG a V l (farL a V l) (a 0) f (k + 1) z' = chV a V l → ∀ M4 : Mem, (∀ k, k ≠ 0 → k ≠ 1 → k ≠ 5 → M4 k = M k) → (∀ j, (j < 5 ∨ 10 < j) → M4 0 j = M 0 j) → MR M4 a → X (cI z') (nI k + 1) M4 := fun z' hz' hc' M4 j1 j2 j3 => by
        rw [nI_1]
        exact ih (k + 1) z' M4 (by omega) hz' j1 j2 j3 hc'
      have no : ¬ ((a (12 + 4 * i) = a (44 + 3 * l + 2) ∨ a (12 + 4 * j) = a (44 + 3 * l + 2)) ∧ canP a i j) → X (cI z) (nI k + 1) M3 := fun q => by
        rw [if_neg (fun c => q ⟨c.1, canB_i c.2⟩)] at hc
        exact nx z hz hc M3 k1 k2 h3
      have yes : (a (12 + 4 * i) = a (44 + 3 * l + 2) ∨ a (12 + 4 * j) = a (44 + 3 * l + 2)) → B_X12_choice_80 Q X (nI l) (nI (farV (a (44 + 3 * l)) (a (44 + 3 * l + 1)) (airR a V (a (44 + 3 * l + 2))))) (cI z) (nI (a 0)) (nI k) (nI i) (nI j) 1 M3 := fun own => by
        unfold B_X12_choice_80
        refine br_f (by decide) (m_canPull h3 d hi hj (fun cp => ?_) (fun cp => ?_))
        · refine ⟨fun _ => ?_, fun q => absurd q (by decide)⟩
          rw [if_pos ⟨own, canB_t cp⟩] at hc
          have d4 := d.pl hi hj cp
          have e2 : plA a i j 2 = a 2 := plA_lo (by omega)
          refine h3.pl (by omega) (by omega) cp.1 cp.2.2.2.2.2.2 (fun M4 g4 h4 => m_isContent h4 d4 (hV i j hi hj cp) (by rw [e2]; exact hl) (fun M5 s5 => m_farOf (h4.ms s5) d4 (hV i j hi hj cp) (by rw [e2]; exact hl) (fun M6 s6 => ?_)))
          have h6 := (h4.ms s5).ms s6
          have hfl : farV (plA a i j (44 + 3 * l)) (plA a i j (44 + 3 * l + 1)) (airR (plA a i j) V (plA a i j (44 + 3 * l + 2))) = farL (plA a i j) V l := rfl
          have hfl2 : farV (a (44 + 3 * l)) (a (44 + 3 * l + 1)) (airR a V (a (44 + 3 * l + 2))) = farL a V l := rfl
          have hb : farL (plA a i j) V l ≤ 99 := farV_le (by rw [plA_hi (by omega) (by omega) (by omega)]; exact dl.2.1) (airR_le _ _ _)
          have hb2 : farL a V l ≤ 99 := hf
          rw [hfl, hfl2]
          have back : ∀ b : Bool, b = decide (farL (plA a i j) V l < farL a V l) → B_X12_choice_130 Q X (nI l) (nI (farL a V l)) (cI z) (nI (a 0)) (nI k) (nI i) (nI j) (bI (conL (plA a i j) V l)) (bI b) M6 := fun b hb => by
            unfold B_X12_choice_130
            refine h6.pl (by omega) (by omega) (Ne.symm cp.1) (by rw [plA_i]; omega) (fun M7 g7 h7 => ?_)
            rw [plA_back cp] at h7
            have j1 : ∀ k, k ≠ 0 → k ≠ 1 → k ≠ 5 → M7 k = M k := fun k q0 q1 q5 => by
              rw [g7 k q1, s6.1 k q0 q5, s5.1 k q0 q5, g4 k q1, k1 k q0 q1 q5]
            have j2 : ∀ j, (j < 5 ∨ 10 < j) → M7 0 j = M 0 j := fun j hj => by
              rw [g7 0 (by omega), s6.2 j hj, s5.2 j hj, g4 0 (by omega), k2 j hj]
            cases hcn : conL (plA a i j) V l with
            | true =>
              rw [if_pos hcn] at hc
              refine ⟨fun q => absurd q (by decide), fun _ => ?_⟩
              have := hQ M7 j1 j2 h7
              rw [← hc, cI_s] at this
              rw [show (8 : Int32) = nI 8 from rfl, pk_mul, nI_add]
              exact this
            | false =>
              rw [if_neg (by rw [hcn]; decide)] at hc
              refine ⟨fun _ => ?_, fun q => absurd rfl q⟩
              have hzz : (0 ≤ cI z) ↔ 0 < z := cI_nn (by omega)
              rw [hzz]
              refine ⟨fun q => ?_, fun q => ⟨fun q2 => ?_, fun q2 => ?_⟩⟩
              · have hbf : b = false := by cases b; rfl; exact absurd q (by decide)
                rw [hbf] at hb
                rw [if_neg (fun c => absurd c.1 (of_decide_eq_false hb.symm))] at hc
                rintro _ rfl
                exact nx z hz hc M7 j1 j2 h7
              · rw [if_neg (fun c => by omega)] at hc
                rintro _ rfl
                exact nx z hz hc M7 j1 j2 h7
              · have hbt : b = true := by cases b; exact absurd rfl q; rfl
                rw [hbt] at hb
                rw [if_pos ⟨of_decide_eq_true hb.symm, by omega⟩] at hc
                rintro _ rfl _ rfl
                rw [show (8 : Int32) = nI 8 from rfl, pk_mul, nI_add, ← cI_s]
                exact nx _ (by omega) hc M7 j1 j2 h7
          rw [le_nI (by omega) (by omega)]
          exact ⟨fun q => back false (by rw [decide_eq_false (by omega)]), fun q => back true (by rw [decide_eq_true (by omega)])⟩
        · refine ⟨fun q => absurd rfl q, fun _ => ?_⟩
          rintro _ rfl
          exact no (fun c => cp c.2)
      rw [show (0 : Int32) = nI 0 from rfl, show (2 : Int32) = nI 2 from rfl, m_its h3 (by omega), m_of h3 (by omega), m_its h3 (by omega), m_of h3 (by omega)]
      simp only [Nat.add_zero]
      rw [eq_nI (by omega) (by omega), eq_nI (by omega) (by omega)]
      refine ⟨fun q => yes (Or.inl q), fun q => ⟨fun q2 => ?_, fun q2 => yes (Or.inr q2)⟩⟩
      unfold B_X12_choice_80
      refine br_t rfl ?_
      rintro _ rfl
      exact no (fun c => by rcases c.1 with c | c; exact q c; exact q2 c)
  refine key (a 0 * a 0) 0 0 M2 (by omega) (by omega) (fun k q0 q1 q5 => s2.1 k q0 q5) s2.2 h2 rfl
