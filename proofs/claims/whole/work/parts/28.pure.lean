/-! ===== a PULL ===== -/
def updN (a : Nat → Nat) (k v : Nat) : Nat → Nat := fun j => if j = k then v else a j
theorem updN_s (a : Nat → Nat) (k v : Nat) : updN a k v k = v := if_pos rfl
theorem updN_n {a : Nat → Nat} {k j v : Nat} (h : j ≠ k) : updN a k v j = a j := if_neg h
def plA (a : Nat → Nat) (i j : Nat) : Nat → Nat := fun k => if k = 12 + 4 * i + 1 then a (12 + 4 * i + 1) + 1 else if k = 12 + 4 * j + 1 then a (12 + 4 * j + 1) - 1 else a k
theorem plA_i {a : Nat → Nat} {i j : Nat} : plA a i j (12 + 4 * i + 1) = a (12 + 4 * i + 1) + 1 := if_pos rfl
theorem plA_j {a : Nat → Nat} {i j : Nat} (h : i ≠ j) : plA a i j (12 + 4 * j + 1) = a (12 + 4 * j + 1) - 1 := by
  unfold plA
  rw [if_neg (by omega), if_pos rfl]
theorem plA_n {a : Nat → Nat} {i j k : Nat} (h1 : k ≠ 12 + 4 * i + 1) (h2 : k ≠ 12 + 4 * j + 1) : plA a i j k = a k := by
  unfold plA
  rw [if_neg h1, if_neg h2]
def canP (a : Nat → Nat) (i j : Nat) : Prop := i ≠ j ∧ 0 < a (12 + 4 * i + 2) ∧ a (12 + 4 * i + 2) = a (12 + 4 * j + 2) ∧ a (12 + 4 * i + 3) = 0 ∧ a (12 + 4 * j + 3) = 0 ∧ a (12 + 4 * i + 1) < 9 ∧ 0 < a (12 + 4 * j + 1)
theorem plA_back {a : Nat → Nat} {i j : Nat} (h : canP a i j) : plA (plA a i j) j i = a := by
  funext k
  have hij := h.1
  have hj := h.2.2.2.2.2.2
  by_cases k1 : k = 12 + 4 * j + 1
  · subst k1
    rw [plA_i, plA_j hij]
    omega
  · by_cases k2 : k = 12 + 4 * i + 1
    · subst k2
      rw [plA_j (Ne.symm hij), plA_i]
      omega
    · rw [plA_n k1 k2, plA_n k2 k1]
theorem cntC_pl (a : Nat → Nat) (i j c : Nat) : ∀ w, cntC (plA a i j) c w = cntC a c w
  | 0 => rfl
  | w + 1 => by
    show cntC (plA a i j) c w + (if plA a i j (12 + 4 * w + 2) = c then 1 else 0) = cntC a c w + (if a (12 + 4 * w + 2) = c then 1 else 0)
    rw [cntC_pl a i j c w, plA_n (by omega) (by omega)]
theorem plA_lo {a : Nat → Nat} {i j k : Nat} (h : k < 12) : plA a i j k = a k := plA_n (by omega) (by omega)
theorem plA_hi {a : Nat → Nat} {i j k : Nat} (hi : i < 8) (hj : j < 8) (h : 44 ≤ k) : plA a i j k = a k := plA_n (by omega) (by omega)
theorem DOK.pl {a : Nat → Nat} (d : DOK a) {i j : Nat} (hi : i < a 0) (hj : j < a 0) (h : canP a i j) : DOK (plA a i j) := by
  have d0 := d.1.1
  unfold DOK
  rw [plA_lo (k := 0) (by omega), plA_lo (k := 1) (by omega), plA_lo (k := 2) (by omega), plA_lo (k := 3) (by omega), plA_lo (k := 4) (by omega), plA_lo (k := 5) (by omega), plA_lo (k := 6) (by omega), plA_lo (k := 7) (by omega), plA_lo (k := 9) (by omega), plA_lo (k := 10) (by omega), plA_hi (k := 90) (by omega) (by omega) (by omega), plA_hi (k := 91) (by omega) (by omega) (by omega)]
  refine ⟨d.1, d.2.1, fun w hw => ?_, fun l hl => ?_, d.2.2.2.2.1, fun k hk => ?_, fun k hk => ?_, fun c c1 c2 => ?_⟩
  · have b := d.2.2.1 w hw
    have bi := d.2.2.1 i hi
    rw [plA_n (k := 12 + 4 * w) (by omega) (by omega), plA_n (k := 12 + 4 * w + 2) (by omega) (by omega), plA_n (k := 12 + 4 * w + 3) (by omega) (by omega)]
    refine ⟨b.1, ?_, b.2.2⟩
    by_cases q1 : w = i
    · subst q1
      rw [plA_i]
      have := h.2.2.2.2.2.1
      omega
    · by_cases q2 : w = j
      · subst q2
        rw [plA_j h.1]
        omega
      · rw [plA_n (by omega) (by omega)]
        exact b.2.1
  · rw [plA_hi (by omega) (by omega) (by omega), plA_hi (by omega) (by omega) (by omega), plA_hi (by omega) (by omega) (by omega)]
    exact d.2.2.2.1 l hl
  · rw [plA_hi (by omega) (by omega) (by omega)]
    exact d.2.2.2.2.2.1 k hk
  · rw [plA_hi (by omega) (by omega) (by omega)]
    exact d.2.2.2.2.2.2.1 k hk
  · rw [cntC_pl]
    exact d.2.2.2.2.2.2.2 c c1 c2
theorem oin_pl {a : Nat → Nat} {i j : Nat} (hi : i < a 0) (hj : j < a 0) (h : canP a i j) (x : Nat) : oin (plA a i j) x + (if a (12 + 4 * j) + 1 = x then 1 else 0) = oin a x + (if a (12 + 4 * i) + 1 = x then 1 else 0) := by
  have hij := h.1
  have hjp := h.2.2.2.2.2.2
  have key : ∀ w, oinP (plA a i j) x w + (if j < w then (if a (12 + 4 * j) + 1 = x then 1 else 0) else 0) = oinP a x w + (if i < w then (if a (12 + 4 * i) + 1 = x then 1 else 0) else 0) := by
    intro w
    induction w with
    | zero => rfl
    | succ w ih =>
      show oinP (plA a i j) x w + (if plA a i j (12 + 4 * w) + 1 = x then plA a i j (12 + 4 * w + 1) else 0) + _ = oinP a x w + (if a (12 + 4 * w) + 1 = x then a (12 + 4 * w + 1) else 0) + _
      rw [plA_n (k := 12 + 4 * w) (by omega) (by omega)]
      by_cases q1 : w = i
      · subst q1
        rw [plA_i]
        rw [if_neg (show ¬ w < w by omega)] at ih
        rw [if_pos (show w < w + 1 by omega)]
        by_cases q2 : j < w
        · rw [if_pos q2] at ih
          rw [if_pos (show j < w + 1 by omega)]
          split <;> omega
        · rw [if_neg q2] at ih
          rw [if_neg (show ¬ j < w + 1 by omega)]
          split <;> omega
      · by_cases q2 : w = j
        · subst q2
          rw [plA_j hij]
          rw [if_neg (show ¬ w < w by omega)] at ih
          rw [if_pos (show w < w + 1 by omega)]
          by_cases q3 : i < w
          · rw [if_pos q3] at ih
            rw [if_pos (show i < w + 1 by omega)]
            split <;> omega
          · rw [if_neg q3] at ih
            rw [if_neg (show ¬ i < w + 1 by omega)]
            split <;> omega
        · rw [plA_n (k := 12 + 4 * w + 1) (by omega) (by omega)]
          have e1 : (j < w + 1) = (j < w) := propext (by omega)
          have e2 : (i < w + 1) = (i < w) := propext (by omega)
          simp only [e1, e2]
          omega
  have := key (a 0)
  rw [if_pos hi, if_pos hj] at this
  unfold oin
  rw [plA_lo (by omega)]
  exact this
theorem MR.pl {M : Mem} {a : Nat → Nat} (h : MR M a) {i j : Nat} (hi : i < 8) (hj : j < 8) (hij : i ≠ j) (hop : 0 < a (12 + 4 * j + 1)) {Q : Mem → Prop} (hQ : ∀ M' : Mem, (∀ k, k ≠ 1 → M' k = M k) → MR M' (plA a i j) → Q M') : P_X12_pulls M (nI i) (nI j) Q := by
  unfold P_X12_pulls
  rw [show (1 : Int32) = nI 1 from rfl, m_its h (by omega), m_puts (by omega)]
  have h1 : MR (sf M 1 (12 + 4 * i + 1) (nI (a (12 + 4 * i + 1)) + nI 1)) (updN a (12 + 4 * i + 1) (a (12 + 4 * i + 1) + 1)) := fun k hk => by
    rw [sf_at, if_pos rfl, nI_add]
    unfold updN
    split
    · rfl
    · exact h k hk
  rw [m_its h1 (by omega), m_puts (by omega), updN_n (by omega)]
  refine hQ _ (fun k hk => by rw [sf_ne hk, sf_ne hk]) (fun k hk => ?_)
  rw [sf_at, if_pos rfl, sb_nI hop]
  by_cases q : k = 12 + 4 * j + 1
  · subst q
    rw [if_pos rfl, plA_j hij]
  · rw [if_neg q, h1 k hk]
    unfold plA updN
    by_cases q2 : k = 12 + 4 * i + 1
    · rw [if_pos q2, if_pos q2]
    · rw [if_neg q2, if_neg q2, if_neg q]
theorem HR.pl {K g : Nat} {M : Mem} {a : Nat → Nat} (h : HR g M a) (d : DOK a) {i j : Nat} (hi : i < a 0) (hj : j < a 0) (hij : i ≠ j) (hop : 0 < a (12 + 4 * j + 1)) {Q : Mem → Prop} (hQ : ∀ M' : Mem, (∀ k, k ≠ g + 2 → M' k = M k) → HR g M' (plA a i j) → Q M') : P_X2_pullBy K M g (nI i) (nI j) Q := by
  have d0 := d.1.1
  have ei := (h.2.2.1 i hi).2.1
  have ej := (h.2.2.1 j hj).2.1
  have ini : vp_in (nI i) 8 := vp_in_nI (by omega) (by omega)
  have inj : vp_in (nI j) 8 := vp_in_nI (by omega) (by omega)
  unfold P_X2_pullBy
  refine ⟨ini, ini, ?_⟩
  rw [cl_nI (by omega), cl_nI (by omega), ei]
  rintro _ rfl
  refine ⟨inj, inj, ?_⟩
  rintro _ rfl
  rw [sf_at (k' := g + 2), if_pos rfl, if_neg (Ne.symm hij), ej]
  refine hQ _ (fun k hk => by rw [sf_ne hk, sf_ne hk]) ?_
  have hk : ∀ k, k ≠ g + 2 → sf (sf M (g + 2) i (nI (a (12 + 4 * i + 1)) + 1)) (g + 2) j (nI (a (12 + 4 * j + 1)) - 1) k = M k := fun k hk => by rw [sf_ne hk, sf_ne hk]
  have h2 : ∀ w, w < a 0 → sf (sf M (g + 2) i (nI (a (12 + 4 * i + 1)) + 1)) (g + 2) j (nI (a (12 + 4 * j + 1)) - 1) (g + 2) w = nI (plA a i j (12 + 4 * w + 1)) := fun w hw => by
    rw [sf_at, if_pos rfl]
    by_cases q : w = j
    · subst q
      rw [if_pos rfl, plA_j hij]
      exact sb_nI (b := 1) hop
    · rw [if_neg q, sf_at, if_pos rfl]
      by_cases q2 : w = i
      · subst q2
        rw [if_pos rfl, plA_i, nI_1]
      · rw [if_neg q2, plA_n (by omega) (by omega)]
        exact (h.2.2.1 w hw).2.1
  generalize sf (sf M (g + 2) i (nI (a (12 + 4 * i + 1)) + 1)) (g + 2) j (nI (a (12 + 4 * j + 1)) - 1) = M' at *
  unfold HR
  rw [plA_lo (k := 0) (by omega), plA_lo (k := 1) (by omega), plA_lo (k := 2) (by omega), plA_lo (k := 3) (by omega), plA_lo (k := 4) (by omega), plA_lo (k := 5) (by omega), plA_lo (k := 6) (by omega), plA_lo (k := 7) (by omega), plA_lo (k := 8) (by omega), plA_lo (k := 9) (by omega), plA_lo (k := 10) (by omega)]
  rw [hk g (by omega), hk (g + 1) (by omega), hk (g + 3) (by omega), hk (g + 4) (by omega), hk (g + 5) (by omega), hk (g + 6) (by omega), hk (g + 7) (by omega), hk (g + 8) (by omega), hk (g + 9) (by omega), hk (g + 10) (by omega), hk (g + 11) (by omega)]
  refine ⟨h.1, h.2.1, fun w hw => ?_, fun l hl => ?_, ⟨h.2.2.2.2.1.1, fun k hk => ?_⟩, h.2.2.2.2.2.1, fun k hk => ?_⟩
  · have e := h.2.2.1 w hw
    rw [plA_n (k := 12 + 4 * w) (by omega) (by omega), plA_n (k := 12 + 4 * w + 2) (by omega) (by omega), plA_n (k := 12 + 4 * w + 3) (by omega) (by omega)]
    exact ⟨e.1, h2 w hw, e.2.2⟩
  · rw [plA_hi (by omega) (by omega) (by omega), plA_hi (by omega) (by omega) (by omega), plA_hi (by omega) (by omega) (by omega)]
    exact h.2.2.2.1 l hl
  · rw [plA_hi (by omega) (by omega) (by omega)]
    exact h.2.2.2.2.1.2 k hk
  · rw [plA_hi (by omega) (by omega) (by omega)]
    exact h.2.2.2.2.2.2 k hk
