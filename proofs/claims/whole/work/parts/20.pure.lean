/-! ===== numbers ===== -/
theorem i_lit (n : Nat) : (OfNat.ofNat n : Int32) = nI n := rfl
theorem in_nI {k n : Nat} (hk : k < 2147483648) : vp_in (nI k) n ↔ k < n := by
  constructor
  · intro h
    have := (vp_in_iff.mp h).2
    rw [nI_toInt (by omega)] at this
    omega
  · intro h
    rw [vp_in_iff, nI_toInt (by omega)]
    omega
theorem cl_nI {k : Nat} (hk : k < 2147483648) : (nI k).toNatClampNeg = k := nI_clamp hk
theorem le_nI {a b : Nat} (ha : a < 2147483648) (hb : b < 2147483648) : nI a ≤ nI b ↔ a ≤ b := nI_leI ha hb
theorem lt_nI {a b : Nat} (ha : a < 2147483648) (hb : b < 2147483648) : nI a < nI b ↔ a < b := nI_ltI ha hb
theorem eq_nI {a b : Nat} (ha : a < 2147483648) (hb : b < 2147483648) : nI a = nI b ↔ a = b := nI_eq ha hb
theorem sb_nI {a b : Nat} (h : b ≤ a) : nI a - nI b = nI (a - b) := pk_sub h
/-- one less: -1 for 0 -/
def cI (n : Nat) : Int32 := nI n - 1
theorem cI_0 : cI 0 = -1 := by decide
theorem cI_s (n : Nat) : cI (n + 1) = nI n := nI_pred n
theorem cI_toInt {n : Nat} (h : n < 1073741824) : (cI n).toInt = (n : Int) - 1 := pk_sub_toInt (a := n) (b := 1) (by omega) (by omega)
theorem cI_eq {m n : Nat} (hm : m < 1073741824) (hn : n < 1073741824) : cI m = cI n ↔ m = n := by
  rw [← Int32.toInt_inj, cI_toInt hm, cI_toInt hn]
  omega
theorem cI_eqn {m n : Nat} (hm : m < 1073741824) (hn : n < 1073741824) : cI m = nI n ↔ m = n + 1 := by
  rw [← Int32.toInt_inj, cI_toInt hm, nI_toInt (by omega)]
  omega
theorem cI_eqn' {m n : Nat} (hm : m < 1073741824) (hn : n < 1073741824) : nI n = cI m ↔ m = n + 1 := by
  rw [eq_comm, cI_eqn hm hn]
theorem cI_neg {m : Nat} (hm : m < 1073741824) : cI m < nI 0 ↔ m = 0 := by
  rw [Int32.lt_iff_toInt_lt, cI_toInt hm, nI_toInt (by omega)]
  omega
theorem cI_nn {m : Nat} (hm : m < 1073741824) : nI 0 ≤ cI m ↔ 0 < m := by
  rw [Int32.le_iff_toInt_le, cI_toInt hm, nI_toInt (by omega)]
  omega
theorem in_lt {x : Int32} {n : Nat} (hn : n < 2147483648) : vp_in x n ↔ nI 0 ≤ x ∧ x < nI n := by
  rw [vp_in_iff, Int32.le_iff_toInt_le, Int32.lt_iff_toInt_lt, nI_toInt (by omega), nI_toInt hn]
  simp
theorem sf_at (M : Mem) (k j : Nat) (v : Int32) (k' j' : Nat) : sf M k j v k' j' = if k' = k then (if j' = j then v else M k' j') else M k' j' := by
  unfold sf mu upd
  by_cases h : k' = k
  · subst h
    simp
  · simp [h]
/-! ===== the abstract state: the model's row of numbers as naturals, and what the two texts give ===== -/
abbrev Vt : Type := Nat → Int32 → Int32 → Int32 → Int32
def HR (g : Nat) (M : Mem) (a : Nat → Nat) : Prop :=
  (M g 0 = nI (a 0) ∧ M g 1 = nI (a 1) ∧ M g 2 = nI (a 2)) ∧ (M g 10 = nI (a 3) ∧ M g 11 = nI (a 4) ∧ M g 12 = nI (a 5) ∧ M g 13 = nI (a 6) ∧ M g 14 = nI (a 7) ∧ M g 15 = nI (a 8)) ∧
  (∀ w, w < a 0 → M (g + 1) w = nI (a (12 + 4 * w)) ∧ M (g + 2) w = nI (a (12 + 4 * w + 1)) ∧ M (g + 3) w = cI (a (12 + 4 * w + 2)) ∧ M (g + 4) w = nI (a (12 + 4 * w + 3))) ∧
  (∀ l, l < a 2 → M (g + 5) l = nI (15 + a (44 + 3 * l)) ∧ M (g + 6) l = nI (a (44 + 3 * l + 1)) ∧ M (g + 7) l = nI (a (44 + 3 * l + 2))) ∧
  (M (g + 8) 1 = nI (a 9) ∧ ∀ i, i < a 9 → M (g + 9) i = nI (a (212 + i))) ∧ M (g + 10) 1 = nI (a 10) ∧ ∀ i, i < a 10 → M (g + 11) i = nI (a (92 + i))
def cntC (a : Nat → Nat) (c : Nat) : Nat → Nat
  | 0 => 0
  | w + 1 => cntC a c w + if a (12 + 4 * w + 2) = c then 1 else 0
def DOK (a : Nat → Nat) : Prop :=
  (a 0 ≤ 8 ∧ a 1 ≤ 4 ∧ a 2 ≤ 6) ∧ (a 3 ≤ 23 ∧ a 4 ≤ 999 ∧ a 5 ≤ 999999 ∧ a 6 ≤ 24 ∧ a 7 ≤ 24) ∧
  (∀ w, w < a 0 → a (12 + 4 * w) ≤ 8 ∧ a (12 + 4 * w + 1) ≤ 9 ∧ a (12 + 4 * w + 2) ≤ a 1 ∧ a (12 + 4 * w + 3) ≤ 1) ∧
  (∀ l, l < a 2 → a (44 + 3 * l) ≤ 6 ∧ a (44 + 3 * l + 1) ≤ 9 ∧ a (44 + 3 * l + 2) ≤ 8) ∧
  (a 9 ≤ 50 ∧ a 10 ≤ 20 ∧ a 90 ≤ 50 ∧ a 91 ≤ 50) ∧ (∀ i, i < 50 → a (212 + i) ≤ 255) ∧ (∀ i, i < 100 → a (112 + i) ≤ 255) ∧ ∀ c, 0 < c → c ≤ a 1 → cntC a c (a 0) ≤ 3
def MR (M : Mem) (a : Nat → Nat) : Prop := ∀ k, k < 264 → M 1 k = nI (a k)
/-- open together in the room x - 1 -/
def oinP (a : Nat → Nat) (x : Nat) : Nat → Nat
  | 0 => 0
  | w + 1 => oinP a x w + if a (12 + 4 * w) + 1 = x then a (12 + 4 * w + 1) else 0
def oin (a : Nat → Nat) (x : Nat) : Nat := oinP a x (a 0)
theorem oinP_le {a : Nat → Nat} (d : DOK a) (x : Nat) : ∀ w, w ≤ a 0 → oinP a x w ≤ 9 * w
  | 0, _ => Nat.le_refl _
  | w + 1, h => by
    have := oinP_le d x w (by omega)
    have := (d.2.2.1 w (by omega)).2.1
    show oinP a x w + (if a (12 + 4 * w) + 1 = x then a (12 + 4 * w + 1) else 0) ≤ 9 * (w + 1)
    split <;> omega
theorem c_openIn {K g : Nat} {M : Mem} {a : Nat → Nat} {x : Nat} {Q : Int32 → Prop} (h : HR g M a) (d : DOK a) (hx : x ≤ 10) (hQ : Q (nI (oin a x))) : P_X2_openIn K M g (cI x) Q := by
  unfold P_X2_openIn B_X2_openIn_4
  intro X hX
  have d0 := d.1.1
  have key : ∀ f w, w + f = a 0 → X (nI (oinP a x w)) (nI w) := by
    intro f
    induction f with
    | zero =>
      intro w hw
      obtain rfl : w = a 0 := by omega
      apply hX
      simp (disch := omega) only [h.1.1, le_nI, Nat.le_refl, true_implies, not_true, false_implies, and_true]
      exact hQ
    | succ f ih =>
      intro w hw
      have e := h.2.2.1 w (by omega)
      have b := d.2.2.1 w (by omega)
      have n := ih (w + 1) (by omega)
      apply hX
      simp (disch := omega) only [h.1.1, le_nI, in_nI, cl_nI, e.1, e.2.1, cI_eqn', nI_add, nI_1, forall_eq]
      refine ⟨fun q => absurd q (by omega), fun _ => ⟨by omega, fun q => ?_, fun q => ⟨by omega, ?_⟩⟩⟩
      · have : oinP a x (w + 1) = oinP a x w := by
          show oinP a x w + (if a (12 + 4 * w) + 1 = x then a (12 + 4 * w + 1) else 0) = _
          rw [if_neg (by omega)]
          rfl
        rw [this] at n
        exact n
      · have : oinP a x (w + 1) = oinP a x w + a (12 + 4 * w + 1) := by
          show oinP a x w + (if a (12 + 4 * w) + 1 = x then a (12 + 4 * w + 1) else 0) = _
          rw [if_pos (by omega)]
        rw [this] at n
        exact n
  exact key (a 0) 0 (by omega)
