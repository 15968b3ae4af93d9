/-! ===== sets as bits ===== -/
def setP (f : Nat → Bool) : Nat → Nat
  | 0 => 0
  | l + 1 => setP f l + if f l then 2 ^ l else 0
theorem setP_lt (f : Nat → Bool) : ∀ n, setP f n < 2 ^ n
  | 0 => Nat.one_pos
  | l + 1 => by
    have := setP_lt f l
    have e : 2 ^ (l + 1) = 2 ^ l * 2 := Nat.pow_succ ..
    show setP f l + (if f l then 2 ^ l else 0) < 2 ^ (l + 1)
    split <;> omega
theorem sh31 : ∀ l, l < 32 → ((nI l &&& 31).toBitVec.smod 32).toNat = l := by decide +kernel
theorem one_shl {l : Nat} (hl : l < 31) : (1 : Int32) <<< (nI l &&& 31) = nI (2 ^ l) := by
  have h := Nat.pow_lt_pow_right (a := 2) (by omega) hl
  rw [show (1 : Int32) = nI 1 from rfl, pk_shlN _ l (sh31 l (by omega)) (by omega), Nat.one_mul]
theorem or_bit {s l : Nat} (hs : s < 2 ^ l) (hl : l < 30) : nI s ||| ((1 : Int32) <<< (nI l &&& 31)) = nI (s + 2 ^ l) := by
  have h := Nat.pow_lt_pow_right (a := 2) (by omega) hl
  rw [one_shl (by omega)]
  apply Int32.toBitVec_inj.mp
  apply BitVec.eq_of_toNat_eq
  rw [Int32.toBitVec_or, BitVec.toNat_or, pk_tn (by omega), pk_tn (by omega), pk_tn (by omega)]
  have := Nat.two_pow_add_eq_or_of_lt hs 1
  rw [Nat.mul_one] at this
  rw [Nat.or_comm, ← this]
  omega
def popP (s : Nat) : Nat → Nat
  | 0 => 0
  | k + 1 => popP s k + s / 2 ^ k % 2
def pop (s : Nat) : Nat := popP s 8
theorem popP_le (s : Nat) : ∀ k, popP s k ≤ k
  | 0 => Nat.le_refl _
  | k + 1 => by
    have := popP_le s k
    show popP s k + s / 2 ^ k % 2 ≤ k + 1
    omega
theorem pop_le (s : Nat) : pop s ≤ 8 := popP_le s 8
theorem m_ones {s : Nat} {Q : Int32 → Prop} (hs : s < 2147483648) (hQ : Q (nI (pop s))) : P_X12_ones (nI s) Q := by
  unfold P_X12_ones B_X12_ones_4
  intro X hX
  have key : ∀ f k, k + f = 8 → X (nI (popP s k)) (nI k) := by
    intro f
    induction f with
    | zero =>
      intro k hk
      obtain rfl : k = 8 := by omega
      apply hX
      exact br_t (nI_le (a := 8) (b := 8) (by omega) (by omega)) hQ
    | succ f ih =>
      intro k hk
      have n := ih (k + 1) (by omega)
      apply hX
      refine br_f (nI_ge (b := 8) (by omega) (by omega)) ?_
      rintro _ rfl _ rfl
      rw [pk_shrN (by omega) _ k (sh31 k (by omega)), pk_andN (Nat.lt_of_le_of_lt (Nat.div_le_self _ _) (by omega)) (m := 1) 1 (by decide), nI_add, nI_1]
      exact n
  exact key 8 0 (by omega)
def bcn (x0 : Int32) : Int32 := 
  let x1 := x0 - (((x0.toUInt32 >>> ((1 : Int32).toUInt32 &&& Int32.toUInt32 31)).toInt32) &&& 1431655765)
  let x2 := (x1 &&& 858993459) + (((x1.toUInt32 >>> ((2 : Int32).toUInt32 &&& Int32.toUInt32 31)).toInt32) &&& 858993459)
  let x3 := (x2 + ((x2.toUInt32 >>> ((4 : Int32).toUInt32 &&& Int32.toUInt32 31)).toInt32)) &&& 252645135
  let x4 := x3 + ((x3.toUInt32 >>> ((8 : Int32).toUInt32 &&& Int32.toUInt32 31)).toInt32)
  let x5 := x4 + ((x4.toUInt32 >>> ((16 : Int32).toUInt32 &&& Int32.toUInt32 31)).toInt32)
  x5 &&& 63
set_option maxRecDepth 100000 in
theorem bcn_pop : ∀ s, s < 256 → bcn (nI s) = nI (pop s) := by decide +kernel
theorem c_bitCount {x : Int32} {Q : Int32 → Prop} (hQ : Q (bcn x)) : P_J6_bitCount_0f7a4 x Q := by
  unfold P_J6_bitCount_0f7a4
  rintro _ rfl _ rfl _ rfl _ rfl _ rfl
  exact hQ
theorem c_bits {s : Nat} {Q : Int32 → Prop} (hs : s < 256) (hQ : Q (nI (pop s))) : P_J6_bitCount_0f7a4 (nI s) Q := c_bitCount (by rw [bcn_pop s hs]; exact hQ)
/-! ===== the content together ===== -/
def conS (a : Nat → Nat) (V : Vt) : Nat := setP (conL a V) (a 2)
theorem conS_lt {a : Nat → Nat} (d : DOK a) (V : Vt) : conS a V < 64 := by
  have := setP_lt (conL a V) (a 2)
  have := Nat.pow_le_pow_right (n := 2) (by omega) d.1.2.2
  unfold conS
  omega
theorem c_contentSet {K g t : Nat} {F : Ft} {M : Mem} {a : Nat → Nat} {V : Vt} {Q : Int32 → Mem → Prop} (hg : isH g) (h : HR g M a) (hr : TR g K t F M a V) (c : CX K t F M) (d : DOK a) (hQ : ∀ M' : Mem, Cs M M' → CX K t F M' → Q (nI (conS a V)) M') : P_X2_contentSet K M g Q := by
  unfold P_X2_contentSet B_X2_contentSet_4
  intro X hX
  have hl6 := d.1.2.2
  have key : ∀ f l (M' : Mem), l + f = a 2 → Cs M M' → CX K t F M' → X (nI (setP (conL a V) l)) (nI l) M' := by
    intro f
    induction f with
    | zero =>
      intro l M' hl s c'
      obtain rfl : l = a 2 := by omega
      apply hX
      rw [(s.HR hg h).1.2.2]
      exact br_t (nI_le (Nat.le_refl _) (by omega)) (hQ M' s c')
    | succ f ih =>
      intro l M' hl s c'
      have h' := s.HR hg h
      have hsl := setP_lt (conL a V) l
      apply hX
      rw [h'.1.2.2]
      refine br_f (nI_ge (by omega) (by omega)) (c_isContent hg h' (s.TR hg hr) c' d (by omega) (fun M1 s1 c1 => ?_))
      have n := ih (l + 1) M1 (by omega) (s.tr s1) c1
      have e : setP (conL a V) (l + 1) = setP (conL a V) l + if conL a V l then 2 ^ l else 0 := rfl
      refine ⟨fun q => ?_, fun q => ?_⟩
      · have : conL a V l = false := by cases hc : conL a V l; rfl; rw [hc] at q; exact absurd q (by decide)
        rintro _ rfl
        rw [e, this] at n
        rw [nI_1]
        exact n
      · have : conL a V l = true := by cases hc : conL a V l; rw [hc] at q; exact absurd rfl q; rfl
        rintro _ rfl _ rfl
        rw [e, this] at n
        rw [nI_1, or_bit hsl (by omega)]
        exact n
  exact key (a 2) 0 M (by omega) Cs.rf c
def farV (k m air : Nat) : Nat := if air < lst k m then lst k m - air else if mst k m < air then air - mst k m else 0
theorem farV_le {k m air : Nat} (hm : m ≤ 9) (ha : air ≤ 99) : farV k m air ≤ 99 := by
  have := lst_le k hm
  unfold farV
  split
  · omega
  · split <;> omega
theorem c_far {K g l air : Nat} {M : Mem} {a : Nat → Nat} {Q : Int32 → Prop} (h : HR g M a) (d : DOK a) (hl : l < a 2) (hair : air ≤ 99) (hQ : Q (nI (farV (a (44 + 3 * l)) (a (44 + 3 * l + 1)) air))) : P_X2_farFromWanted K M g (nI l) (nI air) Q := by
  have dl := d.2.2.2.1 l hl
  have hl6 := d.1.2.2
  have e := h.2.2.2.1 l hl
  have h1 := lst_le (a (44 + 3 * l)) dl.2.1
  have h2 := mst_le (a (44 + 3 * l)) dl.2.1
  have h3 := lm_le (a (44 + 3 * l)) dl.2.1
  have hin : vp_in (nI l) 6 := vp_in_nI (by omega) (by omega)
  unfold P_X2_farFromWanted
  refine ⟨hin, ?_⟩
  rw [cl_nI (by omega), e.1, e.2.1]
  rintro _ rfl
  refine ⟨kd15 dl.1, hin, c_least dl.1 dl.2.1 ?_⟩
  rintro _ rfl
  refine ⟨hin, ?_⟩
  rintro _ rfl
  refine ⟨kd15 dl.1, hin, c_most dl.1 dl.2.1 ?_⟩
  rintro _ rfl _ rfl _ rfl
  unfold farV at hQ
  generalize lst (a (44 + 3 * l)) (a (44 + 3 * l + 1)) = x at *
  generalize mst (a (44 + 3 * l)) (a (44 + 3 * l + 1)) = y at *
  have i1 : (nI x - nI air).toInt = (x : Int) - air := pk_sub_toInt (by omega) (by omega)
  have i2 : (nI air - nI y).toInt = (air : Int) - y := pk_sub_toInt (by omega) (by omega)
  have e0 : (0 : Int32).toInt = 0 := rfl
  have key : (if 0 < (if nI x - nI air < nI air - nI y then nI air - nI y else nI x - nI air) then (if nI x - nI air < nI air - nI y then nI air - nI y else nI x - nI air) else 0) = nI (if air < x then x - air else if y < air then air - y else 0) := by
    by_cases q1 : air < x
    · have j1 : ¬ nI x - nI air < nI air - nI y := by rw [Int32.lt_iff_toInt_lt, i1, i2]; omega
      have j2 : 0 < nI x - nI air := by rw [Int32.lt_iff_toInt_lt, i1, e0]; omega
      rw [if_neg j1, if_pos j2, if_pos q1, sb_nI (by omega)]
    · rw [if_neg q1]
      by_cases q2 : y < air
      · have j1 : nI x - nI air < nI air - nI y := by rw [Int32.lt_iff_toInt_lt, i1, i2]; omega
        have j2 : 0 < nI air - nI y := by rw [Int32.lt_iff_toInt_lt, i2, e0]; omega
        rw [if_pos j1, if_pos j2, if_pos q2, sb_nI (by omega)]
      · rw [if_neg q2]
        have j2 : ¬ 0 < (if nI x - nI air < nI air - nI y then nI air - nI y else nI x - nI air) := by
          split
          · rw [Int32.lt_iff_toInt_lt, i2, e0]; omega
          · rw [Int32.lt_iff_toInt_lt, i1, e0]; omega
        rw [if_neg j2]
        rfl
  rw [key]
  exact hQ
/-! ===== the same on the model's side ===== -/
theorem chain5 {v : Int32} {A B C D E : Prop} {k : Nat} (hv : v = nI k) (hk : k ≤ 6) (h1 : k = 1 → A) (h2 : k = 2 → B) (h4 : k = 4 → C) (h5 : k = 5 → D) (h0 : k ≠ 1 → k ≠ 2 → k ≠ 4 → k ≠ 5 → E) :
    (v = 1 → A) ∧ (v = 2 → B) ∧ (v = 4 → C) ∧ (v = 5 → D) ∧ (¬ v = 1 → ¬ v = 2 → ¬ v = 4 → ¬ v = 5 → E) := by
  subst hv
  simp (disch := omega) only [i_lit, eq_nI]
  exact ⟨h1, h2, h4, h5, h0⟩
theorem m_leastOf {l : Nat} {M : Mem} {a : Nat → Nat} {Q : Int32 → Prop} (h : MR M a) (d : DOK a) (hl : l < a 2) (hQ : Q (nI (lst (a (44 + 3 * l)) (a (44 + 3 * l + 1))))) : P_X12_leastOf M (nI l) Q := by
  have dl := d.2.2.2.1 l hl
  have hl6 := d.1.2.2
  have e := half5 dl.2.1
  unfold P_X12_leastOf B_X12_leastOf_42
  rw [show (0 : Int32) = nI 0 from rfl, show (1 : Int32) = nI 1 from rfl, m_of h (by omega), m_of h (by omega), Nat.add_zero]
  unfold lst at hQ
  refine chain5 rfl dl.1 (fun q => ?_) (fun q => ?_) (fun q => ?_) (fun q => ?_) (fun q1 q2 q4 q5 => ?_)
  · rw [if_pos q] at hQ; exact hQ
  · rw [if_neg (by omega), if_pos q] at hQ; rw [e]; exact hQ
  · rw [if_neg (by omega), if_neg (by omega), if_pos q] at hQ; exact hQ
  · rw [if_neg (by omega), if_neg (by omega), if_neg (by omega), if_pos q] at hQ; rw [e]; exact hQ
  · rw [if_neg q1, if_neg q2, if_neg q4, if_neg q5] at hQ; exact hQ
theorem m_mostOf {l : Nat} {M : Mem} {a : Nat → Nat} {Q : Int32 → Prop} (h : MR M a) (d : DOK a) (hl : l < a 2) (hQ : Q (nI (mst (a (44 + 3 * l)) (a (44 + 3 * l + 1))))) : P_X12_mostOf M (nI l) Q := by
  have dl := d.2.2.2.1 l hl
  have hl6 := d.1.2.2
  unfold P_X12_mostOf B_X12_mostOf_61
  rw [show (0 : Int32) = nI 0 from rfl, show (1 : Int32) = nI 1 from rfl, m_of h (by omega), m_of h (by omega), m_of h (by omega), m_of h (by omega), Nat.add_zero]
  unfold mst at hQ
  refine chain5 rfl dl.1 (fun q => ?_) (fun q => ?_) (fun q => ?_) (fun q => ?_) (fun q1 q2 q4 q5 => ?_)
  · rw [if_pos q] at hQ; rw [show (3 : Int32) = nI 3 from rfl, nI_add]; exact hQ
  · rw [if_neg (by omega), if_pos q] at hQ; exact hQ
  · rw [if_neg (by omega), if_neg (by omega), if_pos q] at hQ; rw [show (4 : Int32) = nI 4 from rfl, nI_add]; exact hQ
  · rw [if_neg (by omega), if_neg (by omega), if_neg (by omega), if_pos q] at hQ; exact hQ
  · rw [if_neg q1, if_neg q2, if_neg q4, if_neg q5] at hQ; rw [show (9 : Int32) = nI 9 from rfl, nI_add]; exact hQ
