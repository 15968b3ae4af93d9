/-! ===== the class's search ===== -/
def lcd (a : Nat → Nat) (w : Nat) : Nat := if ls a w = true then a (12 + 4 * w + 2) else 0
theorem c_looseOn {K w : Nat} {M : Mem} {a : Nat → Nat} {Q : Int32 → Prop} (h : HR 30 M a) (d : DOK a) (hw : w < a 0) (hQ : Q (cI (lcd a w))) : P_X5_looseOn K M (nI w) Q := by
  have d0 := d.1.1
  have e := h.2.2.1 w hw
  have b := d.2.2.1 w hw
  have e3 : M 33 w = cI (a (12 + 4 * w + 2)) := e.2.2.1
  have e4 : M 34 w = nI (a (12 + 4 * w + 3)) := e.2.2.2
  unfold P_X5_looseOn
  rw [cl_nI (by omega), e3, e4]
  refine ⟨vp_in_nI (by omega) (by omega), fun q => ⟨vp_in_nI (by omega) (by omega), ?_⟩, fun q => ?_⟩
  · have q : a (12 + 4 * w + 3) = 0 := (eq_nI (b := 0) (by omega) (by omega)).mp q
    have el : lcd a w = a (12 + 4 * w + 2) := by
      unfold lcd
      by_cases z : a (12 + 4 * w + 2) = 0
      · rw [z]; split <;> rfl
      · rw [if_pos (ls_t.mpr ⟨by omega, q⟩)]
    rw [el] at hQ
    exact hQ
  · have el : lcd a w = 0 := by
      unfold lcd
      exact if_neg (fun z => q (by rw [(ls_t.mp z).2]; rfl))
    rw [el] at hQ
    exact hQ
theorem cnP_add {p q s : Nat → Bool} : ∀ n, (∀ i, i < n → (if p i = true then 1 else 0) + (if q i = true then 1 else 0) = if s i = true then 1 else 0) → cnP p n + cnP q n = cnP s n
  | 0, _ => rfl
  | n + 1, h => by
    have ih := cnP_add (p := p) (q := q) (s := s) n (fun i hi => h i (by omega))
    have e := h n (by omega)
    show cnP p n + (if p n = true then 1 else 0) + (cnP q n + (if q n = true then 1 else 0)) = cnP s n + (if s n = true then 1 else 0)
    omega
theorem cnP_b (p : Nat → Bool) : ∀ n, cnP p n ≤ n
  | 0 => Nat.le_refl _
  | n + 1 => by
    have := cnP_b p n
    show cnP p n + (if p n = true then 1 else 0) ≤ n + 1
    split <;> omega
theorem cnP_0 {p : Nat → Bool} {i : Nat} : ∀ n, i ≤ n → (∀ j, i ≤ j → j < n → p j = false) → cnP p n = cnP p i
  | 0, h, _ => by rw [show i = 0 by omega]
  | n + 1, h, e => by
    by_cases q : i = n + 1
    · rw [q]
    · show cnP p n + (if p n = true then 1 else 0) = _
      rw [cnP_0 n (by omega) (fun j j1 j2 => e j j1 (by omega)), if_neg (by rw [e n (by omega) (by omega)]; decide)]
      rfl
theorem RO_b {a r l : Nat → Nat} {N f p : Nat} (h : SU a g1 N f r l ≤ 72) : RO a N f r l (p + 1) + (RO a N f r l p + RO a N f r l (p + 2)) ≤ 72 :=
  Nat.le_trans (S3 (fun m => gx3 (by omega) (by omega) (by omega))) h
set_option maxHeartbeats 4000000 in
theorem c_contentOf {K t N f : Nat} {F : Ft} {M : Mem} {a r l : Nat → Nat} {V : Vt} {q : Nat → Bool} {Q : Int32 → Mem → Prop} (h : HR 30 M a) (tr : TR 30 K t F M a V) (c : CX K t F M) (d : DOK a) (h9 : ∀ x, x < 11 → M 9 x = nI (RO a N f r l x)) (h72 : SU a g1 N f r l ≤ 72) (hQ : ∀ M' : Mem, Cs M M' → CX K t F M' → Q (nI (cnP (fun i => q i && con a V N f r l i) (a 2))) M') : P_X5_contentOf K M (nI (setP q (a 2))) Q := by
  have d2 := d.1.2.2
  have hs := setP_lt q (a 2)
  have hs2 := Nat.pow_le_pow_right (n := 2) (by omega) d2
  unfold P_X5_contentOf B_X5_contentOf_4
  intro X hX
  have key : ∀ f' i M1, i + f' = a 2 → Cs M M1 → CX K t F M1 → X (nI (cnP (fun i => q i && con a V N f r l i) i)) (nI i) M1 := by
    intro f'
    induction f' with
    | zero =>
      intro i M1 hi s1 c1
      obtain rfl : i = a 2 := by omega
      apply hX
      have h1 := s1.HR (Or.inl rfl) h
      have f2 : M1 30 2 = nI (a 2) := h1.1.2.2
      rw [f2]
      exact br_t (nI_le (Nat.le_refl _) (by omega)) (hQ M1 s1 c1)
    | succ f' ih =>
      intro i M1 hi s1 c1
      have h1 := s1.HR (Or.inl rfl) h
      have t1 := s1.TR (Or.inl rfl) tr
      have f2 : M1 30 2 = nI (a 2) := h1.1.2.2
      have dl := d.2.2.2.1 i (by omega)
      have e7 : M1 37 i = nI (a (44 + 3 * i + 2)) := (h1.2.2.2.1 i (by omega)).2.2
      have m9e : M1 9 = M 9 := s1 9 (by omega) (fun j => by omega)
      have es : cnP (fun i => q i && con a V N f r l i) (i + 1) = cnP (fun i => q i && con a V N f r l i) i + if (q i && con a V N f r l i) = true then 1 else 0 := rfl
      have hsi : setP q (a 2) / 2 ^ i ≤ setP q (a 2) := Nat.div_le_self _ _
      apply hX
      rw [f2, pk_shrN (by omega) _ i (sh31 i (by omega)), pk_andN (by omega) (m := 1) 1 (by decide), Nat.pow_one, setP_bit q (a 2) i (by omega)]
      refine br_f (nI_ge (by omega) (by omega)) ⟨fun z => ?_, fun z => ⟨fun z2 => ?_, fun z2 => ⟨vp_in_nI (by omega) (by omega), ?_⟩⟩⟩
      · have z : setP q (a 2) / 2 ^ i = 0 := (eq_nI (b := 0) (by omega) (by omega)).mp z
        have zl : setP q (a 2) < 2 ^ i := by
          rcases Nat.div_eq_zero_iff.mp z with y | y
          · have := Nat.two_pow_pos i
            omega
          · exact y
        rw [← cnP_0 (p := fun i => q i && con a V N f r l i) (i := i) (a 2) (by omega) (fun j j1 j2 => ?_)]
        · exact hQ M1 s1 c1
        · have b := setP_bit q (a 2) j j2
          rw [Nat.div_eq_of_lt (Nat.lt_of_lt_of_le zl (Nat.pow_le_pow_right (by omega) j1))] at b
          cases y : q j with
          | false => exact Bool.false_and _
          | true => rw [if_pos y] at b; omega
      · have zq : q i = false := by
          cases y : q i with
          | false => rfl
          | true => rw [if_pos y] at z2; exact absurd z2 (by decide)
        rintro _ rfl
        rw [nI_1]
        have := ih (i + 1) M1 (by omega) s1 c1
        rw [es, zq, Bool.false_and, if_neg (by decide)] at this
        exact this
      · have zq : q i = true := by
          cases y : q i with
          | true => rfl
          | false => rw [if_neg (by rw [y]; decide)] at z2; exact absurd rfl z2
        rw [cl_nI (by omega), e7, nI_1]
        rintro _ rfl
        rw [nI_1, show nI (a (44 + 3 * i + 2) + 1) - 1 = nI (a (44 + 3 * i + 2)) from cI_s _, cl_nI (by omega), cl_nI (by omega), cl_nI (by omega), m9e, h9 _ (by omega), h9 _ (by omega), h9 _ (by omega), nI_add]
        refine ⟨vp_in_nI (by omega) (by omega), vp_in_nI (by omega) (by omega), vp_in_nI (by omega) (by omega), c_airBy (Or.inl rfl) h1 t1 c1 d (RO_b h72) (fun M2 s2 c2 => c_isContentBy (s2.HR (Or.inl rfl) h1) d (by omega) (airV_le _ _ _ _) ?_)⟩
        have := ih (i + 1) M2 (by omega) (s1.tr s2) c2
        rw [es, zq, Bool.true_and] at this
        show (bI (con a V N f r l i) = 0 → _) ∧ (¬ bI (con a V N f r l i) = 0 → _)
        cases y : con a V N f r l i with
        | false =>
          rw [y, if_neg (by decide)] at this
          refine ⟨fun _ => ?_, fun x => absurd rfl x⟩
          rintro _ rfl _ rfl
          rw [nI_1, show (0 : Int32) = nI 0 from rfl, nI_add]
          exact this
        | true =>
          rw [y, if_pos rfl] at this
          refine ⟨fun x => absurd x (by decide), fun _ => ?_⟩
          rintro _ rfl _ rfl
          rw [nI_1, nI_1]
          exact this
  exact key (a 2) 0 M (by omega) Cs.rf c
theorem c_fl {K w c L : Nat} {M : Mem} {a : Nat → Nat} {x3 x4 : Int32} {Q : Mem → Prop} (h : HR 30 M a) (d : DOK a) (hw : w < a 0) (hc : c < 4) (hL : L < a 0) (h12 : M 12 c = nI L) (hQ : ∀ M' : Mem, (∀ k, k ≠ 9 → k ≠ 10 → k ≠ 11 → M' k = M k) → (∀ x, M' 9 x = if x = a (12 + 4 * L) + 1 then (if x = a (12 + 4 * w) + 1 then M 9 x + x3 else M 9 x) - x3 else (if x = a (12 + 4 * w) + 1 then M 9 x + x3 else M 9 x)) → (∀ j, M' 10 j = if j = c then M 10 c - x3 else M 10 j) → (∀ j, M' 11 j = if j = c then M 11 c - x4 else M 11 j) → Q M') : P_X5_fill K M (nI w) (nI c) x3 x4 Q := by
  have d0 := d.1.1
  have e1 : M 31 w = nI (a (12 + 4 * w)) := (h.2.2.1 w hw).1
  have e2 : M 31 L = nI (a (12 + 4 * L)) := (h.2.2.1 L hL).1
  have b1 := (d.2.2.1 w hw).1
  have b2 := (d.2.2.1 L hL).1
  unfold P_X5_fill
  rw [cl_nI (k := w) (by omega), cl_nI (k := c) (by omega), e1, nI_1]
  refine ⟨vp_in_nI (by omega) (by omega), ?_⟩
  rintro _ rfl
  refine ⟨vp_in_nI (by omega) (by omega), vp_in_nI (by omega) (by omega), ?_⟩
  rw [cl_nI (by omega)]
  rintro _ rfl
  rw [sf_ne (k' := 12) (by omega), sf_ne (k' := 31) (by omega), h12, cl_nI (k := L) (by omega), e2, nI_1]
  refine ⟨vp_in_nI (by omega) (by omega), vp_in_nI (by omega) (by omega), ?_⟩
  rintro _ rfl
  refine ⟨vp_in_nI (by omega) (by omega), vp_in_nI (by omega) (by omega), ?_⟩
  rw [cl_nI (by omega)]
  rintro _ rfl
  refine ⟨vp_in_nI (by omega) (by omega), vp_in_nI (by omega) (by omega), ?_⟩
  rintro _ rfl
  refine ⟨vp_in_nI (by omega) (by omega), vp_in_nI (by omega) (by omega), ?_⟩
  rintro _ rfl
  refine hQ _ (fun k h9 h10 h11 => by rw [sf_ne h11, sf_ne h10, sf_ne h9, sf_ne h9]) (fun x => ?_) (fun j => ?_) (fun j => ?_)
  · rw [sf_ne (by omega), sf_ne (by omega)]
    by_cases q : x = a (12 + 4 * L) + 1
    · rw [if_pos q, q, sf_e rfl rfl]
      by_cases q2 : a (12 + 4 * L) + 1 = a (12 + 4 * w) + 1
      · rw [if_pos q2, q2, sf_e rfl rfl]
      · rw [if_neg q2, sf_j q2]
    · rw [if_neg q, sf_j q]
      by_cases q2 : x = a (12 + 4 * w) + 1
      · rw [if_pos q2, q2, sf_e rfl rfl]
      · rw [if_neg q2, sf_j q2]
  · rw [sf_ne (by omega)]
    by_cases q : j = c
    · rw [if_pos q, q, sf_e rfl rfl, sf_ne (by omega), sf_ne (by omega)]
    · rw [if_neg q, sf_j q, sf_ne (by omega), sf_ne (by omega)]
  · by_cases q : j = c
    · rw [if_pos q, q, sf_e rfl rfl, sf_ne (by omega), sf_ne (by omega), sf_ne (by omega)]
    · rw [if_neg q, sf_j q, sf_ne (by omega), sf_ne (by omega), sf_ne (by omega)]
theorem neg_a (x : Nat) {v : Nat} (h : v ≤ x) : nI x + (-nI v) = nI (x - v) := by
  rw [← Int32.sub_eq_add_neg, sb_nI h]
theorem neg_s (x v : Nat) : nI x - (-nI v) = nI (x + v) := by
  rw [Int32.sub_neg, nI_add]
theorem c_fl1 {K w c L v lc k : Nat} {M : Mem} {a R R' : Nat → Nat} {Q : Mem → Prop} (h : HR 30 M a) (d : DOK a) (hw : w < a 0) (hc : c < 4) (hL : L < a 0) (h12 : M 12 c = nI L) (e : ∀ x, R' x + v * gx x (a (12 + 4 * L)) = R x + v * gx x (a (12 + 4 * w))) (h9 : ∀ x, x < 11 → M 9 x = nI (R x)) (h10 : M 10 c = nI lc) (hv : v ≤ lc) (h11 : M 11 c = nI (1 + k)) (hQ : ∀ M' : Mem, (∀ k, k ≠ 9 → k ≠ 10 → k ≠ 11 → M' k = M k) → (∀ x, x < 11 → M' 9 x = nI (R' x)) → M' 10 c = nI (lc - v) → (∀ j, j ≠ c → M' 10 j = M 10 j) → M' 11 c = nI k → (∀ j, j ≠ c → M' 11 j = M 11 j) → Q M') : P_X5_fill K M (nI w) (nI c) (nI v) 1 Q := by
  refine c_fl h d hw hc hL h12 (fun M' g e9 e10 e11 => hQ M' g (fun x hx => ?_) (by rw [e10, if_pos rfl, h10, sb_nI hv]) (fun j hj => by rw [e10, if_neg hj]) ?_ (fun j hj => by rw [e11, if_neg hj]))
  · rw [e9, h9 x hx]
    have ex := e x
    unfold gx at ex
    by_cases q : x = a (12 + 4 * L) + 1
    · rw [if_pos q.symm, Nat.mul_one] at ex
      rw [if_pos q]
      by_cases q2 : x = a (12 + 4 * w) + 1
      · rw [if_pos q2.symm] at ex
        rw [if_pos q2, nI_add, sb_nI (by omega)]
        exact congrArg nI (by omega)
      · rw [if_neg (Ne.symm q2)] at ex
        rw [if_neg q2, sb_nI (by omega)]
        exact congrArg nI (by omega)
    · rw [if_neg (Ne.symm q), Nat.mul_zero] at ex
      rw [if_neg q]
      by_cases q2 : x = a (12 + 4 * w) + 1
      · rw [if_pos q2.symm] at ex
        rw [if_pos q2, nI_add]
        exact congrArg nI (by omega)
      · rw [if_neg (Ne.symm q2)] at ex
        rw [if_neg q2]
        exact congrArg nI (by omega)
  · rw [e11, if_pos rfl, h11, show (1 : Int32) = nI 1 from rfl, sb_nI (by omega)]
    exact congrArg nI (by omega)
theorem c_fl2 {K w c L v lc k : Nat} {M : Mem} {a R R' : Nat → Nat} {Q : Mem → Prop} (h : HR 30 M a) (d : DOK a) (hw : w < a 0) (hc : c < 4) (hL : L < a 0) (h12 : M 12 c = nI L) (e : ∀ x, R' x + v * gx x (a (12 + 4 * L)) = R x + v * gx x (a (12 + 4 * w))) (h9 : ∀ x, x < 11 → M 9 x = nI (R' x)) (h10 : M 10 c = nI (lc - v)) (hv : v ≤ lc) (h11 : M 11 c = nI k) (hQ : ∀ M' : Mem, (∀ k, k ≠ 9 → k ≠ 10 → k ≠ 11 → M' k = M k) → (∀ x, x < 11 → M' 9 x = nI (R x)) → M' 10 c = nI lc → (∀ j, j ≠ c → M' 10 j = M 10 j) → M' 11 c = nI (1 + k) → (∀ j, j ≠ c → M' 11 j = M 11 j) → Q M') : P_X5_fill K M (nI w) (nI c) (-nI v) (-1) Q := by
  refine c_fl h d hw hc hL h12 (fun M' g e9 e10 e11 => hQ M' g (fun x hx => ?_) ?_ (fun j hj => by rw [e10, if_neg hj]) ?_ (fun j hj => by rw [e11, if_neg hj]))
  · rw [e9, h9 x hx]
    have ex := e x
    unfold gx at ex
    by_cases q : x = a (12 + 4 * L) + 1
    · rw [if_pos q.symm, Nat.mul_one] at ex
      rw [if_pos q]
      by_cases q2 : x = a (12 + 4 * w) + 1
      · rw [if_pos q2.symm] at ex
        rw [if_pos q2, Int32.sub_neg, Int32.add_assoc, Int32.add_left_neg, Int32.add_zero]
        exact congrArg nI (by omega)
      · rw [if_neg (Ne.symm q2)] at ex
        rw [if_neg q2, neg_s]
        exact congrArg nI (by omega)
    · rw [if_neg (Ne.symm q), Nat.mul_zero] at ex
      rw [if_neg q]
      by_cases q2 : x = a (12 + 4 * w) + 1
      · rw [if_pos q2.symm] at ex
        rw [if_pos q2, neg_a _ (by omega)]
        exact congrArg nI (by omega)
      · rw [if_neg (Ne.symm q2)] at ex
        rw [if_neg q2]
        exact congrArg nI (by omega)
  · rw [e10, if_pos rfl, h10, neg_s]
    exact congrArg nI (by omega)
  · rw [e11, if_pos rfl, h11, show (-1 : Int32) = -nI 1 from rfl, neg_s]
    exact congrArg nI (by omega)
