/-! ===== how many standings ===== -/
theorem fvs_map {σ τ : Type} (φ : σ → τ) {h : Nat → σ → σ} {h' : Nat → τ → τ} (e : ∀ v s, φ (h v s) = h' v (φ s)) : ∀ k v s, φ (fvs h k v s) = fvs h' k v (φ s)
  | 0, _, _ => rfl
  | k + 1, v, s => by
    rw [fvs_s, fvs_s, fvs_map φ e k (v + 1), e]
theorem go_map {σ τ : Type} (φ : σ → τ) {a : Nat → Nat} {N : Nat} {lf : (Nat → Nat) → σ → σ} {lf' : (Nat → Nat) → τ → τ} (e : ∀ r s, φ (lf r s) = lf' r (φ s)) : ∀ f r l s, φ (go a N lf f r l s) = go a N lf' f r l (φ s) := by
  intro f
  induction f with
  | zero => intro r l s; exact e r s
  | succ f ih =>
    intro r l s
    rw [go_s, go_s]
    by_cases q : ls a (N - (f + 1)) = true
    · rw [if_pos q, if_pos q]
      by_cases z : ctL a (a (12 + 4 * (N - (f + 1)) + 2)) N f = 0
      · rw [if_pos z, if_pos z]
        by_cases y : l (a (12 + 4 * (N - (f + 1)) + 2)) ≤ 9
        · rw [if_pos y, if_pos y, ih]
        · rw [if_neg y, if_neg y]
      · rw [if_neg z, if_neg z]
        exact fvs_map φ (h := fun v s' => go a N lf f (updN r (N - (f + 1)) v) (updN l (a (12 + 4 * (N - (f + 1)) + 2)) (l (a (12 + 4 * (N - (f + 1)) + 2)) - v)) s') (h' := fun v s' => go a N lf' f (updN r (N - (f + 1)) v) (updN l (a (12 + 4 * (N - (f + 1)) + 2)) (l (a (12 + 4 * (N - (f + 1)) + 2)) - v)) s') (fun v s => ih _ _ _) _ _ _
    · rw [if_neg q, if_neg q, ih]
def lfc (_ : Nat → Nat) (T : TS) : TS := (T.1 + 1, T.2)
/-- but the rows that a search uses -/
def Gt (M M' : Mem) : Prop := (∀ k, k ≠ 0 → k ≠ 1 → k ≠ 5 → k ≠ 6 → k ≠ 7 → k ≠ 8 → k ≠ 9 → k ≠ 10 → M' k = M k) ∧ ∀ j, (j < 5 ∨ (10 < j ∧ j ≠ 16 ∧ j ≠ 17 ∧ j ≠ 18)) → M' 0 j = M 0 j
theorem Gt.fm {M M' : Mem} (h : Gt M M') : FMo M M' := ⟨fun k h1 => h.1 k (by omega) (by omega) (by omega) (by omega) (by omega) (by omega) (by omega) (by omega), h.2 3 (by omega), h.2 23 (by omega)⟩
theorem m_goThrough {M : Mem} {a : Nat → Nat} {x1 x2 : Int32} {lf : (Nat → Nat) → TS → TS} {Q : Mem → Prop} (h : MR M a) (d : DOK a)
    (leaf : ∀ X, GX Q x1 x2 X → ∀ r l T M, SS a (a 0) r l (a 0) T M → (∀ k, k < a 0 → r k ≤ 9) → (∀ M', Gf M M' → SS a (a 0) r l (a 0) (lf r T) M' → X (cI (a 0)) M') → X (nI (a 0)) M)
    (hQ : ∀ M' r0, Gt M M' → MR M' a → BR (a 0) (go a (a 0) lf (a 0) (fun _ => 0) (fun c => l0 a c (a 0)) (0, 0, 0, r0)) M' → Q M') : P_X12_goThrough M x1 x2 Q := by
  have d0 := d.1.1
  have d1 := d.1.2.1
  have hl0 : ∀ c w, w ≤ a 0 → l0 a c w ≤ 9 * w := by
    intro c w
    induction w with
    | zero => intro _; exact Nat.le_refl _
    | succ w ih =>
      intro hw
      have := ih (by omega)
      have b := (d.2.2.1 w (by omega)).2.1
      show l0 a c w + (if ls a w = true ∧ a (12 + 4 * w + 2) = c then a (12 + 4 * w + 1) else 0) ≤ _
      split <;> omega
  unfold P_X12_goThrough B_X12_goThrough_2
  intro X2 hX2
  -- the main loop
  have main : ∀ M6, Gt M M6 → MR M6 a → (∀ k, k < a 0 → M6 7 k = nI (a (12 + 4 * k + 1))) → (∀ c, c < 5 → M6 8 c = nI (l0 a c (a 0))) → (∀ c, c < 5 → M6 9 c = cI (la a c (a 0))) → M6 0 16 = nI 0 → M6 0 18 = -1 → M6 0 17 = nI 0 → M6 6 0 = -1 → B_X12_goThrough_121 Q x1 x2 0 M6 := fun M6 g6 mr6 e7 e8 e9 e16 e18 e17 e6 => by
    unfold B_X12_goThrough_121
    intro X hX
    have hX : GX Q x1 x2 X := hX
    have key := gt_ex (lf := lf) hX d rfl (leaf X hX) (a 0) (fun _ => 0) (fun c => l0 a c (a 0)) (0, 0, 0, fun k => uN (M6 10 k)) M6 (Nat.le_refl _)
    rw [Nat.sub_self] at key
    refine key ⟨mr6, fun k hk => absurd hk (by omega), e8, e7, e9, e16, e18, e17, fun k hk => (nI_u _).symm⟩ e6 (fun k hk => absurd hk (by omega)) (fun c hc => by have := hl0 c (a 0) (Nat.le_refl _); show l0 a c (a 0) ≤ 1000; omega) (fun M' g' s' => ?_)
    apply hX
    refine br_t (by decide) (hQ M' _ ⟨fun k h0 h1 h5 h6 h7 h8 h9 h10 => by rw [g'.1 k h0 h1 h5 h6 h8 h10]; exact g6.1 k h0 h1 h5 h6 h7 h8 h9 h10, fun j hj => by rw [g'.2 j hj]; exact g6.2 j hj⟩ s'.1 s'.2.2.2.2.2)
  -- the windows, one by one
  have wins : ∀ M4, Gt M M4 → MR M4 a → M4 0 = M 0 → (∀ c, c < 5 → M4 8 c = nI 0) → (∀ c, c < 5 → M4 9 c = cI 0) → B_X12_goThrough_29 Q x1 x2 0 M4 := fun M4 g4 mr4 z4 e8 e9 => by
    unfold B_X12_goThrough_29
    intro X hX
    have key : ∀ f w M5, w + f = a 0 → Gt M M5 → MR M5 a → (∀ k, k < w → M5 7 k = nI (a (12 + 4 * k + 1))) → (∀ c, c < 5 → M5 8 c = nI (l0 a c w)) → (∀ c, c < 5 → M5 9 c = cI (la a c w)) → X (nI w) M5 := by
      intro f
      induction f with
      | zero =>
        intro w M5 hw g5 mr5 e7 e8 e9
        obtain rfl : w = a 0 := by omega
        apply hX
        rw [mr5 0 (by omega)]
        refine br_t (nI_le (Nat.le_refl _) (by omega)) ?_
        rintro _ rfl _ rfl _ rfl _ rfl
        refine main _ ⟨fun k h0 h1 h5 h6 h7 h8 h9 h10 => by rw [sf_ne h6, sf_ne h0, sf_ne h0, sf_ne h0]; exact g5.1 k h0 h1 h5 h6 h7 h8 h9 h10, fun j hj => by rw [sf_ne (by omega), sf_j (by omega), sf_j (by omega), sf_j (by omega)]; exact g5.2 j hj⟩ (fun k hk => by rw [sf_ne (by omega), sf_ne (by omega), sf_ne (by omega), sf_ne (by omega)]; exact mr5 k hk) (fun k hk => by rw [sf_ne (by omega), sf_ne (by omega), sf_ne (by omega), sf_ne (by omega)]; exact e7 k hk) (fun k hk => by rw [sf_ne (by omega), sf_ne (by omega), sf_ne (by omega), sf_ne (by omega)]; exact e8 k hk) (fun k hk => by rw [sf_ne (by omega), sf_ne (by omega), sf_ne (by omega), sf_ne (by omega)]; exact e9 k hk) ?_ ?_ ?_ (sf_e rfl rfl)
        · rw [sf_ne (by omega), sf_j (by omega), sf_j (by omega), sf_e rfl rfl]
          rfl
        · rw [sf_ne (by omega), sf_j (by omega), sf_e rfl rfl]
        · rw [sf_ne (by omega), sf_e rfl rfl]
          rfl
      | succ f ih =>
        intro w M5 hw g5 mr5 e7 e8 e9
        have b := d.2.2.1 w (by omega)
        apply hX
        rw [mr5 0 (by omega), show (1 : Int32) = nI 1 from rfl, show (2 : Int32) = nI 2 from rfl, m_its mr5 (by omega), cl_nI (by omega)]
        refine br_f (nI_ge (by omega) (by omega)) ⟨vp_in_nI (by omega) (by omega), ?_⟩
        rintro _ rfl
        have mr6 : MR (sf M5 7 w (nI (a (12 + 4 * w + 1)))) a := fun k hk => by rw [sf_ne (by omega)]; exact mr5 k hk
        have g6 : Gt M (sf M5 7 w (nI (a (12 + 4 * w + 1)))) := ⟨fun k h0 h1 h5 h6 h7 h8 h9 h10 => by rw [sf_ne h7]; exact g5.1 k h0 h1 h5 h6 h7 h8 h9 h10, fun j hj => by rw [sf_ne (by omega)]; exact g5.2 j hj⟩
        have e76 : ∀ k, k < w + 1 → sf M5 7 w (nI (a (12 + 4 * w + 1))) 7 k = nI (a (12 + 4 * k + 1)) := fun k hk => by
          by_cases e : k = w
          · rw [e, sf_e rfl rfl]
          · rw [sf_j e]; exact e7 k (by omega)
        have e86 : ∀ c, c < 5 → sf M5 7 w (nI (a (12 + 4 * w + 1))) 8 c = nI (l0 a c w) := fun c hc => by rw [sf_ne (by omega)]; exact e8 c hc
        have e96 : ∀ c, c < 5 → sf M5 7 w (nI (a (12 + 4 * w + 1))) 9 c = cI (la a c w) := fun c hc => by rw [sf_ne (by omega)]; exact e9 c hc
        generalize sf M5 7 w (nI (a (12 + 4 * w + 1))) = M6 at *
        have el : ∀ c, l0 a c (w + 1) = l0 a c w + if ls a w = true ∧ a (12 + 4 * w + 2) = c then a (12 + 4 * w + 1) else 0 := fun c => rfl
        have ela : ∀ c, la a c (w + 1) = if ls a w = true ∧ a (12 + 4 * w + 2) = c then w + 1 else la a c w := fun c => rfl
        refine m_isLoose mr6 d (by omega) ?_
        cases hl : ls a w with
        | false =>
          refine ⟨fun _ => ?_, fun z => absurd rfl z⟩
          rintro _ rfl
          rw [nI_add]
          exact ih (w + 1) M6 (by omega) g6 mr6 e76 (fun c hc => by rw [el, if_neg (fun z => by rw [hl] at z; exact absurd z.1 (by decide)), Nat.add_zero]; exact e86 c hc) (fun c hc => by rw [ela, if_neg (fun z => by rw [hl] at z; exact absurd z.1 (by decide))]; exact e96 c hc)
        | true =>
          refine ⟨fun z => absurd z (by decide), fun _ => ?_⟩
          rw [m_its mr6 (by omega)]
          have hcw : a (12 + 4 * w + 2) ≤ 4 := by omega
          have vin : vp_in (nI (a (12 + 4 * w + 2))) 5 := vp_in_nI (by omega) (by omega)
          refine ⟨vin, ?_⟩
          rw [m_its mr6 (by omega), cl_nI (by omega), e86 _ (by omega), nI_add]
          refine ⟨vin, ?_⟩
          rintro _ rfl
          have mr7 : MR (sf M6 8 (a (12 + 4 * w + 2)) (nI (l0 a (a (12 + 4 * w + 2)) w + a (12 + 4 * w + 1)))) a := fun k hk => by rw [sf_ne (by omega)]; exact mr6 k hk
          rw [m_its mr7 (by omega), cl_nI (by omega)]
          refine ⟨vin, ?_⟩
          rintro _ rfl _ rfl
          rw [nI_add]
          refine ih (w + 1) _ (by omega) ⟨fun k h0 h1 h5 h6 h7 h8 h9 h10 => by rw [sf_ne h9, sf_ne h8]; exact g6.1 k h0 h1 h5 h6 h7 h8 h9 h10, fun j hj => by rw [sf_ne (by omega), sf_ne (by omega)]; exact g6.2 j hj⟩ (fun k hk => by rw [sf_ne (by omega)]; exact mr7 k hk) (fun k hk => by rw [sf_ne (by omega), sf_ne (by omega)]; exact e76 k hk) (fun c hc => ?_) (fun c hc => ?_)
          · rw [sf_ne (by omega), el]
            by_cases e : a (12 + 4 * w + 2) = c
            · rw [if_pos ⟨hl, e⟩, e, sf_e rfl rfl]
            · rw [if_neg (fun z => e z.2), sf_j (Ne.symm e), Nat.add_zero]
              exact e86 c hc
          · rw [ela]
            by_cases e : a (12 + 4 * w + 2) = c
            · rw [if_pos ⟨hl, e⟩, e, sf_e rfl rfl, cI_s]
            · rw [if_neg (fun z => e z.2), sf_j (Ne.symm e), sf_ne (by omega)]
              exact e96 c hc
    exact key (a 0) 0 M4 (by omega) g4 mr4 (fun k hk => absurd hk (by omega)) (fun c hc => e8 c hc) (fun c hc => e9 c hc)
  have key : ∀ f c M4, c + f = 5 → Gt M M4 → MR M4 a → M4 0 = M 0 → (∀ x, x < c → M4 8 x = nI 0) → (∀ x, x < c → M4 9 x = cI 0) → X2 (nI c) M4 := by
    intro f
    induction f with
    | zero =>
      intro c M4 hc g4 mr4 z4 e8 e9
      obtain rfl : c = 5 := by omega
      apply hX2
      exact br_t (by decide) (wins M4 g4 mr4 z4 e8 e9)
    | succ f ih =>
      intro c M4 hc g4 mr4 z4 e8 e9
      apply hX2
      rw [cl_nI (by omega)]
      refine br_f (nI_ge (b := 5) (by omega) (by omega)) ⟨vp_in_nI (by omega) (by omega), ?_⟩
      rintro _ rfl
      refine ⟨vp_in_nI (by omega) (by omega), ?_⟩
      rintro _ rfl _ rfl
      rw [nI_1]
      refine ih (c + 1) _ (by omega) ⟨fun k h0 h1 h5 h6 h7 h8 h9 h10 => by rw [sf_ne h9, sf_ne h8]; exact g4.1 k h0 h1 h5 h6 h7 h8 h9 h10, fun j hj => by rw [sf_ne (by omega), sf_ne (by omega)]; exact g4.2 j hj⟩ (fun k hk => by rw [sf_ne (by omega), sf_ne (by omega)]; exact mr4 k hk) (by rw [sf_ne (by omega), sf_ne (by omega)]; exact z4) (fun x hx => ?_) (fun x hx => ?_)
      · rw [sf_ne (by omega)]
        by_cases e : x = c
        · rw [e, sf_e rfl rfl]
          rfl
        · rw [sf_j e]; exact e8 x (by omega)
      · by_cases e : x = c
        · rw [e, sf_e rfl rfl]
          exact cI_0.symm
        · rw [sf_j e, sf_ne (by omega)]; exact e9 x (by omega)
  exact key 5 0 M (by omega) ⟨fun _ _ _ _ _ _ _ _ _ => rfl, fun _ _ => rfl⟩ h rfl (fun x hx => absurd hx (by omega)) (fun x hx => absurd hx (by omega))
theorem leaf_cnt {a : Nat → Nat} {Q : Mem → Prop} {x2 : Int32} (d : DOK a) : ∀ X, GX Q 0 x2 X → ∀ r l T M, SS a (a 0) r l (a 0) T M → (∀ k, k < a 0 → r k ≤ 9) → (∀ M', Gf M M' → SS a (a 0) r l (a 0) (lfc r T) M' → X (cI (a 0)) M') → X (nI (a 0)) M := fun X hX r l T M s hr k => by
  have d0 := d.1.1
  apply hX
  rw [s.1 0 (by omega)]
  refine br_f (nI_pos (by omega)) ⟨fun z => absurd rfl z, fun _ => ?_⟩
  rw [s.2.2.2.2.2.1, nI_1]
  rintro _ rfl _ rfl
  refine ⟨fun _ => ?_, fun z => absurd rfl z⟩
  rw [add_m1]
  rintro _ rfl
  refine k _ ⟨fun k h0 h1 h5 h6 h8 h10 => sf_ne h0, fun j hj => sf_j (by omega)⟩ ⟨fun k hk => by rw [sf_ne (by omega)]; exact s.1 k hk, fun k hk => by rw [sf_ne (by omega)]; exact s.2.1 k hk, fun k hk => by rw [sf_ne (by omega)]; exact s.2.2.1 k hk, fun k hk => by rw [sf_ne (by omega)]; exact s.2.2.2.1 k hk, fun k hk => by rw [sf_ne (by omega)]; exact s.2.2.2.2.1 k hk, sf_e rfl rfl, by rw [sf_j (by omega)]; exact s.2.2.2.2.2.2.1, by rw [sf_j (by omega)]; exact s.2.2.2.2.2.2.2.1, fun k hk => by rw [sf_ne (by omega)]; exact s.2.2.2.2.2.2.2.2 k hk⟩
/-! the class's side: cord by cord -/
def cnP (p : Nat → Bool) : Nat → Nat
  | 0 => 0
  | w + 1 => cnP p w + if p w = true then 1 else 0
theorem setP_tb (p : Nat → Bool) (n j : Nat) : (setP p n).testBit j = (decide (j < n) && p j) := by
  by_cases q : j < n
  · rw [Nat.testBit_eq_decide_div_mod_eq, setP_bit p n j q, decide_eq_true q, Bool.true_and]
    cases p j <;> rfl
  · rw [decide_eq_false q, Bool.false_and]
    exact Nat.testBit_lt_two_pow (Nat.lt_of_lt_of_le (setP_lt p n) (Nat.pow_le_pow_right (by omega) (by omega)))
theorem pop_setP (p : Nat → Bool) (n : Nat) (hn : n ≤ 8) : pop (setP p n) = cnP p n := by
  have key : ∀ m, popP (setP p n) m = cnP p (if m < n then m else n) := by
    intro m
    induction m with
    | zero =>
      show 0 = _
      by_cases q : 0 < n
      · rw [if_pos q]
        rfl
      · rw [if_neg q, show n = 0 by omega]
        rfl
    | succ m ih =>
      show popP (setP p n) m + setP p n / 2 ^ m % 2 = _
      rw [ih]
      by_cases q : m < n
      · rw [if_pos q, setP_bit p n m q]
        have e : (if m + 1 < n then m + 1 else n) = m + 1 := by split <;> omega
        rw [e]
        rfl
      · rw [if_neg q, if_neg (by omega), Nat.div_eq_of_lt (Nat.lt_of_lt_of_le (setP_lt p n) (Nat.pow_le_pow_right (by omega) (by omega)))]
        omega
  have := key 8
  unfold pop
  rw [this]
  congr 1
  split <;> omega
theorem nI_tb {s j : Nat} (hj : j < 32) : (nI s).toBitVec.getLsbD j = s.testBit j := by
  show (BitVec.ofNat 32 s).getLsbD j = _
  rw [BitVec.getLsbD_ofNat, decide_eq_true hj, Bool.true_and]
theorem and_not {p q : Nat → Bool} {n : Nat} (hn : n ≤ 8) : nI (setP p n) &&& (nI (setP q n) ^^^ (-1)) = nI (setP (fun w => p w && !q w) n) := by
  apply Int32.toBitVec_inj.mp
  apply BitVec.eq_of_getLsbD_eq
  intro j hj
  rw [Int32.toBitVec_and, Int32.toBitVec_xor, BitVec.getLsbD_and, BitVec.getLsbD_xor, nI_tb hj, nI_tb hj, nI_tb hj, setP_tb, setP_tb, setP_tb]
  have e : (-1 : Int32).toBitVec.getLsbD j = true := by
    have : ∀ j, j < 32 → (-1 : Int32).toBitVec.getLsbD j = true := by decide
    exact this j hj
  rw [e]
  cases decide (j < n) <;> cases p j <;> cases q j <;> rfl
theorem c_w2 {L v : Nat} {R : Int32 → Prop} (hL : L ≤ 100) (hv : v ≤ 100) (h : R (nI (if L < v then 0 else if 18 < L - v then 0 else if 9 < L - v then 19 - (L - v) else L - v + 1))) : P_X11_waysOfTwo (nI L - nI v) R := by
  unfold P_X11_waysOfTwo
  by_cases q : L < v
  · rw [if_pos q] at h
    exact br_t (pk_sneg (by omega) q) h
  · rw [if_neg q] at h
    rw [sb_nI (by omega)]
    refine br_f (nI_pos (by omega)) ?_
    by_cases q2 : 18 < L - v
    · rw [if_pos q2] at h
      exact br_f (nI_ge (a := 18) (by omega) (by omega)) h
    · rw [if_neg q2] at h
      refine br_t (nI_le (b := 18) (by omega) (by omega)) ?_
      by_cases q3 : 9 < L - v
      · rw [if_pos q3] at h
        rw [show (19 : Int32) - nI (L - v) = nI (19 - (L - v)) from sb_nI (a := 19) (by omega)]
        exact br_t (nI_lt (a := 9) (by omega) (by omega)) h
      · rw [if_neg q3] at h
        rw [nI_1]
        exact br_f (nI_nlt (b := L - v) (a := 9) (by omega) (by omega)) h
def w2t (L v : Nat) : Nat := if L < v then 0 else if 18 < L - v then 0 else if 9 < L - v then 19 - (L - v) else L - v + 1
theorem wy2 : ∀ L, L < 19 → wy 2 L = w2t L 0 := by decide +kernel
theorem wy3 : ∀ L, L < 28 → wy 3 L = sv (w2t L) 10 0 := by decide +kernel
theorem c_ways {k L : Nat} {R : Int32 → Prop} (hk : k ≤ 3) (hL : L ≤ 9 * k) (h : R (nI (wy k L))) : P_X11_waysToOpen (nI k) (nI L) R := by
  unfold P_X11_waysToOpen
  rcases (show k = 0 ∨ k = 1 ∨ k = 2 ∨ k = 3 by omega) with rfl | rfl | rfl | rfl
  · exact br_f (by decide) h
  · rw [wy_s, if_pos rfl, if_pos (by omega)] at h
    exact br_f (by decide) h
  · rw [wy2 L (by omega)] at h
    refine br_t (by decide) ⟨fun z => absurd rfl z, fun _ => ?_⟩
    have := c_w2 (L := L) (v := 0) (R := R) (by omega) (by omega) h
    rw [sb_nI (by omega), Nat.sub_zero] at this
    exact this
  · rw [wy3 L (by omega)] at h
    refine br_t (by decide) ⟨fun _ => ?_, fun z => absurd z (by decide)⟩
    unfold B_X11_waysToOpen_21
    intro X hX
    have key : ∀ f v s, v + f = 10 → s + sv (w2t L) f v = sv (w2t L) 10 0 → X (nI s) (nI v) := by
      intro f
      induction f with
      | zero =>
        intro v s hv e
        obtain rfl : v = 10 := by omega
        apply hX
        have e : s + 0 = sv (w2t L) 10 0 := e
        rw [← e, Nat.add_zero] at h
        exact br_t (by decide) h
      | succ f ih =>
        intro v s hv e
        rw [sv_s] at e
        apply hX
        refine br_f (nI_nlt (b := v) (a := 9) (by omega) (by omega)) (c_w2 (by omega) (by omega) ?_)
        rintro _ rfl _ rfl
        rw [nI_add, nI_1]
        exact ih (v + 1) _ (by omega) (by show s + w2t L v + _ = _; omega)
    exact key 10 0 0 (by omega) (Nat.zero_add _)
def lsc (a : Nat → Nat) (c w : Nat) : Bool := ls a w && decide (a (12 + 4 * w + 2) = c)
theorem lsc_t {a : Nat → Nat} {c w : Nat} : lsc a c w = true ↔ ls a w = true ∧ a (12 + 4 * w + 2) = c := by
  unfold lsc
  rw [Bool.and_eq_true, decide_eq_true_eq]
theorem cn_ct {a : Nat → Nat} {c N : Nat} : ∀ f, f ≤ N → cnP (lsc a c) (N - f) + ctL a c N f = cnP (lsc a c) N
  | 0, _ => rfl
  | f + 1, hf => by
    have ih := cn_ct (a := a) (c := c) (N := N) f (by omega)
    rw [ctL_s, ← ih, show N - f = N - (f + 1) + 1 by omega]
    show _ = cnP (lsc a c) (N - (f + 1)) + (if lsc a c (N - (f + 1)) = true then 1 else 0) + ctL a c N f
    by_cases q : ls a (N - (f + 1)) = true ∧ a (12 + 4 * (N - (f + 1)) + 2) = c
    · rw [if_pos q, if_pos (lsc_t.mpr q)]
      omega
    · rw [if_neg q, if_neg (fun z => q (lsc_t.mp z))]
      omega
theorem l0_op {a : Nat → Nat} {c : Nat} : ∀ w, l0 a c w = opP a (lsc a c) w
  | 0 => rfl
  | w + 1 => by
    show l0 a c w + (if ls a w = true ∧ a (12 + 4 * w + 2) = c then a (12 + 4 * w + 1) else 0) = opP a (lsc a c) w + (if lsc a c w = true then a (12 + 4 * w + 1) else 0)
    rw [l0_op w]
    by_cases q : ls a w = true ∧ a (12 + 4 * w + 2) = c
    · rw [if_pos q, if_pos (lsc_t.mpr q)]
    · rw [if_neg q, if_neg (fun z => q (lsc_t.mp z))]
theorem cn_b {a : Nat → Nat} {c : Nat} (d : DOK a) : ∀ w, w ≤ a 0 → cnP (lsc a c) w ≤ cntC a c w ∧ l0 a c w ≤ 9 * cnP (lsc a c) w
  | 0, _ => ⟨Nat.le_refl _, Nat.le_refl _⟩
  | w + 1, hw => by
    have ih := cn_b (c := c) d w (by omega)
    have b := (d.2.2.1 w (by omega)).2.1
    show cnP (lsc a c) w + (if lsc a c w = true then 1 else 0) ≤ cntC a c w + (if a (12 + 4 * w + 2) = c then 1 else 0) ∧ l0 a c w + (if ls a w = true ∧ a (12 + 4 * w + 2) = c then a (12 + 4 * w + 1) else 0) ≤ 9 * (cnP (lsc a c) w + (if lsc a c w = true then 1 else 0))
    by_cases q : ls a w = true ∧ a (12 + 4 * w + 2) = c
    · rw [if_pos q, if_pos (lsc_t.mpr q), if_pos q.2]
      omega
    · rw [if_neg q, if_neg (fun z => q (lsc_t.mp z))]
      split <;> omega
/-- the product over the first cords -/
def pcS (a : Nat → Nat) : Nat → Nat
  | 0 => 1
  | c + 1 => pcS a c * wF a (a 0) (a 0) (fun c => l0 a c (a 0)) (c + 1)
theorem wF_1 {a : Nat → Nat} {c : Nat} (d : DOK a) (h : a 1 < c) : wF a (a 0) (a 0) (fun c => l0 a c (a 0)) c = 1 := by
  have e : ∀ w, w ≤ a 0 → cnP (lsc a c) w = 0 := by
    intro w
    induction w with
    | zero => intro _; rfl
    | succ w ih =>
      intro hw
      have b := (d.2.2.1 w (by omega)).2.2.1
      show cnP (lsc a c) w + (if lsc a c w = true then 1 else 0) = 0
      rw [ih (by omega), if_neg (fun z => by have := (lsc_t.mp z).2; omega)]
  have := cn_ct (a := a) (c := c) (N := a 0) (a 0) (Nat.le_refl _)
  rw [Nat.sub_self, e (a 0) (Nat.le_refl _)] at this
  unfold wF
  rw [show ctL a c (a 0) (a 0) = 0 by omega]
  rfl
theorem pcS_4 {a : Nat → Nat} (d : DOK a) : pcS a (a 1) = Pr a (a 0) (a 0) (fun c => l0 a c (a 0)) := by
  have d1 := d.1.2.1
  have e4 : pcS a 4 = Pr a (a 0) (a 0) (fun c => l0 a c (a 0)) := by
    show 1 * _ * _ * _ * _ = _
    rw [Nat.one_mul]
    rfl
  rw [← e4]
  have up : ∀ c, a 1 ≤ c → pcS a (c + 1) = pcS a c := fun c hc => by
    show pcS a c * _ = _
    rw [wF_1 d (by omega), Nat.mul_one]
  rcases (show a 1 = 0 ∨ a 1 = 1 ∨ a 1 = 2 ∨ a 1 = 3 ∨ a 1 = 4 by omega) with e | e | e | e | e
  · rw [up 3 (by omega), up 2 (by omega), up 1 (by omega), up 0 (by omega), e]
  · rw [up 3 (by omega), up 2 (by omega), up 1 (by omega), e]
  · rw [up 3 (by omega), up 2 (by omega), e]
  · rw [up 3 (by omega), e]
  · rw [e]
theorem lo_26 {n K : Nat} {Mc Mm : Mem} (a1 a2 a3 a4 a5 : Int32) (hn : n < 512) (hI : Inv n K Mc Mm) : LO_26 Inv n K Mc Mm a1 a2 a3 a4 a5 := by
  have hE := hI.er hn
  have hU := hI.up hn
  obtain ⟨a, b, V, W, F, t, im, hb, mo, ⟨hB, mr, d, v⟩, i1, i2⟩ := hI
  have h := hB.1
  have tr := hB.2.1
  have kd := hB.2.2
  have c := hb.cx mo
  have d0 := d.1.1
  have d1 := d.1.2.1
  have d2 := d.1.2.2
  have dh := d.2.1
  have dt := d.2.2.2.2.1
  have f0 : Mc 30 0 = nI (a 0) := h.1.1
  have f1 : Mc 30 1 = nI (a 1) := h.1.2.1
  have f2 : Mc 30 2 = nI (a 2) := h.1.2.2
  have g0 : Mm 1 0 = nI (a 0) := mr 0 (by omega)
  have g1 : Mm 1 1 = nI (a 1) := mr 1 (by omega)
  have g2 : Mm 1 2 = nI (a 2) := mr 2 (by omega)
  unfold LO_26
  have hcd : ∀ w, w < a 0 → a (12 + 4 * w + 2) ≤ 4 := fun w hw => by have := (d.2.2.1 w hw).2.2.1; omega
  have model : P_X12_standings Mm (fun r2 Mm1 => nI (pcS a (a 1)) = r2 ∧ Inv (n + 1) K Mc Mm1) := by
    unfold P_X12_standings
    refine m_goThrough (lf := lfc) mr d (leaf_cnt d) (fun M' r0 g' mr' br => ⟨?_, ?_⟩)
    · rw [br.1, go_map (fun T : TS => T.1) (lf' := fun _ s => s + 1) (fun r s => rfl), go_cnt hcd _ _ _ _ (Nat.le_refl _), pcS_4 d]
      congr 1
      omega
    · exact Inv.go hn hb i1 i2 FC.rf g'.fm mo ⟨hB, mr', d, v⟩
  unfold P_X11_standings B_X11_standings_4
  intro X hX
  have key : ∀ f c, c + f = a 1 → X (nI (pcS a c)) (nI c) := by
    intro f
    induction f with
    | zero =>
      intro c hc
      obtain rfl : c = a 1 := by omega
      apply hX
      rw [f1]
      exact br_t (nI_le (Nat.le_refl _) (by omega)) model
    | succ f ih =>
      intro c hc
      apply hX
      rw [f1]
      refine br_f (nI_ge (by omega) (by omega)) (c_setOf h d (by omega) (c_swollenSet h d ?_))
      rw [and_not d0]
      have e : setP (fun w => decide (a (12 + 4 * w + 2) = c + 1) && !decide (a (12 + 4 * w + 3) ≠ 0)) (a 0) = setP (lsc a (c + 1)) (a 0) := by
        congr 1
        funext w
        unfold lsc ls
        by_cases q : a (12 + 4 * w + 2) = c + 1
        · rw [decide_eq_true q, Bool.true_and, Bool.and_true, decide_eq_true (show 0 < a (12 + 4 * w + 2) by omega), Bool.true_and]
          by_cases q2 : a (12 + 4 * w + 3) = 0
          · rw [decide_eq_true q2, decide_eq_false (fun z => z q2)]
            rfl
          · rw [decide_eq_false q2, decide_eq_true q2]
            rfl
        · rw [decide_eq_false q, Bool.false_and, Bool.and_false]
      rw [e]
      rintro _ rfl
      have hp := setP_lt (lsc a (c + 1)) (a 0)
      have hp2 := Nat.pow_le_pow_right (n := 2) (by omega) d0
      refine c_bits (Nat.lt_of_lt_of_le hp hp2) (c_openOf h d ?_)
      rw [pop_setP _ _ d0, ← l0_op]
      have b := cn_b (c := c + 1) d (a 0) (Nat.le_refl _)
      have b3 := d.2.2.2.2.2.2.2 (c + 1) (by omega) (by omega)
      have ec := cn_ct (a := a) (c := c + 1) (N := a 0) (a 0) (Nat.le_refl _)
      rw [Nat.sub_self] at ec
      have ec : 0 + ctL a (c + 1) (a 0) (a 0) = cnP (lsc a (c + 1)) (a 0) := ec
      refine c_ways (by omega) b.2 ?_
      rintro _ rfl _ rfl
      rw [nI_1, pk_mul]
      have := ih (c + 1) (by omega)
      have e2 : pcS a (c + 1) = pcS a c * wy (cnP (lsc a (c + 1)) (a 0)) (l0 a (c + 1) (a 0)) := by
        rw [← ec, Nat.zero_add]
        rfl
      rw [e2] at this
      exact this
  exact key (a 1) 0 (by omega)
