/-! ===== lodgers made ready, and the search found ===== -/
theorem pf_d : ∀ m, m < 9 → ∀ p, p < 9 → (if (if 0 ≤ nI m - nI p then nI m - nI p else 0 - (nI m - nI p)) < 2 then (if 0 ≤ nI m - nI p then nI m - nI p else 0 - (nI m - nI p)) else 2) = nI (pfv m p) := by decide +kernel
theorem c_placeFor {K i w : Nat} {M : Mem} {a : Nat → Nat} {Q : Int32 → Prop} (h : HR 30 M a) (d : DOK a) (hw : w < a 0) (hi : i < a 2) (hQ : Q (nI (pf a i w))) : P_X5_placeFor K M (nI i) (nI w) Q := by
  have d0 := d.1.1
  have d2 := d.1.2.2
  have b := (d.2.2.1 w hw).1
  have bl := (d.2.2.2.1 i hi).2.2
  have e1 : M 31 w = nI (a (12 + 4 * w)) := (h.2.2.1 w hw).1
  have e7 : M 37 i = nI (a (44 + 3 * i + 2)) := (h.2.2.2.1 i hi).2.2
  unfold P_X5_placeFor
  rw [cl_nI (by omega), cl_nI (by omega), e1, e7]
  refine ⟨vp_in_nI (by omega) (by omega), vp_in_nI (by omega) (by omega), ?_⟩
  rintro _ rfl _ rfl
  rw [pf_d _ (by omega) _ (by omega)]
  exact hQ
theorem pfv_le (m p : Nat) : pfv m p ≤ 2 := by
  unfold pfv
  split
  · omega
  · split <;> omega
set_option maxHeartbeats 4000000 in
theorem c_prepLod {K : Nat} {M : Mem} {a : Nat → Nat} {Q : Mem → Prop} (h : HR 30 M a) (d : DOK a) (h12 : H12 a M) (hQ : ∀ M' : Mem, (∀ k, k ≠ 13 → M' k = M k) → H13 a M' → Q M') : P_X5_prepareLodgers K M Q := by
  have d0 := d.1.1
  have d1 := d.1.2.1
  have d2 := d.1.2.2
  unfold P_X5_prepareLodgers
  refine c_fill (by omega) (fun M1 k1 e1 => ?_)
  unfold B_X5_prepareLodgers_10
  intro X hX
  have key : ∀ f i M2, i + f = a 2 → (∀ k, k ≠ 13 → M2 k = M k) → (∀ w, w < 9 → M2 13 w = nI (setP (fun j => decide (stP a (a 0) j (a 0) = w)) i)) → X (nI i) M2 := by
    intro f
    induction f with
    | zero =>
      intro i M2 hi k2 e2
      obtain rfl : i = a 2 := by omega
      have f2 : M2 30 2 = nI (a 2) := by rw [k2 30 (by omega)]; exact h.1.2.2
      apply hX
      rw [f2]
      exact br_t (nI_le (Nat.le_refl _) (by omega)) (hQ M2 k2 (fun w hw => e2 w (by omega)))
    | succ f ih =>
      intro i M2 hi k2 e2
      have h2 : HR 30 M2 a := h.keep (fun k q1 q2 => k2 k (by omega))
      have f2 : M2 30 2 = nI (a 2) := h2.1.2.2
      have f0 : M2 30 0 = nI (a 0) := h2.1.1
      apply hX
      rw [f2]
      refine br_f (nI_ge (by omega) (by omega)) ?_
      unfold B_X5_prepareLodgers_25
      intro X2 hX2
      have key2 : ∀ f w, w + f = a 0 → X2 (nI (stP a (a 0) i w)) (nI w) M2 := by
        intro f
        induction f with
        | zero =>
          intro w hw
          obtain rfl : w = a 0 := by omega
          have hst := st_le a (a 0) i (a 0)
          apply hX2
          rw [f0, cl_nI (by omega), e2 _ (by omega), or_bit (setP_lt _ _) (by omega)]
          refine br_t (nI_le (Nat.le_refl _) (by omega)) ⟨vp_in_nI (by omega) (by omega), vp_in_nI (by omega) (by omega), ?_⟩
          rintro _ rfl _ rfl
          rw [nI_1]
          refine ih (i + 1) _ (by omega) (fun k hk => by rw [sf_ne hk]; exact k2 k hk) (fun w hw => ?_)
          have es : setP (fun j => decide (stP a (a 0) j (a 0) = w)) (i + 1) = setP (fun j => decide (stP a (a 0) j (a 0) = w)) i + if decide (stP a (a 0) i (a 0) = w) = true then 2 ^ i else 0 := rfl
          rw [es]
          by_cases q : stP a (a 0) i (a 0) = w
          · rw [decide_eq_true q, if_pos rfl, ← q, sf_e rfl rfl]
          · rw [decide_eq_false q, if_neg (by decide), sf_j (Ne.symm q), Nat.add_zero]
            exact e2 w hw
        | succ f ih2 =>
          intro w hw
          have b := d.2.2.1 w (by omega)
          have n := ih2 (w + 1) (by omega)
          have es : stP a (a 0) i (w + 1) = if ls a w = true ∧ pf a i w ≠ pf a i (la a (a (12 + 4 * w + 2)) (a 0) - 1) then w + 1 else stP a (a 0) i w := rfl
          rw [es] at n
          apply hX2
          rw [f0]
          refine br_f (nI_ge (by omega) (by omega)) (c_looseOn h2 d (by omega) ?_)
          cases hl : ls a w with
          | false =>
            have elc : lcd a w = 0 := if_neg (by rw [hl]; decide)
            rw [elc]
            rw [if_neg (fun z => by rw [hl] at z; exact absurd z.1 (by decide))] at n
            refine ⟨fun _ => ?_, fun z => absurd ((cI_neg (m := 0) (by omega)).mpr rfl) z⟩
            rintro _ rfl
            rw [nI_1]
            exact n
          | true =>
            have hcp := (ls_t.mp hl).1
            obtain ⟨c, hc⟩ : ∃ c, a (12 + 4 * w + 2) = c + 1 := ⟨a (12 + 4 * w + 2) - 1, by omega⟩
            have elc : lcd a w = c + 1 := by
              unfold lcd
              rw [if_pos hl, hc]
            have hla : 0 < la a (c + 1) (a 0) := by
              have q := (la_ct (a := a) (c := c + 1) (N := a 0) (f + 1) (by omega)).2 (by rw [ctL_y (by rw [show a 0 - (f + 1) = w by omega]; exact ⟨hl, hc⟩)]; omega)
              omega
            have hla2 := la_le a (c + 1) (a 0)
            have e12 : M2 12 c = nI (la a (c + 1) (a 0) - 1) := by
              rw [k2 12 (by omega)]
              exact h12 c (by omega) hla
            have p1 := pfv_le (a (12 + 4 * w)) (a (44 + 3 * i + 2))
            have p2 := pfv_le (a (12 + 4 * (la a (c + 1) (a 0) - 1))) (a (44 + 3 * i + 2))
            rw [elc, cI_s]
            refine ⟨fun z => absurd z (nI_nlt (a := c) (b := 0) (Nat.zero_le _) (by omega)), fun _ => c_placeFor h2 d (by omega) (by omega) ⟨vp_in_nI (by omega) (by omega), ?_⟩⟩
            rw [cl_nI (by omega), e12]
            refine c_placeFor h2 d (by omega) (by omega) ?_
            rw [hc] at n
            have p1 : pf a i w ≤ 2 := p1
            have p2 : pf a i (la a (c + 1) (a 0) - 1) ≤ 2 := p2
            refine ⟨fun z => ?_, fun z => ?_⟩
            · have z := (eq_nI (by omega) (by omega)).mp z
              rw [if_neg (fun y => y.2 z)] at n
              rintro _ rfl
              rw [nI_1]
              exact n
            · rw [if_pos ⟨hl, fun y => z (by rw [y])⟩] at n
              rintro _ rfl _ rfl
              rw [nI_1]
              exact n
      exact key2 (a 0) 0 (by omega)
  exact key (a 2) 0 M1 (by omega) (fun k hk => k1 k hk) (fun w hw => by rw [e1 w hw]; rfl)
theorem cnP_t {p : Nat → Bool} : ∀ n, (∀ i, i < n → p i = true) → cnP p n = n
  | 0, _ => rfl
  | n + 1, h => by
    show cnP p n + (if p n = true then 1 else 0) = n + 1
    rw [cnP_t n (fun i hi => h i (by omega)), if_pos (h n (by omega))]
def c0 (a : Nat → Nat) (V : Vt) : Nat := pop (conS a V)
theorem c0_le {a : Nat → Nat} {V : Vt} (d : DOK a) : c0 a V ≤ a 2 := by
  have d2 := d.1.2.2
  unfold c0 conS
  rw [pop_setP _ _ (by omega)]
  exact cnP_b _ _
def s0 (a : Nat → Nat) (V : Vt) (x : Nat) : CS := (if x < c0 a V then c0 a V else x, if c0 a V < x then 1000000 else 0, opn a)
def Gx (M M' : Mem) : Prop := ∀ k, k ≠ 2 → (k < 7 ∨ 14 < k) → (∀ j, k ≠ 71 + 3 * j) → M' k = M k
theorem c_find40 {K t x6 x7 : Nat} {F : Ft} {V : Vt} {M : Mem} {a : Nat → Nat} {Q : Mem → Prop} (hB : HB K t F 30 M a V) (d : DOK a) (c : CX K t F M) (h6 : x6 ≤ 6) (h7 : x7 ≤ 1000000) (e78 : M 7 8 = nI x6) (h9 : ∀ x, x < 11 → M 9 x = nI (zN a (gx x) (a 0) + pq a (gx x) (a 1))) (h10 : ∀ c, c < 4 → M 10 c = nI (l0f a (c + 1)) ∧ M 11 c = nI (ctL a (c + 1) (a 0) (a 0))) (h12 : H12 a M) (h13 : H13 a M) (hQ : ∀ M', Gx M M' → CX K t F M' → BS a (go a (a 0) (lfC a V) (a 0) (fun _ => 0) (l0f a) (x6, x7, opn a)) M' → Q M') : B_X5_find_40 K Q (nI x7) M := by
  have d0 := d.1.1
  have d2 := d.1.2.2
  unfold B_X5_find_40
  rintro _ rfl
  refine ⟨by decide, by decide, by decide, by decide, by decide, ?_⟩
  intro M15 e15
  have eo : ∀ k, k ≠ 7 → k ≠ 14 → M15 k = M k := fun k k7 k14 => by rw [e15, mu_at, if_neg k14, sf_ne k7]
  have e7 : M15 7 = (sf M 7 9 (nI x7)) 7 := by rw [e15, mu_at, if_neg (by omega)]
  have e14 : ∀ k, k < 8 → M15 14 k = M 32 k := fun k hk => by
    rw [e15, mu_at, if_pos rfl]
    show va_cpy _ _ 0 0 8 k = _
    rw [cpy_at, if_pos hk, sf_ne (by omega)]
  have hB15 : HB K t F 30 M15 a V := hB.keep (fun k k1 k2 => eo k (by omega) (by omega)) (fun k k1 k2 => eo k (by omega) (by omega))
  have f2 : M15 30 2 = nI (a 2) := hB15.1.1.2.2
  have cp : CP K t F a M15 (a 0) (fun _ => 0) (l0f a) (x6, x7, opn a) M15 := by
    refine ⟨fun _ _ _ _ _ _ _ _ _ => rfl, ⟨c.1.keep (eo 2 (by omega) (by omega)), c.2⟩, fun x hx => ?_, fun c hc => ?_, fun k hk => absurd hk (by omega), ⟨h6, h7⟩, ?_, ?_, fun k hk => ?_⟩
    · rw [eo 9 (by omega) (by omega), h9 x hx]
      exact congrArg nI (SU_0 d).symm
    · rw [eo 10 (by omega) (by omega), eo 11 (by omega) (by omega)]; exact h10 c hc
    · rw [e7, sf_j (by omega)]; exact e78
    · rw [e7, sf_e rfl rfl]
    · rw [e14 k (by omega)]; exact (hB.1.2.2.1 k hk).2.1
  have P := pl hB15 d (fun c hc h0 => by rw [eo 12 (by omega) (by omega)]; exact h12 c hc h0) (fun w hw => by rw [eo 13 (by omega) (by omega)]; exact h13 w hw) (a 0) 10 (fun _ => 0) (l0f a) (x6, x7, opn a) M15 Q (by omega) (Nat.le_refl _) cp (NI_0 d) (fun M' cp' => hQ M' (fun k k2 k7 hj => ?_) cp'.2.1 cp'.2.2.2.2.2)
  · rw [Nat.sub_self] at P
    have e1 : cnP (fun i => decide (stP a (a 0) i (a 0) < 0) && con a V (a 0) (a 0) (fun _ => 0) (l0f a) i) (a 2) = 0 := cnP_0 (i := 0) (a 2) (by omega) (fun j _ _ => by rw [decide_eq_false (by omega), Bool.false_and])
    have e2 : cnP (fun i => decide (0 ≤ stP a (a 0) i (a 0))) (a 2) = a 2 := cnP_t _ (fun i hi => decide_eq_true (by omega))
    rw [e1, e2] at P
    rw [f2]
    exact P
  · rw [cp'.1 k k2 (by omega) (by omega) (by omega) (by omega) (by omega) (by omega) hj]
    exact eo k (by omega) (by omega)
theorem c_find {K t x : Nat} {F : Ft} {V : Vt} {M : Mem} {a : Nat → Nat} {Q : Mem → Prop} (hx : x ≤ 6) (hB : HB K t F 30 M a V) (d : DOK a) (c : CX K t F M) (hQ : ∀ M', Gx M M' → CX K t F M' → BS a (go a (a 0) (lfC a V) (a 0) (fun _ => 0) (l0f a) (s0 a V x)) M' → Q M') : P_X5_find K M (nI x) Q := by
  have d2 := d.1.2.2
  have hc := c0_le (V := V) d
  unfold P_X5_find
  refine c_prepCords hB.1 d (fun M1 k1 h9 h10 h12 => ?_)
  have hB1 : HB K t F 30 M1 a V := hB.keep (fun k q1 q2 => k1 k (by omega) (by omega) (by omega) (by omega)) (fun k q1 q2 => k1 k (by omega) (by omega) (by omega) (by omega))
  refine c_prepLod hB1.1 d h12 (fun M2 k2 h13 => ?_)
  have hB2 : HB K t F 30 M2 a V := hB1.keep (fun k q1 q2 => k2 k (by omega)) (fun k q1 q2 => k2 k (by omega))
  have c2 : CX K t F M2 := ⟨c.1.keep (by rw [k2 2 (by omega), k1 2 (by omega) (by omega) (by omega) (by omega)]), c.2⟩
  refine c_contentSet (Or.inl rfl) hB2.1 hB2.2.1 c2 d (fun M4 s4 c4 => c_bits (by have := conS_lt d V; omega) ?_)
  have k4 : ∀ k, 7 ≤ k → k < 15 → M4 k = M2 k := fun k q1 q2 => s4 k (by omega) (fun j => by omega)
  have ef : ∀ x6 x7 : Nat, x6 ≤ 6 → x7 ≤ 1000000 → s0 a V x = (x6, x7, opn a) → B_X5_find_40 K Q (nI x7) (sf M4 7 8 (nI x6)) := fun x6 x7 h6 h7 e => by
    have hB4 : HB K t F 30 M4 a V := hB2.keep (fun k q1 q2 => s4 k (by omega) (fun j => by omega)) (fun k q1 q2 => s4 k (by omega) q2)
    rw [e] at hQ
    refine c_find40 (hB4.keep (fun k q1 q2 => sf_ne (by omega)) (fun k q1 q2 => sf_ne (by omega))) d ⟨c4.1.keep (sf_ne (by omega)), c4.2⟩ h6 h7 (sf_e rfl rfl) (fun x hx => ?_) (fun c hc => ?_) (fun c hc h0 => ?_) (fun w hw => ?_) (fun M' g' c' b' => hQ M' (fun k q2 q7 hj => ?_) c' b')
    · rw [sf_ne (by omega), k4 9 (by omega) (by omega), k2 9 (by omega)]; exact h9 x hx
    · rw [sf_ne (by omega), sf_ne (by omega), k4 10 (by omega) (by omega), k4 11 (by omega) (by omega), k2 10 (by omega), k2 11 (by omega)]; exact h10 c hc
    · rw [sf_ne (by omega), k4 12 (by omega) (by omega), k2 12 (by omega)]; exact h12 c hc h0
    · rw [sf_ne (by omega), k4 13 (by omega) (by omega)]; exact h13 w hw
    · rw [g' k q2 q7 hj, sf_ne (by omega), s4 k q2 hj, k2 k (by omega)]
      exact k1 k (by omega) (by omega) (by omega) (by omega)
  show ∀ v6 : Int32, v6 = (if nI x < nI (c0 a V) then nI (c0 a V) else nI x) → _
  have e6 : (if nI x < nI (c0 a V) then nI (c0 a V) else nI x) = nI (s0 a V x).1 := by
    show _ = nI (if x < c0 a V then c0 a V else x)
    by_cases q : x < c0 a V
    · rw [if_pos q, if_pos (nI_lt q (by omega))]
    · rw [if_neg q, if_neg (nI_nlt (by omega) (by omega))]
  have b6 : (s0 a V x).1 ≤ 6 := by
    show (if x < c0 a V then c0 a V else x) ≤ 6
    split <;> omega
  rw [e6]
  rintro _ rfl _ rfl
  refine ⟨fun q => ?_, fun q => ?_⟩
  · have q : c0 a V < x := (lt_nI (by omega) (by omega)).mp q
    refine ef (s0 a V x).1 1000000 b6 (Nat.le_refl _) ?_
    unfold s0
    rw [if_pos q]
  · have q : ¬ c0 a V < x := fun z => q (nI_lt z (by omega))
    refine ef (s0 a V x).1 0 b6 (Nat.zero_le _) ?_
    unfold s0
    rw [if_neg q]
