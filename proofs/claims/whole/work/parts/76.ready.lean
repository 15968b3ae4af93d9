/-! ===== what a search makes ready ===== -/
def zN (a g : Nat → Nat) : Nat → Nat
  | 0 => 0
  | w + 1 => zN a g w + if ls a w = true then 0 else a (12 + 4 * w + 1) * g (a (12 + 4 * w))
theorem zN_B {a g : Nat → Nat} {N : Nat} : ∀ f, f ≤ N → zN a g (N - f) + zB a g N f = zN a g N
  | 0, _ => rfl
  | f + 1, hf => by
    have ih := zN_B (a := a) (g := g) (N := N) f (by omega)
    rw [zB_s, ← ih, show N - f = N - (f + 1) + 1 by omega]
    show _ = zN a g (N - (f + 1)) + (if ls a (N - (f + 1)) = true then 0 else a (12 + 4 * (N - (f + 1)) + 1) * g (a (12 + 4 * (N - (f + 1))))) + _
    omega
def l0f (a : Nat → Nat) (c : Nat) : Nat := l0 a c (a 0)
def pq (a g : Nat → Nat) : Nat → Nat
  | 0 => 0
  | c + 1 => pq a g c + qC a g (a 0) (a 0) (l0f a) (c + 1)
theorem ct_cn (a : Nat → Nat) (c : Nat) : ctL a c (a 0) (a 0) = cnP (lsc a c) (a 0) := by
  have := cn_ct (a := a) (c := c) (N := a 0) (a 0) (Nat.le_refl _)
  rw [Nat.sub_self] at this
  have : 0 + ctL a c (a 0) (a 0) = cnP (lsc a c) (a 0) := this
  omega
theorem lsc_0 {a : Nat → Nat} {c : Nat} (d : DOK a) (h : a 1 < c) : cnP (lsc a c) (a 0) = 0 := by
  have e : ∀ w, w ≤ a 0 → cnP (lsc a c) w = 0 := by
    intro w
    induction w with
    | zero => intro _; rfl
    | succ w ih =>
      intro hw
      have b := (d.2.2.1 w (by omega)).2.2.1
      show cnP (lsc a c) w + (if lsc a c w = true then 1 else 0) = 0
      rw [ih (by omega), if_neg (fun z => by have := (lsc_t.mp z).2; omega)]
  exact e _ (Nat.le_refl _)
theorem qC_0 {a g : Nat → Nat} {c : Nat} (d : DOK a) (h : a 1 < c) : qC a g (a 0) (a 0) (l0f a) c = 0 := if_pos (by rw [ct_cn, lsc_0 d h])
theorem pq_4 {a g : Nat → Nat} (d : DOK a) : pq a g (a 1) = zC a g (a 0) (a 0) (l0f a) := by
  have d1 := d.1.2.1
  have e4 : pq a g 4 = zC a g (a 0) (a 0) (l0f a) := by
    show 0 + _ + _ + _ + _ = _
    rw [Nat.zero_add]
    rfl
  rw [← e4]
  have up : ∀ c, a 1 ≤ c → pq a g (c + 1) = pq a g c := fun c hc => by
    show pq a g c + _ = _
    rw [qC_0 d (by omega), Nat.add_zero]
  rcases (show a 1 = 0 ∨ a 1 = 1 ∨ a 1 = 2 ∨ a 1 = 3 ∨ a 1 = 4 by omega) with e | e | e | e | e
  · rw [up 3 (by omega), up 2 (by omega), up 1 (by omega), up 0 (by omega), e]
  · rw [up 3 (by omega), up 2 (by omega), up 1 (by omega), e]
  · rw [up 3 (by omega), up 2 (by omega), e]
  · rw [up 3 (by omega), e]
  · rw [e]
theorem SU_0 {a g r : Nat → Nat} (d : DOK a) : SU a g (a 0) (a 0) r (l0f a) = zN a g (a 0) + pq a g (a 1) := by
  have e := zN_B (a := a) (g := g) (N := a 0) (a 0) (Nat.le_refl _)
  rw [Nat.sub_self] at e
  have e : 0 + zB a g (a 0) (a 0) = zN a g (a 0) := e
  rw [pq_4 d]
  unfold SU
  rw [Nat.sub_self]
  show 0 + _ + _ = _
  rw [e]
def opn (a : Nat → Nat) (k : Nat) : Nat := a (12 + 4 * k + 1)
theorem tot {a : Nat → Nat} (d : DOK a) : ∀ w, w ≤ a 0 → zN a g1 w + (l0 a 1 w + l0 a 2 w + l0 a 3 w + l0 a 4 w) = zA a g1 (opn a) w ∧ zA a g1 (opn a) w ≤ 9 * w
  | 0, _ => ⟨rfl, Nat.le_refl _⟩
  | w + 1, h => by
    have ih := tot d w (by omega)
    have b := d.2.2.1 w (by omega)
    have d1 := d.1.2.1
    have e1 : zN a g1 (w + 1) = zN a g1 w + if ls a w = true then 0 else a (12 + 4 * w + 1) * 1 := rfl
    have e2 : zA a g1 (opn a) (w + 1) = zA a g1 (opn a) w + a (12 + 4 * w + 1) * 1 := rfl
    have e3 : ∀ c, l0 a c (w + 1) = l0 a c w + if ls a w = true ∧ a (12 + 4 * w + 2) = c then a (12 + 4 * w + 1) else 0 := fun c => rfl
    rw [e1, e2, e3, e3, e3, e3]
    by_cases q : ls a w = true
    · have := (ls_t.mp q).1
      simp only [q, true_and, if_true]
      rcases (show a (12 + 4 * w + 2) = 1 ∨ a (12 + 4 * w + 2) = 2 ∨ a (12 + 4 * w + 2) = 3 ∨ a (12 + 4 * w + 2) = 4 by omega) with e | e | e | e
      · rw [e, if_pos rfl, if_neg (by omega), if_neg (by omega), if_neg (by omega)]; omega
      · rw [e, if_neg (by omega), if_pos rfl, if_neg (by omega), if_neg (by omega)]; omega
      · rw [e, if_neg (by omega), if_neg (by omega), if_pos rfl, if_neg (by omega)]; omega
      · rw [e, if_neg (by omega), if_neg (by omega), if_neg (by omega), if_pos rfl]; omega
    · rw [if_neg q, if_neg (fun z => q z.1), if_neg (fun z => q z.1), if_neg (fun z => q z.1), if_neg (fun z => q z.1)]
      omega
theorem SU_t {a r : Nat → Nat} (d : DOK a) : SU a g1 (a 0) (a 0) r (l0f a) = zA a g1 (opn a) (a 0) := by
  have t := (tot d (a 0) (Nat.le_refl _)).1
  have eq : ∀ c, qC a g1 (a 0) (a 0) (l0f a) c = l0 a c (a 0) := fun c => by
    have b := (cn_b (c := c) d (a 0) (Nat.le_refl _)).2
    unfold qC
    rw [ct_cn]
    by_cases z : cnP (lsc a c) (a 0) = 0
    · rw [if_pos z]; omega
    · rw [if_neg z]; exact Nat.mul_one _
  rw [SU_0 d, pq_4 d]
  unfold zC
  rw [eq, eq, eq, eq]
  exact t
theorem NI_0 {a r : Nat → Nat} (d : DOK a) : NI a (a 0) r (l0f a) := by
  have d0 := d.1.1
  have t := (tot d (a 0) (Nat.le_refl _)).2
  refine ⟨fun k hk => absurd hk (by omega), ?_⟩
  rw [SU_t d]
  omega
theorem la_s (a : Nat → Nat) (c w : Nat) : la a c (w + 1) = if ls a w = true ∧ a (12 + 4 * w + 2) = c then w + 1 else la a c w := rfl
theorem zN_b {a g : Nat → Nat} (d : DOK a) (hg : ∀ m, g m ≤ 1) : ∀ w, w ≤ a 0 → zN a g w ≤ 9 * w
  | 0, _ => Nat.le_refl _
  | w + 1, h => by
    have ih := zN_b (g := g) d hg w (by omega)
    have b := (d.2.2.1 w (by omega)).2.1
    have m := Nat.mul_le_mul b (hg (a (12 + 4 * w)))
    show zN a g w + (if ls a w = true then 0 else a (12 + 4 * w + 1) * g (a (12 + 4 * w))) ≤ 9 * (w + 1)
    split <;> omega
set_option maxHeartbeats 4000000 in
theorem c_prepCords {K : Nat} {M : Mem} {a : Nat → Nat} {Q : Mem → Prop} (h : HR 30 M a) (d : DOK a) (hQ : ∀ M' : Mem, (∀ k, k ≠ 9 → k ≠ 10 → k ≠ 11 → k ≠ 12 → M' k = M k) → (∀ x, x < 11 → M' 9 x = nI (zN a (gx x) (a 0) + pq a (gx x) (a 1))) → (∀ c, c < 4 → M' 10 c = nI (l0f a (c + 1)) ∧ M' 11 c = nI (ctL a (c + 1) (a 0) (a 0))) → H12 a M' → Q M') : P_X5_prepareCords K M Q := by
  have d0 := d.1.1
  have d1 := d.1.2.1
  unfold P_X5_prepareCords
  refine c_fill (by omega) (fun M1 k1 e1 => c_fill (by omega) (fun M2 k2 e2 => c_fill (by omega) (fun M3 k3 e3 => ?_)))
  have kk : ∀ k, k ≠ 9 → k ≠ 10 → k ≠ 11 → k ≠ 12 → M3 k = M k := fun k h9 h10 h11 h12 => by rw [k3 k h11, k2 k h10, k1 k h9]
  have cords : ∀ M4, (∀ k, k ≠ 9 → k ≠ 10 → k ≠ 11 → k ≠ 12 → M4 k = M k) → (∀ x, x < 11 → M4 9 x = nI (zN a (gx x) (a 0))) → (∀ c, c < 4 → M4 10 c = nI (l0f a (c + 1)) ∧ M4 11 c = nI (ctL a (c + 1) (a 0) (a 0))) → H12 a M4 → B_X5_prepareCords_121 K Q 0 M4 := fun M4 g4 e9 e10 e12 => by
    unfold B_X5_prepareCords_121
    intro X hX
    have key : ∀ f c M5, c + f = a 1 → (∀ k, k ≠ 9 → M5 k = M4 k) → (∀ x, x < 11 → M5 9 x = nI (zN a (gx x) (a 0) + pq a (gx x) c)) → X (nI c) M5 := by
      intro f
      induction f with
      | zero =>
        intro c M5 hc g5 e5
        obtain rfl : c = a 1 := by omega
        have h5 : HR 30 M5 a := h.keep (fun k k1 k2 => by rw [g5 k (by omega)]; exact g4 k (by omega) (by omega) (by omega) (by omega))
        have f1 : M5 30 1 = nI (a 1) := h5.1.2.1
        apply hX
        rw [f1]
        refine br_t (nI_le (Nat.le_refl _) (by omega)) (hQ M5 (fun k h9 h10 h11 h12 => by rw [g5 k h9]; exact g4 k h9 h10 h11 h12) e5 (fun c hc => by rw [g5 10 (by omega), g5 11 (by omega)]; exact e10 c hc) (fun c hc h0 => by rw [g5 12 (by omega)]; exact e12 c hc h0))
      | succ f ih =>
        intro c M5 hc g5 e5
        have h5 : HR 30 M5 a := h.keep (fun k k1 k2 => by rw [g5 k (by omega)]; exact g4 k (by omega) (by omega) (by omega) (by omega))
        have f1 : M5 30 1 = nI (a 1) := h5.1.2.1
        have vi : vp_in (nI c) 4 := vp_in_nI (by omega) (by omega)
        have b := cn_b (c := c + 1) d (a 0) (Nat.le_refl _)
        have b3 := d.2.2.2.2.2.2.2 (c + 1) (by omega) (by omega)
        have ec := ct_cn a (c + 1)
        have ep : ∀ x, pq a (gx x) (c + 1) = pq a (gx x) c + qC a (gx x) (a 0) (a 0) (l0f a) (c + 1) := fun x => rfl
        apply hX
        rw [f1, cl_nI (by omega), g5 10 (by omega), g5 11 (by omega), g5 12 (by omega), (e10 c (by omega)).1, (e10 c (by omega)).2]
        refine br_f (nI_ge (by omega) (by omega)) ⟨vi, fun z => ?_, fun z => ⟨vi, ?_⟩⟩
        · have z : ctL a (c + 1) (a 0) (a 0) = 0 := by
            by_cases y : ctL a (c + 1) (a 0) (a 0) = 0
            · exact y
            · exact absurd z (nI_ge (a := 0) (by omega) (by omega))
          rintro _ rfl
          rw [nI_1]
          exact ih (c + 1) M5 (by omega) g5 (fun x hx => by rw [e5 x hx, ep, show qC a (gx x) (a 0) (a 0) (l0f a) (c + 1) = 0 from if_pos z, Nat.add_zero])
        · have z : ctL a (c + 1) (a 0) (a 0) ≠ 0 := fun y => z (by rw [y]; exact nI_le (a := 0) (b := 0) (by omega) (by omega))
          have hla : 0 < la a (c + 1) (a 0) := by
            have := (la_ct (a := a) (c := c + 1) (N := a 0) (a 0) (Nat.le_refl _)).2 z
            omega
          have hla2 := la_le a (c + 1) (a 0)
          have bL := (d.2.2.1 (la a (c + 1) (a 0) - 1) (by omega)).1
          have eL : M5 31 (la a (c + 1) (a 0) - 1) = nI (a (12 + 4 * (la a (c + 1) (a 0) - 1))) := (h5.2.2.1 _ (by omega)).1
          rw [e12 c (by omega) hla, cl_nI (k := la a (c + 1) (a 0) - 1) (by omega), eL, nI_1]
          refine ⟨vp_in_nI (by omega) (by omega), ?_⟩
          rintro _ rfl
          refine ⟨vp_in_nI (by omega) (by omega), vi, vp_in_nI (by omega) (by omega), ?_⟩
          rw [cl_nI (by omega)]
          rintro _ rfl _ rfl
          rw [nI_1]
          refine ih (c + 1) _ (by omega) (fun k hk => by rw [sf_ne hk]; exact g5 k hk) (fun x hx => ?_)
          have eqc : qC a (gx x) (a 0) (a 0) (l0f a) (c + 1) = l0f a (c + 1) * gx x (a (12 + 4 * (la a (c + 1) (a 0) - 1))) := if_neg z
          rw [ep, eqc]
          unfold gx at *
          by_cases q : x = a (12 + 4 * (la a (c + 1) (a 0) - 1)) + 1
          · rw [q, sf_e rfl rfl, e5 _ (by omega), nI_add, if_pos (show a (12 + 4 * (la a (c + 1) (a 0) - 1)) + 1 = a (12 + 4 * (la a (c + 1) (a 0) - 1)) + 1 from rfl), Nat.mul_one, Nat.add_assoc]
          · rw [sf_j q, e5 x hx, if_neg (Ne.symm q), Nat.mul_zero, Nat.add_zero]
    exact key (a 1) 0 M4 (by omega) (fun k _ => rfl) (fun x hx => e9 x hx)
  unfold B_X5_prepareCords_26
  intro X hX
  have key : ∀ f w M4, w + f = a 0 → (∀ k, k ≠ 9 → k ≠ 10 → k ≠ 11 → k ≠ 12 → M4 k = M k) → (∀ x, x < 11 → M4 9 x = nI (zN a (gx x) w)) → (∀ c, c < 4 → M4 10 c = nI (l0 a (c + 1) w) ∧ M4 11 c = nI (cnP (lsc a (c + 1)) w)) → (∀ c, c < 4 → 0 < la a (c + 1) w → M4 12 c = nI (la a (c + 1) w - 1)) → X (nI w) M4 := by
    intro f
    induction f with
    | zero =>
      intro w M4 hw g4 e9 e10 e12
      obtain rfl : w = a 0 := by omega
      have h4 : HR 30 M4 a := h.keep (fun k k1 k2 => g4 k (by omega) (by omega) (by omega) (by omega))
      have f0 : M4 30 0 = nI (a 0) := h4.1.1
      apply hX
      rw [f0]
      exact br_t (nI_le (Nat.le_refl _) (by omega)) (cords M4 g4 e9 (fun c hc => by rw [ct_cn]; exact e10 c hc) e12)
    | succ f ih =>
      intro w M4 hw g4 e9 e10 e12
      have h4 : HR 30 M4 a := h.keep (fun k k1 k2 => g4 k (by omega) (by omega) (by omega) (by omega))
      have f0 : M4 30 0 = nI (a 0) := h4.1.1
      have b := d.2.2.1 w (by omega)
      have er : M4 31 w = nI (a (12 + 4 * w)) := (h4.2.2.1 w (by omega)).1
      have eo : M4 32 w = nI (a (12 + 4 * w + 1)) := (h4.2.2.1 w (by omega)).2.1
      have ez : ∀ x, zN a (gx x) (w + 1) = zN a (gx x) w + if ls a w = true then 0 else a (12 + 4 * w + 1) * gx x (a (12 + 4 * w)) := fun x => rfl
      have el : ∀ c, l0 a c (w + 1) = l0 a c w + if ls a w = true ∧ a (12 + 4 * w + 2) = c then a (12 + 4 * w + 1) else 0 := fun c => rfl
      have en : ∀ c, cnP (lsc a c) (w + 1) = cnP (lsc a c) w + if lsc a c w = true then 1 else 0 := fun c => rfl
      apply hX
      rw [f0]
      refine br_f (nI_ge (by omega) (by omega)) (c_looseOn h4 d (by omega) ?_)
      cases hl : ls a w with
      | false =>
        have elc : lcd a w = 0 := if_neg (by rw [hl]; decide)
        rw [elc, cl_nI (by omega), er, eo, nI_1]
        refine ⟨fun _ => ⟨vp_in_nI (by omega) (by omega), ?_⟩, fun z => absurd ((cI_neg (m := 0) (by omega)).mpr rfl) z⟩
        rintro _ rfl
        refine ⟨vp_in_nI (by omega) (by omega), vp_in_nI (by omega) (by omega), vp_in_nI (by omega) (by omega), ?_⟩
        rw [cl_nI (by omega)]
        rintro _ rfl _ rfl
        rw [nI_1]
        refine ih (w + 1) _ (by omega) (fun k h9 h10 h11 h12 => by rw [sf_ne h9]; exact g4 k h9 h10 h11 h12) (fun x hx => ?_) (fun c hc => ?_) (fun c hc => ?_)
        · rw [ez, if_neg (by rw [hl]; decide)]
          unfold gx at *
          by_cases q : x = a (12 + 4 * w) + 1
          · rw [q, sf_e rfl rfl, e9 _ (by omega), nI_add, if_pos (show a (12 + 4 * w) + 1 = a (12 + 4 * w) + 1 from rfl), Nat.mul_one]
          · rw [sf_j q, e9 x hx, if_neg (Ne.symm q), Nat.mul_zero, Nat.add_zero]
        · rw [sf_ne (by omega), sf_ne (by omega), el, en, if_neg (fun z => by rw [hl] at z; exact absurd z.1 (by decide)), if_neg (fun z => by have := (lsc_t.mp z).1; rw [hl] at this; exact absurd this (by decide)), Nat.add_zero, Nat.add_zero]
          exact e10 c hc
        · rw [sf_ne (by omega), la_s, if_neg (fun z => by rw [hl] at z; exact absurd z.1 (by decide))]
          exact e12 c hc
      | true =>
        have hcp := (ls_t.mp hl).1
        obtain ⟨c, hc⟩ : ∃ c, a (12 + 4 * w + 2) = c + 1 := ⟨a (12 + 4 * w + 2) - 1, by omega⟩
        have elc : lcd a w = c + 1 := by
          unfold lcd
          rw [if_pos hl, hc]
        have vi : vp_in (nI c) 4 := vp_in_nI (by omega) (by omega)
        rw [elc, cI_s, cl_nI (by omega), cl_nI (by omega), eo]
        refine ⟨fun z => absurd z (nI_nlt (a := c) (b := 0) (Nat.zero_le _) (by omega)), fun _ => ⟨vi, vp_in_nI (by omega) (by omega), vi, ?_⟩⟩
        rintro _ rfl
        refine ⟨vi, vi, ?_⟩
        rintro _ rfl
        refine ⟨vi, ?_⟩
        rintro _ rfl _ rfl
        rw [nI_1]
        refine ih (w + 1) _ (by omega) (fun k h9 h10 h11 h12 => by rw [sf_ne h12, sf_ne h11, sf_ne h10]; exact g4 k h9 h10 h11 h12) (fun x hx => ?_) (fun c' hc' => ?_) (fun c' hc' h0 => ?_)
        · rw [sf_ne (by omega), sf_ne (by omega), sf_ne (by omega), ez, if_pos hl, Nat.add_zero]
          exact e9 x hx
        · rw [sf_ne (by omega), sf_ne (by omega), sf_ne (k' := 11) (by omega), el, en]
          by_cases q : c' = c
          · rw [q, if_pos ⟨hl, hc⟩, if_pos (lsc_t.mpr ⟨hl, hc⟩), sf_e rfl rfl, sf_e rfl rfl, sf_ne (by omega), (e10 c (by omega)).1, (e10 c (by omega)).2, nI_add, nI_1]
            exact ⟨rfl, rfl⟩
          · rw [if_neg (fun z => by omega), if_neg (fun z => by have := (lsc_t.mp z).2; omega), sf_j q, sf_j q, sf_ne (by omega), Nat.add_zero, Nat.add_zero]
            exact e10 c' hc'
        · rw [la_s] at h0 ⊢
          by_cases q : c' = c
          · rw [q, if_pos ⟨hl, hc⟩, sf_e rfl rfl, Nat.add_sub_cancel]
          · rw [if_neg (fun z => by omega)] at h0 ⊢
            rw [sf_j q, sf_ne (by omega), sf_ne (by omega)]
            exact e12 c' hc' h0
  refine key (a 0) 0 M3 (by omega) kk (fun x hx => ?_) (fun c hc => ?_) (fun c hc h0 => absurd h0 (Nat.lt_irrefl 0))
  · rw [k3 9 (by omega), k2 9 (by omega), e1 x hx]; rfl
  · rw [k3 10 (by omega), e2 c hc, e3 c hc]; exact ⟨rfl, rfl⟩
