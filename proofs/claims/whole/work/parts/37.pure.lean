set_option maxHeartbeats 4000000 in
theorem c_copyFrom {K g r t : Nat} {F : Ft} {M : Mem} {a : Nat → Nat} {V : Vt} {Q : Mem → Prop} (hg : isH g) (hr : isH r) (hgr : r + 12 < g ∨ g + 12 < r) (h : HR r M a) (kd : KD r M) (tr : TR r K t F M a V) (c : CX K t F M) (d : DOK a)
    (hQ : ∀ M' : Mem, (∀ k, (k < g ∨ g + 12 < k) → M' k = M k) → HR g M' a → KD g M' → TR g K t F M' a V → Q M') : P_X2_copyFrom K M g r Q := by
  have hg2 : 30 ≤ g ∧ g ≤ 56 := by rcases hg with rfl | rfl | rfl <;> omega
  have hr2 : 30 ≤ r ∧ r ≤ 56 := by rcases hr with rfl | rfl | rfl <;> omega
  have l8 : rLen (g + 8) = 50 := by rcases hg with rfl | rfl | rfl <;> rfl
  have l8' : rLen (r + 8) = 50 := by rcases hr with rfl | rfl | rfl <;> rfl
  have l10 : rLen (g + 10) = 20 := by rcases hg with rfl | rfl | rfl <;> rfl
  have l10' : rLen (r + 10) = 20 := by rcases hr with rfl | rfl | rfl <;> rfl
  have hK := c.2.2.1
  refine c_copy1 hgr (fun M1 p1 => ?_)
  unfold B_X2_copyFrom_116
  intro X hX
  have key : ∀ f l (M2 : Mem), l + f = 6 → Cp1 g r M M2 → (∀ i, i < l → M2 (g + 5) i = M (r + 5) i) → X (nI l) M2 := by
    intro f
    induction f with
    | zero =>
      intro l M2 hl p2 k2
      obtain rfl : l = 6 := by omega
      have e : ∀ j, M2 r j = M r j := fun j => by rw [p2.1 r (by omega)]
      have t1 : ∀ M5 : Mem, (∀ k, k ≠ g → M5 k = M2 k) → (M5 g 0 = M2 g 0 ∧ M5 g 1 = M2 g 1 ∧ M5 g 2 = M2 g 2) → (M5 g 10 = M r 10 ∧ M5 g 11 = M r 11 ∧ M5 g 12 = M r 12 ∧ M5 g 13 = M r 13 ∧ M5 g 14 = M r 14 ∧ M5 g 15 = M r 15) → ∀ M6 : Mem, (∀ k, k ≠ g + 8 → k ≠ g + 8 + 1 → M6 k = M5 k) → (∀ i, i < 50 → M6 (g + 8 + 1) i = M5 (r + 8 + 1) i) → M6 (g + 8) 1 = M5 (r + 8) 1 → ∀ M7 : Mem, (∀ k, k ≠ g + 10 → k ≠ g + 10 + 1 → M7 k = M6 k) → (∀ i, i < 20 → M7 (g + 10 + 1) i = M6 (r + 10 + 1) i) → M7 (g + 10) 1 = M6 (r + 10) 1 → ∀ M8 : Mem, (∀ k, k ≠ g + 12 → M8 k = M7 k) → (∀ u, u < 2 → M8 (g + 12) u = M (r + 12) u) → Q M8 := by
        intro M5 f5 a5 b5 M6 f6 a6 b6 M7 f7 a7 b7 M8 f8 a8
        have dn : ∀ k, k ≠ g → k ≠ g + 8 → k ≠ g + 9 → k ≠ g + 10 → k ≠ g + 11 → k ≠ g + 12 → M8 k = M2 k := fun k q0 q8 q9 q10 q11 q12 => by rw [f8 k q12, f7 k q10 (by omega), f6 k q8 (by omega), f5 k q0]
        have fr : ∀ k, (k < g ∨ g + 12 < k) → M8 k = M k := fun k hk => by rw [dn k (by omega) (by omega) (by omega) (by omega) (by omega) (by omega), p2.1 k hk]
        have eg : M8 g = M5 g := by rw [f8 g (by omega), f7 g (by omega) (by omega), f6 g (by omega) (by omega)]
        have e8 : M8 (g + 8) 1 = M (r + 8) 1 := by rw [f8 _ (by omega), f7 _ (by omega) (by omega), b6, f5 _ (by omega), p2.1 _ (by omega)]
        have e9 : ∀ i, i < 50 → M8 (g + 9) i = M (r + 9) i := fun i hi => by rw [f8 _ (by omega), f7 _ (by omega) (by omega), show g + 9 = g + 8 + 1 from rfl, a6 i hi, f5 _ (by omega), p2.1 _ (by omega)]
        have e10 : M8 (g + 10) 1 = M (r + 10) 1 := by rw [f8 _ (by omega), b7, f6 _ (by omega) (by omega), f5 _ (by omega), p2.1 _ (by omega)]
        have e11 : ∀ i, i < 20 → M8 (g + 11) i = M (r + 11) i := fun i hi => by rw [f8 _ (by omega), show g + 11 = g + 10 + 1 from rfl, a7 i hi, f6 _ (by omega) (by omega), f5 _ (by omega), p2.1 _ (by omega)]
        have e5 : ∀ i, i < 6 → M8 (g + 5) i = M (r + 5) i := fun i hi => by rw [dn _ (by omega) (by omega) (by omega) (by omega) (by omega) (by omega)]; exact k2 i hi
        refine hQ M8 fr ?_ (fun l hl => by rw [e5 l hl]; exact kd l hl) ?_
        · unfold HR
          rw [eg, a5.1, a5.2.1, a5.2.2, b5.1, b5.2.1, b5.2.2.1, b5.2.2.2.1, b5.2.2.2.2.1, b5.2.2.2.2.2, p2.2.1.1, p2.2.1.2.1, p2.2.1.2.2, e8, e10]
          refine ⟨h.1, h.2.1, fun w hw => ?_, fun l hl => ?_, ⟨h.2.2.2.2.1.1, fun i hi => ?_⟩, h.2.2.2.2.2.1, fun i hi => ?_⟩
          · have := d.1.1
            have q := p2.2.2.1 w (by omega)
            rw [dn (g + 1) (by omega) (by omega) (by omega) (by omega) (by omega) (by omega), dn (g + 2) (by omega) (by omega) (by omega) (by omega) (by omega) (by omega), dn (g + 3) (by omega) (by omega) (by omega) (by omega) (by omega) (by omega), dn (g + 4) (by omega) (by omega) (by omega) (by omega) (by omega) (by omega), q.1, q.2.1, q.2.2.1, q.2.2.2]
            exact h.2.2.1 w hw
          · have := d.1.2.2
            have q := p2.2.2.2 l (by omega)
            rw [e5 l (by omega), dn (g + 6) (by omega) (by omega) (by omega) (by omega) (by omega) (by omega), dn (g + 7) (by omega) (by omega) (by omega) (by omega) (by omega) (by omega), q.1, q.2]
            exact h.2.2.2.1 l hl
          · have := d.2.2.2.2.1.1
            rw [e9 i (by omega)]
            exact h.2.2.2.2.1.2 i hi
          · have := d.2.2.2.2.1.2.1
            rw [e11 i (by omega)]
            exact h.2.2.2.2.2.2 i hi
        · intro u hu
          rw [a8 u hu]
          rcases tr u hu with q | ⟨q, rr, e, z⟩
          · exact Or.inl q
          · exact Or.inr ⟨q, rr, e, z.keep (fun k k1 _ => fr k (by omega))⟩
      apply hX
      refine br_t (nI_le (a := 6) (b := 6) (by omega) (by omega)) ?_
      rintro _ rfl _ rfl _ rfl _ rfl _ rfl _ rfl _ rfl _ rfl _ rfl _ rfl _ rfl _ rfl
      refine c_rowCopy l8 l8' (by omega) (by omega) (fun M6 f6 a6 b6 => c_rowCopy l10 l10' (by omega) (by omega) (fun M7 f7 a7 b7 => ?_))
      have t2 := t1 _ (fun k hk => by rw [sf_ne hk, sf_ne hk, sf_ne hk, sf_ne hk, sf_ne hk, sf_ne hk]) (by simp [sf_at]) (by simp (disch := omega) only [sf_ne, sf_at, if_pos, if_neg, if_true, e, and_self]) M6 f6 a6 b6 M7 f7 a7 b7
      have e12 : ∀ u, M7 (r + 12) u = M (r + 12) u := fun u => by
        rw [f7 _ (by omega) (by omega), f6 _ (by omega) (by omega)]
        simp (disch := omega) only [sf_ne]
        rw [p2.1 _ (by omega)]
      have isr : ∀ u, u < 2 → M (r + 12) u ≠ 0 → isT K (M (r + 12) u).toNatClampNeg := fun u hu hne => by
        rcases tr u hu with ⟨-, q⟩ | ⟨-, rr, e, j, i, z1, z2, -⟩
        · exact absurd q hne
        · rw [e, cl_nI (by omega)]
          exact ⟨by omega, by omega, by omega⟩
      have w2 : ∀ x y : Int32, x = M (r + 12) 0 → y = M (r + 12) 1 → Q (sf (sf M7 (g + 12) 0 x) (g + 12) 1 y) := fun x y hx hy => by
        refine t2 _ (fun k hk => by rw [sf_ne hk, sf_ne hk]) (fun u hu => ?_)
        rcases (show u = 0 ∨ u = 1 by omega) with rfl | rfl
        · rw [sf_at, if_pos rfl, if_neg (by omega), sf_at, if_pos rfl, if_pos rfl, hx]
        · rw [sf_at, if_pos rfl, if_pos rfl, hy]
      have e13 : ∀ x, sf M7 (g + 12) 0 x (r + 12) 1 = M (r + 12) 1 := fun x => by rw [sf_ne (by omega)]; exact e12 1
      rintro _ rfl
      rw [e12 0]
      refine ⟨fun z0 => ?_, fun z0 => ⟨isr 0 (by omega) z0, ?_⟩⟩
      · rintro _ rfl _ rfl
        rw [e13]
        refine ⟨fun z1 => ?_, fun z1 => ⟨isr 1 (by omega) z1, ?_⟩⟩
        · rintro _ rfl
          exact w2 0 0 z0.symm z1.symm
        · rintro _ rfl
          exact w2 0 _ z0.symm rfl
      · rintro _ rfl _ rfl
        rw [e13]
        refine ⟨fun z1 => ?_, fun z1 => ⟨isr 1 (by omega) z1, ?_⟩⟩
        · rintro _ rfl
          exact w2 _ 0 rfl z1.symm
        · rintro _ rfl
          exact w2 _ _ rfl rfl
    | succ f ih =>
      intro l M2 hl p2 k2
      apply hX
      refine br_f (nI_ge (b := 6) (by omega) (by omega)) ⟨vp_in_nI (by omega) (by omega), ?_⟩
      rw [cl_nI (by omega), p2.1 (r + 5) (by omega)]
      rintro _ rfl
      refine ⟨kd l (by omega), vp_in_nI (by omega) (by omega), ?_⟩
      rintro _ rfl _ rfl
      rw [nI_1]
      refine ih (l + 1) _ (by omega) (p2.st (fun k hk => sf_ne hk)) (fun i hi => ?_)
      rw [sf_at, if_pos rfl]
      by_cases q : i = l
      · rw [if_pos q, q]
      · rw [if_neg q]
        exact k2 i (by omega)
  exact key 6 0 M1 (by omega) p1 (fun i hi => absurd hi (by omega))
