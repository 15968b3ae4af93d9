def Cg (g : Nat) (M M' : Mem) : Prop := ∀ k, k ≠ g + 2 → k ≠ 2 → (∀ j, k ≠ 71 + 3 * j) → M' k = M k
theorem Cg.rf {g : Nat} {M : Mem} : Cg g M M := fun _ _ _ _ => rfl
theorem Cg.tr {g : Nat} {M M' M'' : Mem} (h : Cg g M M') (h' : Cg g M' M'') : Cg g M M'' := fun k h1 h2 h3 => (h' k h1 h2 h3).trans (h k h1 h2 h3)
theorem Cs.g {g : Nat} {M M' : Mem} (h : Cs M M') : Cg g M M' := fun k _ h2 h3 => h k h2 h3
theorem Cg.TR {g K t : Nat} {F : Ft} {M M' : Mem} {a : Nat → Nat} {V : Vt} (s : Cg g M M') (hg : isH g) (h : TR g K t F M a V) : TR g K t F M' a V := h.keep (s _ (by omega) (by rcases hg with rfl | rfl | rfl <;> omega) (fun j => by rcases hg with rfl | rfl | rfl <;> omega)) (fun k k1 k2 => s k (by rcases hg with rfl | rfl | rfl <;> omega) (by omega) k2)
theorem CX.pl {g K t : Nat} {F : Ft} {M M' : Mem} (c : CX K t F M) (hg : isH g) (h : ∀ k, k ≠ g + 2 → M' k = M k) : CX K t F M' := ⟨fun p hp => by rw [h 2 (by rcases hg with rfl | rfl | rfl <;> omega)]; exact c.1 p hp, c.2⟩
theorem c_turnOf {K g t l : Nat} {F : Ft} {M : Mem} {a : Nat → Nat} {V : Vt} {Q : Int32 → Mem → Prop} (hg : isH g) (h : HR g M a) (hr : TR g K t F M a V) (c : CX K t F M) (d : DOK a) (hl : l < a 2) (hQ : ∀ M' : Mem, Cg g M M' → CX K t F M' → HR g M' (tn V l a).2 → Q (nI (tn V l a).1) M') : P_X2_turnOf K M g (nI l) Q := by
  have dl := d.2.2.2.1 l hl
  have hl6 := d.1.2.2
  have d0 := d.1.1
  have hs : stg (a (44 + 3 * l)) ≤ 2 := by unfold stg; split <;> omega
  have hs1 : 1 ≤ stg (a (44 + 3 * l)) := by unfold stg; split <;> omega
  obtain ⟨s', hs'⟩ : ∃ s', stg (a (44 + 3 * l)) = s' + 1 := ⟨stg (a (44 + 3 * l)) - 1, by omega⟩
  unfold P_X2_turnOf
  refine c_isLocked h d (fun q => ?_) (fun q => ?_)
  · refine ⟨fun _ => ?_, fun z => absurd z (by decide)⟩
    have e : tn V l a = (0, a) := by
      unfold tn
      rw [hs']
      unfold tnG
      rw [if_pos (Or.inl (lckB_t q))]
    rw [e] at hQ
    exact hQ M Cg.rf c h
  · refine ⟨fun z => absurd rfl z, fun _ => c_isContent hg h hr c d hl (fun M1 s1 c1 => ?_)⟩
    have h1 := s1.HR hg h
    cases hcn : conL a V l with
    | true =>
      refine ⟨fun z => absurd z (by decide), fun _ => ?_⟩
      have e : tn V l a = (0, a) := by
        unfold tn
        rw [hs']
        unfold tnG
        rw [if_pos (Or.inr hcn)]
      rw [e] at hQ
      exact hQ M1 s1.g c1 h1
    | false =>
      have e5 := h1.2.2.2.1 l hl
      refine ⟨fun _ => ⟨vp_in_nI (by omega) (by omega), ?_⟩, fun z => absurd rfl z⟩
      rw [cl_nI (by omega), e5.1]
      rintro _ rfl
      refine ⟨kd15 dl.1, c_strength dl.1 ?_⟩
      unfold B_X2_turnOf_29
      intro X hX
      have key : ∀ f n (b : Nat → Nat) (M2 : Mem), n + f = stg (a (44 + 3 * l)) → Cg g M M2 → CX K t F M2 → HR g M2 b → DOK b → Opn a b → lckB b = false → conL b V l = false → (tnG V l f b).2 = (tn V l a).2 → n + (tnG V l f b).1 = (tn V l a).1 → X (nI n) M2 := by
        intro f
        induction f with
        | zero =>
          intro n b M2 hn g2 c2 h2 db o e1 e2 e3 e4
          apply hX
          refine br_t (nI_le (by omega) (by omega)) ?_
          have e3' : b = (tn V l a).2 := e3
          have e4' : n + 0 = (tn V l a).1 := e4
          have := hQ M2 g2 c2 (by rw [← e3']; exact h2)
          rw [← e4', Nat.add_zero] at this
          exact this
        | succ f ih =>
          intro n b M2 hn g2 c2 h2 db o e1 e2 e3 e4
          have b2 : b 2 = a 2 := o.lo (by omega)
          have r2 := (g2.TR hg hr).op o d0
          unfold tnG at e3 e4
          rw [if_neg (fun z => by rcases z with z | z; rw [e1] at z; exact absurd z (by decide); rw [e2] at z; exact absurd z (by decide))] at e3 e4
          apply hX
          refine br_f (nI_ge (by omega) (by omega)) (c_pair hg h2 r2 c2 db (by omega) (fun M3 s3 c3 => ?_))
          have h3 := s3.HR hg h2
          have g3 := g2.tr s3.g
          rcases Nat.eq_zero_or_pos (chV b V l) with q0 | q0
          · rw [if_pos q0] at e3 e4
            rw [q0, cI_0]
            refine ⟨fun z => absurd z (by decide), fun _ => ?_⟩
            have e3' : b = (tn V l a).2 := e3
            have e4' : n + 0 = (tn V l a).1 := e4
            have := hQ M3 g3 c3 (by rw [← e3']; exact h3)
            rw [← e4', Nat.add_zero] at this
            exact this
          · rw [if_neg (by omega)] at e3 e4
            obtain ⟨p1, p2, p3, p4⟩ := ch_p db V l (by omega)
            have ec : cI (chV b V l) = nI (chV b V l - 1) := by
              obtain ⟨y, hy⟩ : ∃ y, chV b V l = y + 1 := ⟨chV b V l - 1, by omega⟩
              rw [hy, cI_s]
              rfl
            rw [ec]
            refine ⟨fun _ => ?_, fun z => absurd (nI_pos' (by omega)) z⟩
            rw [show (8 : Int32) = nI 8 from rfl, pk_rem (by omega) (by omega) (by omega), pk_div (by omega) (by omega) (by omega)]
            refine h3.pl db p1 p2 p3.1 p3.2.2.2.2.2.2 (fun M4 g4 h4 => ?_)
            rintro _ rfl
            rw [nI_1]
            have db4 := db.pl p1 p2 p3
            have o4 := o.tr (Opn.pl p1 p2)
            have l4 : lckB (plA b ((chV b V l - 1) / 8) ((chV b V l - 1) % 8)) = false := by
              have : lckB (plA b ((chV b V l - 1) / 8) ((chV b V l - 1) % 8)) = lckB b := by
                unfold lckB
                rw [plA_lo (k := 6) (by omega), plA_lo (k := 3) (by omega), plA_lo (k := 7) (by omega)]
              rw [this]
              exact e1
            have b24 : plA b ((chV b V l - 1) / 8) ((chV b V l - 1) % 8) 2 = b 2 := plA_lo (by omega)
            have g34 : Cg g M M4 := g3.tr (fun k k1 _ _ => g4 k k1)
            have c4 := c3.pl hg g4
            generalize plA b ((chV b V l - 1) / 8) ((chV b V l - 1) % 8) = b4 at *
            refine c_isContent hg h4 ((g34.TR hg hr).op o4 d0) c4 db4 (by omega) (fun M5 s5 c5 => ?_)
            have h5 := s5.HR hg h4
            have g5 := g34.tr s5.g
            cases hc4 : conL b4 V l with
            | true =>
              refine ⟨fun z => absurd z (by decide), fun _ => ?_⟩
              have et : tnG V l f b4 = (0, b4) := by
                cases f with
                | zero => rfl
                | succ f =>
                  unfold tnG
                  rw [if_pos (Or.inr hc4)]
              rw [et] at e3 e4
              have e3' : b4 = (tn V l a).2 := e3
              have e4' : n + (0 + 1) = (tn V l a).1 := e4
              have := hQ M5 g5 c5 (by rw [← e3']; exact h5)
              rw [← e4', Nat.zero_add] at this
              exact this
            | false =>
              refine ⟨fun _ => ?_, fun z => absurd rfl z⟩
              exact ih (n + 1) b4 M5 (by omega) g5 c5 h5 db4 o4 l4 hc4 e3 (by omega)
      exact key _ 0 a M1 (by omega) s1.g c1 h1 d Opn.rf (lckB_f q) hcn rfl (by rw [Nat.zero_add]; rfl)
/-! ===== a TURN of each ===== -/
def taG (V : Vt) (n : Nat) : Nat → (Nat → Nat) → Nat × (Nat → Nat)
  | 0, a => (0, a)
  | f + 1, a => ((tn V (n - (f + 1)) a).1 + (taG V n f (tn V (n - (f + 1)) a).2).1, (taG V n f (tn V (n - (f + 1)) a).2).2)
def ta (V : Vt) (a : Nat → Nat) : Nat × (Nat → Nat) := taG V (a 2) (a 2) a
theorem tn_ok {V : Vt} {l : Nat} {a : Nat → Nat} (d : DOK a) : DOK (tn V l a).2 ∧ Opn a (tn V l a).2 ∧ (tn V l a).1 ≤ 2 := by
  obtain ⟨h1, h2, h3⟩ := tnG_ok (V := V) (l := l) (stg (a (44 + 3 * l))) a d
  refine ⟨h1, h2, Nat.le_trans h3 ?_⟩
  unfold stg
  split <;> omega
theorem taG_ok {V : Vt} {n : Nat} : ∀ f a, DOK a → DOK (taG V n f a).2 ∧ Opn a (taG V n f a).2 ∧ (taG V n f a).1 ≤ 2 * f := by
  intro f
  induction f with
  | zero => intro a d; exact ⟨d, Opn.rf, Nat.le_refl _⟩
  | succ f ih =>
    intro a d
    obtain ⟨t1, t2, t3⟩ := tn_ok (V := V) (l := n - (f + 1)) d
    obtain ⟨i1, i2, i3⟩ := ih _ t1
    unfold taG
    exact ⟨i1, t2.tr i2, by show _ + _ ≤ _; omega⟩
theorem m_turnOfAll {M : Mem} {a : Nat → Nat} {V : Vt} {Q : Int32 → Mem → Prop} (h : MR M a) (d : DOK a) (v : VOK a V) (hQ : ∀ M' : Mem, Mg M M' → MR M' (ta V a).2 → Q (nI (ta V a).1) M') : P_X12_turnOfAll M Q := by
  have hl6 := d.1.2.2
  unfold P_X12_turnOfAll B_X12_turnOfAll_4
  intro X hX
  have key : ∀ f s (b : Nat → Nat) (M1 : Mem), f ≤ a 2 → Mg M M1 → MR M1 b → DOK b → Opn a b → (taG V (a 2) f b).2 = (ta V a).2 → s + (taG V (a 2) f b).1 = (ta V a).1 → X (nI s) (nI (a 2 - f)) M1 := by
    intro f
    induction f with
    | zero =>
      intro s b M1 hf g h1 db o e1 e2
      have b2 : b 2 = a 2 := o.lo (by omega)
      apply hX
      rw [h1 2 (by omega), b2]
      refine br_t (nI_le (by omega) (by omega)) ?_
      have e1' : b = (ta V a).2 := e1
      have e2' : s + 0 = (ta V a).1 := e2
      have := hQ M1 g (by rw [← e1']; exact h1)
      rw [← e2', Nat.add_zero] at this
      exact this
    | succ f ih =>
      intro s b M1 hf g h1 db o e1 e2
      have b2 : b 2 = a 2 := o.lo (by omega)
      unfold taG at e1 e2
      obtain ⟨t1, t2, t3⟩ := tn_ok (V := V) (l := a 2 - (f + 1)) db
      apply hX
      rw [h1 2 (by omega), b2]
      refine br_f (nI_ge (by omega) (by omega)) (m_turnOf h1 db (v.op o d.1.1) (by omega) (fun M2 g2 h2 => ?_))
      rintro _ rfl _ rfl
      rw [nI_add, nI_1, show a 2 - (f + 1) + 1 = a 2 - f by omega]
      exact ih _ _ M2 (by omega) (g.tr g2) h2 t1 (o.tr t2) e1 (by rw [← e2]; omega)
  have := key (a 2) 0 a M (Nat.le_refl _) Mg.rf h d Opn.rf rfl (by rw [Nat.zero_add]; rfl)
  rw [Nat.sub_self] at this
  exact this
theorem c_turnOfAll {K g t : Nat} {F : Ft} {M : Mem} {a : Nat → Nat} {V : Vt} {Q : Int32 → Mem → Prop} (hg : isH g) (h : HR g M a) (hr : TR g K t F M a V) (c : CX K t F M) (d : DOK a) (hQ : ∀ M' : Mem, Cg g M M' → CX K t F M' → HR g M' (ta V a).2 → Q (nI (ta V a).1) M') : P_X2_turnOfAll K M g Q := by
  have hl6 := d.1.2.2
  unfold P_X2_turnOfAll B_X2_turnOfAll_4
  intro X hX
  have key : ∀ f s (b : Nat → Nat) (M1 : Mem), f ≤ a 2 → Cg g M M1 → CX K t F M1 → HR g M1 b → DOK b → Opn a b → (taG V (a 2) f b).2 = (ta V a).2 → s + (taG V (a 2) f b).1 = (ta V a).1 → X (nI s) (nI (a 2 - f)) M1 := by
    intro f
    induction f with
    | zero =>
      intro s b M1 hf g1 c1 h1 db o e1 e2
      have b2 : b 2 = a 2 := o.lo (by omega)
      apply hX
      rw [h1.1.2.2, b2]
      refine br_t (nI_le (by omega) (by omega)) ?_
      have e1' : b = (ta V a).2 := e1
      have e2' : s + 0 = (ta V a).1 := e2
      have := hQ M1 g1 c1 (by rw [← e1']; exact h1)
      rw [← e2', Nat.add_zero] at this
      exact this
    | succ f ih =>
      intro s b M1 hf g1 c1 h1 db o e1 e2
      have b2 : b 2 = a 2 := o.lo (by omega)
      unfold taG at e1 e2
      obtain ⟨t1, t2, t3⟩ := tn_ok (V := V) (l := a 2 - (f + 1)) db
      apply hX
      rw [h1.1.2.2, b2]
      refine br_f (nI_ge (by omega) (by omega)) (c_turnOf hg h1 ((g1.TR hg hr).op o d.1.1) c1 db (by omega) (fun M2 g2 c2 h2 => ?_))
      rintro _ rfl _ rfl
      rw [nI_add, nI_1, show a 2 - (f + 1) + 1 = a 2 - f by omega]
      exact ih _ _ M2 (by omega) (g1.tr g2) c2 h2 t1 (o.tr t2) e1 (by rw [← e2]; omega)
  have := key (a 2) 0 a M (Nat.le_refl _) Cg.rf c h d Opn.rf rfl (by rw [Nat.zero_add]; rfl)
  rw [Nat.sub_self] at this
  exact this
