/-! ===== a TURN ===== -/
def Opn (a a' : Nat → Nat) : Prop := ∀ k, (∀ w, w < a 0 → k ≠ 12 + 4 * w + 1) → a' k = a k
theorem Opn.rf {a : Nat → Nat} : Opn a a := fun _ _ => rfl
theorem Opn.tr {a a' a'' : Nat → Nat} (h : Opn a a') (h' : Opn a' a'') : Opn a a'' := fun k hk => by
  have e0 : a' 0 = a 0 := h 0 (fun w _ => by omega)
  rw [h' k (fun w hw => hk w (by omega)), h k hk]
theorem Opn.pl {a : Nat → Nat} {i j : Nat} (hi : i < a 0) (hj : j < a 0) : Opn a (plA a i j) := fun k hk => plA_n (hk i hi) (hk j hj)
theorem Opn.lo {a a' : Nat → Nat} (h : Opn a a') {k : Nat} (hk : k < 12) : a' k = a k := h k (fun w _ => by omega)
theorem Opn.hi {a a' : Nat → Nat} (h : Opn a a') (h0 : a 0 ≤ 8) {k : Nat} (hk : 44 ≤ k) : a' k = a k := h k (fun w _ => by omega)
theorem VOK.op {a a' : Nat → Nat} {V : Vt} (v : VOK a V) (h : Opn a a') (h0 : a 0 ≤ 8) : VOK a' V := fun u hu hp => by
  rw [h.hi h0 (k := 90 + u) (by omega)] at hp ⊢
  have e : (fun i => a' (112 + 50 * u + i)) = fun i => a (112 + 50 * u + i) := funext fun i => h.hi h0 (by omega)
  rw [e]
  exact v u hu hp
theorem TR.op {g K t : Nat} {F : Ft} {M : Mem} {a a' : Nat → Nat} {V : Vt} (h : TR g K t F M a V) (o : Opn a a') (h0 : a 0 ≤ 8) : TR g K t F M a' V := fun u hu => by
  rw [o.hi h0 (k := 90 + u) (by omega)]
  exact h u hu
def pOK (a : Nat → Nat) (r : Nat) : Prop := r = 0 ∨ ∃ i j, i < a 0 ∧ j < a 0 ∧ canP a i j ∧ r = 8 * i + j + 1
theorem chG_ok {a : Nat → Nat} {V : Vt} {l now n : Nat} (hn : n = a 0) : ∀ f k z, k + f ≤ n * n → pOK a z → pOK a (chG a V l now n f k z) := by
  intro f
  induction f with
  | zero => intro k z _ hz; exact hz
  | succ f ih =>
    intro k z hk hz
    have hn0 : 0 < n := by
      rcases Nat.eq_zero_or_pos n with q | q
      · rw [q] at hk; omega
      · exact q
    have hi : k / n < n := (Nat.div_lt_iff_lt_mul hn0).mpr (by omega)
    have hj : k % n < n := Nat.mod_lt _ hn0
    unfold chG
    split
    · rename_i c
      have me : pOK a (8 * (k / n) + k % n + 1) := Or.inr ⟨k / n, k % n, by omega, by omega, canB_i c.2, rfl⟩
      split
      · exact me
      · refine ih (k + 1) _ (by omega) ?_
        split
        · exact me
        · exact hz
    · exact ih (k + 1) z (by omega) hz
theorem chV_ok (a : Nat → Nat) (V : Vt) (l : Nat) : pOK a (chV a V l) := chG_ok rfl _ _ _ (by omega) (Or.inl rfl)
def lckB (a : Nat → Nat) : Bool := decide (a 6 ≤ a 3 ∧ a 3 < a 7)
theorem lckB_t {a : Nat → Nat} (h : lckd a) : lckB a = true := decide_eq_true h
theorem lckB_f {a : Nat → Nat} (h : ¬ lckd a) : lckB a = false := decide_eq_false h
def tnG (V : Vt) (l : Nat) : Nat → (Nat → Nat) → Nat × (Nat → Nat)
  | 0, a => (0, a)
  | f + 1, a => if lckB a = true ∨ conL a V l = true then (0, a) else if chV a V l = 0 then (0, a) else ((tnG V l f (plA a ((chV a V l - 1) / 8) ((chV a V l - 1) % 8))).1 + 1, (tnG V l f (plA a ((chV a V l - 1) / 8) ((chV a V l - 1) % 8))).2)
def tn (V : Vt) (l : Nat) (a : Nat → Nat) : Nat × (Nat → Nat) := tnG V l (stg (a (44 + 3 * l))) a
theorem ch_p {a : Nat → Nat} (d : DOK a) (V : Vt) (l : Nat) (h : chV a V l ≠ 0) : (chV a V l - 1) / 8 < a 0 ∧ (chV a V l - 1) % 8 < a 0 ∧ canP a ((chV a V l - 1) / 8) ((chV a V l - 1) % 8) ∧ chV a V l ≤ 64 := by
  have d0 := d.1.1
  rcases chV_ok a V l with q | ⟨i, j, hi, hj, hc, e⟩
  · exact absurd q h
  · have e1 : (chV a V l - 1) / 8 = i := by omega
    have e2 : (chV a V l - 1) % 8 = j := by omega
    rw [e1, e2]
    exact ⟨hi, hj, hc, by omega⟩
theorem tnG_ok {V : Vt} {l : Nat} : ∀ f a, DOK a → DOK (tnG V l f a).2 ∧ Opn a (tnG V l f a).2 ∧ (tnG V l f a).1 ≤ f := by
  intro f
  induction f with
  | zero => intro a d; exact ⟨d, Opn.rf, Nat.le_refl _⟩
  | succ f ih =>
    intro a d
    unfold tnG
    split
    · exact ⟨d, Opn.rf, Nat.zero_le _⟩
    · split
      · exact ⟨d, Opn.rf, Nat.zero_le _⟩
      · rename_i h
        obtain ⟨h1, h2, h3, -⟩ := ch_p d V l h
        obtain ⟨i1, i2, i3⟩ := ih _ (d.pl h1 h2 h3)
        exact ⟨i1, (Opn.pl h1 h2).tr i2, Nat.succ_le_succ i3⟩
def Mg (M M' : Mem) : Prop := (∀ k, k ≠ 0 → k ≠ 1 → k ≠ 5 → M' k = M k) ∧ ∀ j, (j < 5 ∨ 10 < j) → M' 0 j = M 0 j
theorem Mg.rf {M : Mem} : Mg M M := ⟨fun _ _ _ _ => rfl, fun _ _ => rfl⟩
theorem Mg.tr {M M' M'' : Mem} (h : Mg M M') (h' : Mg M' M'') : Mg M M'' := ⟨fun k h0 h1 h2 => (h'.1 k h0 h1 h2).trans (h.1 k h0 h1 h2), fun j hj => (h'.2 j hj).trans (h.2 j hj)⟩
theorem Ms.g {M M' : Mem} (h : Ms M M') : Mg M M' := ⟨fun k h0 _ h2 => h.1 k h0 h2, h.2⟩
theorem Mg.of {M M' : Mem} (h : ∀ k, k ≠ 1 → M' k = M k) : Mg M M' := ⟨fun k _ h1 _ => h k h1, fun j _ => by rw [h 0 (by omega)]⟩
theorem m_turnOf {l : Nat} {M : Mem} {a : Nat → Nat} {V : Vt} {Q : Int32 → Mem → Prop} (h : MR M a) (d : DOK a) (v : VOK a V) (hl : l < a 2) (hQ : ∀ M' : Mem, Mg M M' → MR M' (tn V l a).2 → Q (nI (tn V l a).1) M') : P_X12_turnOf M (nI l) Q := by
  have dl := d.2.2.2.1 l hl
  have hl6 := d.1.2.2
  have hs : stg (a (44 + 3 * l)) ≤ 2 := by unfold stg; split <;> omega
  unfold P_X12_turnOf B_X12_turnOf_2
  intro X hX
  have key : ∀ f c (b : Nat → Nat) (M1 : Mem), c + f = stg (a (44 + 3 * l)) → Mg M M1 → MR M1 b → DOK b → Opn a b → (tnG V l f b).2 = (tn V l a).2 → c + (tnG V l f b).1 = (tn V l a).1 → X (nI c) M1 := by
    intro f
    induction f with
    | zero =>
      intro c b M1 hc g h1 db o e1 e2
      have k44 : b (44 + 3 * l) = a (44 + 3 * l) := o.hi d.1.1 (by omega)
      have b2 : b 2 = a 2 := o.lo (by omega)
      apply hX
      refine m_pullsOf h1 db (by omega) ?_
      rw [k44]
      refine br_t (nI_le (by omega) (by omega)) ?_
      have e1' : b = (tn V l a).2 := e1
      have e2' : c + 0 = (tn V l a).1 := e2
      have := hQ M1 g (by rw [← e1']; exact h1)
      rw [← e2', Nat.add_zero] at this
      exact this
    | succ f ih =>
      intro c b M1 hc g h1 db o e1 e2
      have k44 : b (44 + 3 * l) = a (44 + 3 * l) := o.hi d.1.1 (by omega)
      have b2 : b 2 = a 2 := o.lo (by omega)
      have vb := v.op o d.1.1
      unfold tnG at e1 e2
      have stop : ∀ M2 : Mem, Mg M M2 → MR M2 b → b = (tn V l a).2 → c = (tn V l a).1 → Q (nI c) M2 := fun M2 g2 h2 q1 q2 => by
        have := hQ M2 g2 (by rw [← q1]; exact h2)
        rw [← q2] at this
        exact this
      apply hX
      refine m_pullsOf h1 db (by omega) ?_
      rw [k44]
      refine br_f (nI_ge (by omega) (by omega)) (m_isLocked h1 db (fun q => ?_) (fun q => ?_))
      · rw [if_pos (Or.inl (lckB_t q))] at e1 e2
        exact ⟨fun _ => stop M1 g h1 e1 e2, fun z => absurd z (by decide)⟩
      · refine ⟨fun z => absurd rfl z, fun _ => m_isContent h1 db vb (by omega) (fun M2 s2 => ?_)⟩
        cases hcn : conL b V l with
        | true =>
          rw [if_pos (Or.inr hcn)] at e1 e2
          exact ⟨fun _ => stop M2 (g.tr s2.g) (h1.ms s2) e1 e2, fun z => absurd z (by decide)⟩
        | false =>
          rw [if_neg (fun z => by rcases z with z | z; rw [lckB_f q] at z; exact absurd z (by decide); rw [hcn] at z; exact absurd z (by decide))] at e1 e2
          refine ⟨fun z => absurd rfl z, fun _ => m_choice (h1.ms s2) db vb (by omega) (fun i j hi hj _ => vb.op (Opn.pl hi hj) db.1.1) (fun M3 g3 g3' h3 => ?_)⟩
          have g13 : Mg M M3 := (g.tr s2.g).tr ⟨g3, g3'⟩
          rcases Nat.eq_zero_or_pos (chV b V l) with q0 | q0
          · rw [if_pos q0] at e1 e2
            rw [q0, cI_0]
            exact ⟨fun z => absurd z (by decide), fun _ => stop M3 g13 h3 e1 e2⟩
          · rw [if_neg (by omega)] at e1 e2
            obtain ⟨p1, p2, p3, p4⟩ := ch_p db V l (by omega)
            have ec : cI (chV b V l) = nI (chV b V l - 1) := by
              obtain ⟨y, hy⟩ : ∃ y, chV b V l = y + 1 := ⟨chV b V l - 1, by omega⟩
              rw [hy, cI_s]
              rfl
            rw [ec]
            refine ⟨fun _ => ?_, fun z => absurd (nI_pos' (by omega)) z⟩
            rw [show (8 : Int32) = nI 8 from rfl, pk_rem (by omega) (by omega) (by omega), pk_div (by omega) (by omega) (by omega)]
            have db0 := db.1.1
            refine h3.pl (by omega) (by omega) p3.1 p3.2.2.2.2.2.2 (fun M4 g4 h4 => ?_)
            rintro _ rfl
            rw [nI_1]
            exact ih (c + 1) _ M4 (by omega) (g13.tr (Mg.of g4)) h4 (db.pl p1 p2 p3) (o.tr (Opn.pl p1 p2)) e1 (by omega)
  exact key _ 0 a M (by omega) Mg.rf h d Opn.rf rfl (by rw [Nat.zero_add]; rfl)
