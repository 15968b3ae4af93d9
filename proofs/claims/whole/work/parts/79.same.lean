/-! ===== the same standing is found ===== -/
abbrev PS : Type := CS × TS
def lfP (a : Nat → Nat) (V : Vt) (x2 : Int32) (r : Nat → Nat) (p : PS) : PS := (lfC a V r p.1, lfM a V x2 r p.2)
def EqS (a : Nat → Nat) (p : PS) : Prop := p.2.2.1 = p.1.2.1 + 1 ∧ p.1.2.1 < 1000000 ∧ ∀ k, k < a 0 → p.2.2.2.2 k = p.1.2.2 k
def Bd (p : PS) : Prop := p.2.2.1 ≤ 1000 ∧ p.2.2.2.1 ≤ 1000
/-- most -/
def DM (a : Nat → Nat) (p : PS) : Prop := EqS a p ∧ p.2.2.2.1 = p.1.1
def IM (a : Nat → Nat) (V : Vt) (p : PS) : Prop := Bd p ∧ (DM a p ∨ (p.1.1 = c0 a V ∧ p.1.2.1 = 0 ∧ (∀ k, k < a 0 → p.1.2.2 k = opn a k) ∧ (p.2.2.1 = 0 ∨ p.2.2.2.1 < c0 a V ∨ (p.2.2.2.1 = c0 a V ∧ 1 < p.2.2.1))))
theorem st_most {a r : Nat → Nat} {V : Vt} {p : PS} (d : DOK a) (q : LPr a r) (i : IM a V p) : IM a V (lfP a V 0 r p) ∧ (DM a p → DM a (lfP a V 0 r p)) ∧ ((∀ k, k < a 0 → r k = opn a k) → DM a (lfP a V 0 r p)) := by
  have d0 := d.1.1
  have d2 := d.1.2.2
  have hc := cnt_b (V := V) (r := r) d
  have hp := pul_le (a := a) (r := r) (a 0) q.1
  have h0 : pul a r (a 0) = 0 → (∀ k, k < a 0 → r k = opn a k) ∧ cnt a V r = c0 a V := fun z => ⟨LP_0 q z, cnt_o (LP_0 q z)⟩
  have h1 : (∀ k, k < a 0 → r k = opn a k) → pul a r (a 0) = 0 ∧ cnt a V r = c0 a V := fun z => ⟨pul_o _ z, cnt_o z⟩
  obtain ⟨⟨s1, s2, s3⟩, ⟨m, bp, bc, row⟩⟩ := p
  obtain ⟨⟨b1, b2⟩, i⟩ := i
  have b1 : bp ≤ 1000 := b1
  have b2 : bc ≤ 1000 := b2
  have e : lfP a V 0 r ((s1, s2, s3), (m, bp, bc, row)) = (if s1 < cnt a V r ∨ (s1 = cnt a V r ∧ pul a r (a 0) < s2) then (cnt a V r, pul a r (a 0), r) else (s1, s2, s3), if bp = 0 ∨ (cnt a V r = bc ∧ pul a r (a 0) + 1 < bp) ∨ bc < cnt a V r then (m + 1, pul a r (a 0) + 1, cnt a V r, r) else (m + 1, bp, bc, row)) := by
    show (lfC a V r (s1, s2, s3), lfM a V 0 r (m, bp, bc, row)) = _
    rw [lfM0 (T := (m, bp, bc, row)) d q b1 b2]
    rfl
  have new : Bd ((cnt a V r, pul a r (a 0), r), (m + 1, pul a r (a 0) + 1, cnt a V r, r)) ∧ DM a ((cnt a V r, pul a r (a 0), r), (m + 1, pul a r (a 0) + 1, cnt a V r, r)) := ⟨⟨by show pul a r (a 0) + 1 ≤ 1000; omega, by show cnt a V r ≤ 1000; omega⟩, ⟨rfl, by show pul a r (a 0) < 1000000; omega, fun _ _ => rfl⟩, rfl⟩
  have fin : ∀ p' : PS, Bd p' → DM a p' → IM a V p' ∧ (DM a ((s1, s2, s3), (m, bp, bc, row)) → DM a p') ∧ ((∀ k, k < a 0 → r k = opn a k) → DM a p') := fun p' x y => ⟨⟨x, Or.inl y⟩, fun _ => y, fun _ => y⟩
  rw [e]
  rcases i with ⟨⟨i1, i2, i3⟩, i4⟩ | ⟨i1, i2, i3, i4⟩
  · have i1 : bp = s2 + 1 := i1
    have i2 : s2 < 1000000 := i2
    have i4 : bc = s1 := i4
    by_cases z : s1 < cnt a V r ∨ (s1 = cnt a V r ∧ pul a r (a 0) < s2)
    · rw [if_pos z, if_pos (by omega)]
      exact fin _ new.1 new.2
    · rw [if_neg z, if_neg (by omega)]
      exact fin _ ⟨b1, b2⟩ ⟨⟨i1, i2, i3⟩, i4⟩
  · have i1 : s1 = c0 a V := i1
    have i2 : s2 = 0 := i2
    have i4 : bp = 0 ∨ bc < c0 a V ∨ (bc = c0 a V ∧ 1 < bp) := i4
    by_cases z : s1 < cnt a V r
    · rw [if_pos (Or.inl z), if_pos (by omega)]
      exact fin _ new.1 new.2
    · rw [if_neg (by omega)]
      by_cases y : bp = 0 ∨ (cnt a V r = bc ∧ pul a r (a 0) + 1 < bp) ∨ bc < cnt a V r
      · rw [if_pos y]
        by_cases x : pul a r (a 0) = 0
        · refine fin _ new.1 ⟨⟨?_, ?_, fun k hk => ?_⟩, ?_⟩
          · show pul a r (a 0) + 1 = s2 + 1; omega
          · show s2 < 1000000; omega
          · exact ((h0 x).1 k hk).trans (i3 k hk).symm
          · show cnt a V r = s1; rw [(h0 x).2, i1]
        · refine ⟨⟨new.1, Or.inr ⟨i1, i2, i3, ?_⟩⟩, fun w => ?_, fun w => absurd (h1 w).1 x⟩
          · show pul a r (a 0) + 1 = 0 ∨ cnt a V r < c0 a V ∨ (cnt a V r = c0 a V ∧ 1 < pul a r (a 0) + 1)
            omega
          · have w1 : bp = s2 + 1 := w.1.1
            have w2 : bc = s1 := w.2
            omega
      · rw [if_neg y]
        refine ⟨⟨⟨b1, b2⟩, Or.inr ⟨i1, i2, i3, i4⟩⟩, fun w => ?_, fun w => ?_⟩
        · have w1 : bp = s2 + 1 := w.1.1
          have w2 : bc = s1 := w.2
          omega
        · have w1 := h1 w
          omega
/-- fewest -/
def DF (a : Nat → Nat) (p : PS) : Prop := EqS a p ∨ (p.1.2.1 = 1000000 ∧ p.2.2.1 = 0)
def IF (a : Nat → Nat) (V : Vt) (p : PS) : Prop := p.2.2.1 ≤ 1000 ∧ p.1.1 = a 2 ∧ (EqS a p ∨ (c0 a V < a 2 ∧ p.1.2.1 = 1000000 ∧ p.2.2.1 = 0) ∨ (c0 a V = a 2 ∧ p.1.2.1 = 0 ∧ (∀ k, k < a 0 → p.1.2.2 k = opn a k) ∧ p.2.2.1 ≠ 1))
theorem st_few {a r : Nat → Nat} {V : Vt} {p : PS} (d : DOK a) (q : LPr a r) (i : IF a V p) : IF a V (lfP a V 1 r p) ∧ (DF a p → DF a (lfP a V 1 r p)) ∧ ((∀ k, k < a 0 → r k = opn a k) → DF a (lfP a V 1 r p)) := by
  have d0 := d.1.1
  have d2 := d.1.2.2
  have hc := cnt_b (V := V) (r := r) d
  have hp := pul_le (a := a) (r := r) (a 0) q.1
  have h0 : pul a r (a 0) = 0 → (∀ k, k < a 0 → r k = opn a k) ∧ cnt a V r = c0 a V := fun z => ⟨LP_0 q z, cnt_o (LP_0 q z)⟩
  have h1 : (∀ k, k < a 0 → r k = opn a k) → pul a r (a 0) = 0 ∧ cnt a V r = c0 a V := fun z => ⟨pul_o _ z, cnt_o z⟩
  obtain ⟨⟨s1, s2, s3⟩, ⟨m, bp, bc, row⟩⟩ := p
  obtain ⟨b1, j, i⟩ := i
  have b1 : bp ≤ 1000 := b1
  have j : s1 = a 2 := j
  have e : lfP a V 1 r ((s1, s2, s3), (m, bp, bc, row)) = (if s1 < cnt a V r ∨ (s1 = cnt a V r ∧ pul a r (a 0) < s2) then (cnt a V r, pul a r (a 0), r) else (s1, s2, s3), if cnt a V r = a 2 ∧ (bp = 0 ∨ pul a r (a 0) + 1 < bp) then (m + 1, pul a r (a 0) + 1, cnt a V r, r) else (m + 1, bp, bc, row)) := by
    show (lfC a V r (s1, s2, s3), lfM a V 1 r (m, bp, bc, row)) = _
    rw [lfM1 (T := (m, bp, bc, row)) d q b1]
    rfl
  have new : EqS a ((cnt a V r, pul a r (a 0), r), (m + 1, pul a r (a 0) + 1, cnt a V r, r)) := ⟨rfl, by show pul a r (a 0) < 1000000; omega, fun _ _ => rfl⟩
  have fin : ∀ p' : PS, p'.2.2.1 ≤ 1000 → p'.1.1 = a 2 → EqS a p' → IF a V p' ∧ (DF a ((s1, s2, s3), (m, bp, bc, row)) → DF a p') ∧ ((∀ k, k < a 0 → r k = opn a k) → DF a p') := fun p' x w y => ⟨⟨x, w, Or.inl y⟩, fun _ => Or.inl y, fun _ => Or.inl y⟩
  have hpp : pul a r (a 0) + 1 ≤ 1000 := by omega
  rw [e]
  rcases i with ⟨i1, i2, i3⟩ | ⟨i1, i2, i3⟩ | ⟨i1, i2, i3, i4⟩
  · have i1 : bp = s2 + 1 := i1
    have i2 : s2 < 1000000 := i2
    by_cases z : s1 < cnt a V r ∨ (s1 = cnt a V r ∧ pul a r (a 0) < s2)
    · rw [if_pos z, if_pos (by omega)]
      exact fin _ hpp (by show cnt a V r = a 2; omega) new
    · rw [if_neg z, if_neg (by omega)]
      exact fin _ b1 j ⟨i1, i2, i3⟩
  · have i2 : s2 = 1000000 := i2
    have i3 : bp = 0 := i3
    by_cases z : s1 < cnt a V r ∨ (s1 = cnt a V r ∧ pul a r (a 0) < s2)
    · rw [if_pos z, if_pos (by omega)]
      exact fin _ hpp (by show cnt a V r = a 2; omega) new
    · rw [if_neg z, if_neg (by omega)]
      exact ⟨⟨b1, j, Or.inr (Or.inl ⟨i1, i2, i3⟩)⟩, fun _ => Or.inr ⟨i2, i3⟩, fun _ => Or.inr ⟨i2, i3⟩⟩
  · have i2 : s2 = 0 := i2
    have i4 : bp ≠ 1 := i4
    rw [if_neg (by omega)]
    by_cases y : cnt a V r = a 2 ∧ (bp = 0 ∨ pul a r (a 0) + 1 < bp)
    · rw [if_pos y]
      by_cases x : pul a r (a 0) = 0
      · refine fin _ hpp j ⟨?_, ?_, fun k hk => ?_⟩
        · show pul a r (a 0) + 1 = s2 + 1; omega
        · show s2 < 1000000; omega
        · exact ((h0 x).1 k hk).trans (i3 k hk).symm
      · refine ⟨⟨hpp, j, Or.inr (Or.inr ⟨i1, i2, i3, ?_⟩)⟩, fun w => ?_, fun w => absurd (h1 w).1 x⟩
        · show pul a r (a 0) + 1 ≠ 1; omega
        · rcases w with w | w
          · have w1 : bp = s2 + 1 := w.1
            omega
          · have w1 : s2 = 1000000 := w.1
            omega
    · rw [if_neg y]
      refine ⟨⟨b1, j, Or.inr (Or.inr ⟨i1, i2, i3, i4⟩)⟩, fun w => ?_, fun w => ?_⟩
      · rcases w with w | w
        · have w1 : bp = s2 + 1 := w.1
          omega
        · have w1 : s2 = 1000000 := w.1
          omega
      · have w1 := h1 w
        omega
theorem most_eq {a r0 : Nat → Nat} {V : Vt} (d : DOK a) : DM a (go a (a 0) (lfP a V 0) (a 0) (fun _ => 0) (l0f a) (s0 a V 0, (0, 0, 0, r0))) := by
  refine go_vis (I := IM a V) (D := DM a) d (fun r s p i => (st_most d p i).1) (fun r s p i => (st_most d p i).2.1) (fun r s p o i => (st_most d p i).2.2 o) (a 0) _ _ _ (Nat.le_refl _) (fun k hk => absurd hk (by omega)) (fun c => ?_) (SU_t d) ⟨⟨Nat.zero_le _, Nat.zero_le _⟩, Or.inr ⟨?_, ?_, fun k hk => rfl, Or.inl rfl⟩⟩
  · rw [Nat.sub_self]
    rfl
  · show (if 0 < c0 a V then c0 a V else 0) = c0 a V
    split <;> omega
  · show (if c0 a V < 0 then 1000000 else 0) = 0
    exact if_neg (by omega)
theorem few_eq {a r0 : Nat → Nat} {V : Vt} (d : DOK a) : DF a (go a (a 0) (lfP a V 1) (a 0) (fun _ => 0) (l0f a) (s0 a V (a 2), (0, 0, 0, r0))) := by
  have hc := c0_le (V := V) d
  refine go_vis (I := IF a V) (D := DF a) d (fun r s p i => (st_few d p i).1) (fun r s p i => (st_few d p i).2.1) (fun r s p o i => (st_few d p i).2.2 o) (a 0) _ _ _ (Nat.le_refl _) (fun k hk => absurd hk (by omega)) (fun c => ?_) (SU_t d) ⟨Nat.zero_le _, ?_, ?_⟩
  · rw [Nat.sub_self]
    rfl
  · show (if a 2 < c0 a V then c0 a V else a 2) = a 2
    exact if_neg (by omega)
  · by_cases q : c0 a V < a 2
    · refine Or.inr (Or.inl ⟨q, ?_, rfl⟩)
      show (if c0 a V < a 2 then 1000000 else 0) = 1000000
      exact if_pos q
    · refine Or.inr (Or.inr ⟨by omega, ?_, fun k hk => rfl, ?_⟩)
      · show (if c0 a V < a 2 then 1000000 else 0) = 0
        exact if_neg q
      · show (0 : Nat) ≠ 1
        omega
theorem go_pr {a : Nat → Nat} {V : Vt} {x2 : Int32} {f : Nat} {r l : Nat → Nat} {s : CS} {T : TS} : (go a (a 0) (lfP a V x2) f r l (s, T)).1 = go a (a 0) (lfC a V) f r l s ∧ (go a (a 0) (lfP a V x2) f r l (s, T)).2 = go a (a 0) (lfM a V x2) f r l T :=
  ⟨go_map (fun p : PS => p.1) (fun _ _ => rfl) f r l (s, T), go_map (fun p : PS => p.2) (fun _ _ => rfl) f r l (s, T)⟩
