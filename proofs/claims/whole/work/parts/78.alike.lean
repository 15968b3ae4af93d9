/-! ===== the two searches find alike ===== -/
def LPr (a r : Nat → Nat) : Prop := (∀ k, k < a 0 → r k ≤ 9) ∧ zA a g1 r (a 0) = zA a g1 (opn a) (a 0)
theorem fvs_inv {σ : Type} {I : σ → Prop} {h : Nat → σ → σ} : ∀ k v s, (∀ x s, v ≤ x → x < v + k → I s → I (h x s)) → I s → I (fvs h k v s)
  | 0, _, _, _, hs => hs
  | k + 1, v, s, e, hs => by
    rw [fvs_s]
    exact fvs_inv k (v + 1) _ (fun x s x1 x2 => e x s (by omega) (by omega)) (e v s (Nat.le_refl _) (by omega) hs)
theorem go_inv {σ : Type} {I : σ → Prop} {a : Nat → Nat} {lf : (Nat → Nat) → σ → σ} (d : DOK a) (hI : ∀ r s, LPr a r → I s → I (lf r s)) : ∀ f r l s, f ≤ a 0 → (∀ k, k < a 0 - f → r k ≤ 9) → SU a g1 (a 0) f r l = zA a g1 (opn a) (a 0) → I s → I (go a (a 0) lf f r l s) := by
  have d1 := d.1.2.1
  intro f
  induction f with
  | zero =>
    intro r l s _ hr hs i
    exact hI r s ⟨fun k hk => hr k (by omega), hs⟩ i
  | succ f ih =>
    intro r l s hf hr hs i
    have b := d.2.2.1 (a 0 - (f + 1)) (by omega)
    have hr' : ∀ v, v ≤ 9 → ∀ k, k < a 0 - f → updN r (a 0 - (f + 1)) v k ≤ 9 := fun v hv k hk => by
      by_cases q : k = a 0 - (f + 1)
      · rw [q, updN_s]; exact hv
      · rw [updN_n q]; exact hr k (by omega)
    rw [go_s]
    by_cases hw : ls a (a 0 - (f + 1)) = true
    · rw [if_pos hw]
      by_cases z : ctL a (a (12 + 4 * (a 0 - (f + 1)) + 2)) (a 0) f = 0
      · rw [if_pos z]
        split
        · rename_i y
          exact ih _ _ _ (by omega) (hr' _ y) (by rw [SU_l rfl hf hw rfl (by omega) z]; exact hs) i
        · exact i
      · rw [if_neg z]
        refine fvs_inv _ _ _ (fun x s' x1 x2 i' => ?_) i
        have m := m9_le (l (a (12 + 4 * (a 0 - (f + 1)) + 2)))
        refine ih _ _ _ (by omega) (hr' x (by omega)) ?_ i'
        have e := SU_m (r := r) (l := l) (g := g1) rfl hf hw rfl (by omega) z (v := x) (by omega)
        have e := Nat.add_right_cancel (m := x * 1) e
        rw [e]
        exact hs
    · have hwf : ls a (a 0 - (f + 1)) = false := by
        cases q : ls a (a 0 - (f + 1)) with
        | false => rfl
        | true => exact absurd q hw
      rw [if_neg hw]
      exact ih _ _ _ (by omega) (hr' _ b.2.1) (by rw [SU_n rfl hf hwf]; exact hs) i
theorem fvs_vis {σ : Type} {I D : σ → Prop} {h : Nat → σ → σ} {y : Nat} : ∀ k v s, v ≤ y → y < v + k → (∀ x s, v ≤ x → x < v + k → I s → I (h x s)) → (∀ x s, v ≤ x → x < v + k → I s ∧ D s → I (h x s) ∧ D (h x s)) → (∀ s, I s → D (h y s)) → I s → D (fvs h k v s)
  | 0, _, _, h1, h2, _, _, _, _ => absurd h2 (by omega)
  | k + 1, v, s, h1, h2, e, e2, e3, hs => by
    rw [fvs_s]
    by_cases q : v = y
    · exact (fvs_inv (I := fun s => I s ∧ D s) k (v + 1) _ (fun x s x1 x2 => e2 x s (by omega) (by omega)) ⟨e v s (Nat.le_refl _) (by omega) hs, by rw [q]; exact e3 s hs⟩).2
    · exact fvs_vis k (v + 1) _ (by omega) (by omega) (fun x s x1 x2 => e x s (by omega) (by omega)) (fun x s x1 x2 => e2 x s (by omega) (by omega)) e3 (e v s (Nat.le_refl _) (by omega) hs)
theorem l0_ct {a : Nat → Nat} {c N : Nat} : ∀ f, f ≤ N → l0 a c (N - f) ≤ l0 a c N ∧ (ctL a c N f = 0 → l0 a c N = l0 a c (N - f))
  | 0, _ => ⟨Nat.le_refl _, fun _ => rfl⟩
  | f + 1, hf => by
    have ih := l0_ct (a := a) (c := c) (N := N) f (by omega)
    have e : l0 a c (N - f) = l0 a c (N - (f + 1)) + if ls a (N - (f + 1)) = true ∧ a (12 + 4 * (N - (f + 1)) + 2) = c then a (12 + 4 * (N - (f + 1)) + 1) else 0 := by
      rw [show N - f = N - (f + 1) + 1 by omega]
      rfl
    refine ⟨by omega, fun z => ?_⟩
    by_cases q : ls a (N - (f + 1)) = true ∧ a (12 + 4 * (N - (f + 1)) + 2) = c
    · rw [ctL_y q] at z
      omega
    · rw [ctL_n q] at z
      rw [if_neg q] at e
      rw [ih.2 z, e]
      omega
theorem go_vis {σ : Type} {I D : σ → Prop} {a : Nat → Nat} {lf : (Nat → Nat) → σ → σ} (d : DOK a) (hI : ∀ r s, LPr a r → I s → I (lf r s)) (hD : ∀ r s, LPr a r → I s → D s → D (lf r s)) (hV : ∀ r s, LPr a r → (∀ k, k < a 0 → r k = opn a k) → I s → D (lf r s)) : ∀ f r l s, f ≤ a 0 → (∀ k, k < a 0 - f → r k = opn a k) → (∀ c, l c + l0 a c (a 0 - f) = l0 a c (a 0)) → SU a g1 (a 0) f r l = zA a g1 (opn a) (a 0) → I s → D (go a (a 0) lf f r l s) := by
  have d1 := d.1.2.1
  have hID : ∀ r s, LPr a r → I s ∧ D s → I (lf r s) ∧ D (lf r s) := fun r s p q => ⟨hI r s p q.1, hD r s p q.1 q.2⟩
  have op9 : ∀ k, k < a 0 → opn a k ≤ 9 := fun k hk => (d.2.2.1 k hk).2.1
  intro f
  induction f with
  | zero =>
    intro r l s _ hr hl hs i
    exact hV r s ⟨fun k hk => by rw [hr k (by omega)]; exact op9 k hk, hs⟩ (fun k hk => hr k (by omega)) i
  | succ f ih =>
    intro r l s hf hr hl hs i
    have b := d.2.2.1 (a 0 - (f + 1)) (by omega)
    have e : ∀ c, l0 a c (a 0 - f) = l0 a c (a 0 - (f + 1)) + if ls a (a 0 - (f + 1)) = true ∧ a (12 + 4 * (a 0 - (f + 1)) + 2) = c then a (12 + 4 * (a 0 - (f + 1)) + 1) else 0 := fun c => by
      rw [show a 0 - f = a 0 - (f + 1) + 1 by omega]
      rfl
    have hr1 : ∀ v, v ≤ 9 → ∀ k, k < a 0 - f → updN r (a 0 - (f + 1)) v k ≤ 9 := fun v hv k hk => by
      by_cases q : k = a 0 - (f + 1)
      · rw [q, updN_s]; exact hv
      · rw [updN_n q, hr k (by omega)]; exact op9 k (by omega)
    have hr' : ∀ k, k < a 0 - f → updN r (a 0 - (f + 1)) (a (12 + 4 * (a 0 - (f + 1)) + 1)) k = opn a k := fun k hk => by
      by_cases q : k = a 0 - (f + 1)
      · rw [q, updN_s]; rfl
      · rw [updN_n q]; exact hr k (by omega)
    rw [go_s]
    by_cases hw : ls a (a 0 - (f + 1)) = true
    · rw [if_pos hw]
      obtain ⟨c, hc⟩ : ∃ c, a (12 + 4 * (a 0 - (f + 1)) + 2) = c := ⟨_, rfl⟩
      rw [hc]
      have ec := e c
      rw [if_pos ⟨hw, hc⟩] at ec
      have lc := hl c
      have ct := l0_ct (a := a) (c := c) (N := a 0) f (by omega)
      have eo : ∀ x, x ≠ c → l0 a x (a 0 - f) = l0 a x (a 0 - (f + 1)) := fun x hx => by
        rw [e x, if_neg (fun z => hx (by rw [← z.2, hc])), Nat.add_zero]
      by_cases z : ctL a c (a 0) f = 0
      · have lv : l c = a (12 + 4 * (a 0 - (f + 1)) + 1) := by
          have := ct.2 z
          omega
        have su := SU_l (r := r) (l := l) (g := g1) rfl hf hw hc (by omega) z
        rw [if_pos z, lv, if_pos b.2.1]
        rw [lv] at su
        refine ih _ _ _ (by omega) hr' (fun x => ?_) (by rw [su]; exact hs) i
        by_cases q : x = c
        · rw [q, updN_s]; omega
        · rw [updN_n q, eo x q]; exact hl x
      · have m : a (12 + 4 * (a 0 - (f + 1)) + 1) ≤ m9 (l c) := by
          unfold m9
          split <;> omega
        have m2 := m9_le (l c)
        have su : ∀ x, x ≤ m9 (l c) → SU a g1 (a 0) f (updN r (a 0 - (f + 1)) x) (updN l c (l c - x)) = zA a g1 (opn a) (a 0) := fun x hx => by
          have e := SU_m (r := r) (l := l) (g := g1) rfl hf hw hc (by omega) z (v := x) (by omega)
          have e := Nat.add_right_cancel (m := x * 1) e
          rw [e]
          exact hs
        rw [if_neg z]
        refine fvs_vis (I := I) (D := D) (y := a (12 + 4 * (a 0 - (f + 1)) + 1)) _ 0 s (by omega) (by omega) (fun x s' _ x2 i' => go_inv d hI f _ _ _ (by omega) (hr1 x (by omega)) (su x (by omega)) i') (fun x s' _ x2 i' => go_inv (I := fun s => I s ∧ D s) d hID f _ _ _ (by omega) (hr1 x (by omega)) (su x (by omega)) i') (fun s' i' => ih _ _ _ (by omega) hr' (fun x => ?_) (su _ m) i') i
        by_cases q : x = c
        · rw [q, updN_s]; omega
        · rw [updN_n q, eo x q]; exact hl x
    · have hwf : ls a (a 0 - (f + 1)) = false := by
        cases q : ls a (a 0 - (f + 1)) with
        | false => rfl
        | true => exact absurd q hw
      rw [if_neg hw]
      refine ih _ _ _ (by omega) hr' (fun x => ?_) (by rw [SU_n rfl hf hwf]; exact hs) i
      rw [e x, if_neg (fun z => hw z.1), Nat.add_zero]
      exact hl x
theorem zA_op {a r : Nat → Nat} : ∀ w, (∀ k, k < w → r k ≤ opn a k) → zA a g1 r w ≤ zA a g1 (opn a) w ∧ (zA a g1 r w = zA a g1 (opn a) w → ∀ k, k < w → r k = opn a k)
  | 0, _ => ⟨Nat.le_refl _, fun _ k hk => absurd hk (by omega)⟩
  | w + 1, h => by
    have ih := zA_op (a := a) (r := r) w (fun k hk => h k (by omega))
    have hw := h w (by omega)
    have e1 : zA a g1 r (w + 1) = zA a g1 r w + r w * 1 := rfl
    have e2 : zA a g1 (opn a) (w + 1) = zA a g1 (opn a) w + opn a w * 1 := rfl
    rw [e1, e2]
    refine ⟨by omega, fun z k hk => ?_⟩
    by_cases q : k = w
    · rw [q]; omega
    · exact ih.2 (by omega) k (by omega)
theorem pul_z {a r : Nat → Nat} : ∀ w, pul a r w = 0 → ∀ k, k < w → r k ≤ opn a k
  | 0, _, k, hk => absurd hk (by omega)
  | w + 1, h, k, hk => by
    have e : pul a r (w + 1) = pul a r w + (r w - opn a w) := rfl
    rw [e] at h
    by_cases q : k = w
    · rw [q]; omega
    · exact pul_z w (by omega) k (by omega)
/-- a standing without pulls is the one that stands -/
theorem LP_0 {a r : Nat → Nat} (p : LPr a r) (h : pul a r (a 0) = 0) : ∀ k, k < a 0 → r k = opn a k := (zA_op (a 0) (pul_z (a 0) h)).2 p.2
theorem pul_o {a r : Nat → Nat} : ∀ w, (∀ k, k < w → r k = opn a k) → pul a r w = 0
  | 0, _ => rfl
  | w + 1, h => by
    have e : pul a r (w + 1) = pul a r w + (r w - opn a w) := rfl
    rw [e, pul_o w (fun k hk => h k (by omega)), h w (by omega)]
    omega
theorem cnt_o {a r : Nat → Nat} {V : Vt} (h : ∀ k, k < a 0 → r k = opn a k) : cnt a V r = c0 a V := by
  have e : opA a r (a 0) = a := by
    funext k
    unfold opA
    by_cases q : 12 ≤ k ∧ k < 12 + 4 * a 0 ∧ k % 4 = 1
    · rw [if_pos q, h _ (by omega)]
      show a (12 + 4 * ((k - 12) / 4) + 1) = a k
      congr 1
      omega
    · rw [if_neg q]
  unfold cnt c0
  rw [e]
theorem cnt_b {a r : Nat → Nat} {V : Vt} (d : DOK a) : cnt a V r ≤ a 2 := by
  rw [cnt_e (l := fun _ => 0) d]
  exact cnP_b _ _
theorem cI_len {x y : Nat} (hx : x < 1073741824) (hy : y < 1073741824) : cI x ≤ nI y ↔ x ≤ y + 1 := by
  rw [Int32.le_iff_toInt_le, cI_toInt hx, nI_toInt (by omega)]
  omega
theorem ifc {p q : Prop} [Decidable p] [Decidable q] {α : Type} {x y : α} (e : p ↔ q) : (if p then x else y) = if q then x else y := by
  by_cases h : q
  · rw [if_pos h, if_pos (e.mpr h)]
  · rw [if_neg h, if_neg (fun z => h (e.mp z))]
theorem lfM0 {a r : Nat → Nat} {V : Vt} {T : TS} (d : DOK a) (p : LPr a r) (h1 : T.2.1 ≤ 1000) (h2 : T.2.2.1 ≤ 1000) : lfM a V 0 r T = if T.2.1 = 0 ∨ (cnt a V r = T.2.2.1 ∧ pul a r (a 0) + 1 < T.2.1) ∨ T.2.2.1 < cnt a V r then (T.1 + 1, pul a r (a 0) + 1, cnt a V r, r) else (T.1 + 1, T.2) := by
  have d0 := d.1.1
  have d2 := d.1.2.2
  have hc := cnt_b (V := V) (r := r) d
  have hp := pul_le (a := a) (r := r) (a 0) p.1
  unfold lfM lfL bet
  have e : ((((0 : Int32) = 0 ∨ nI (cnt a V r) = nI (a 2)) ∧ (cI T.2.1 < 0 ∨ (((nI (cnt a V r) = nI T.2.2.1 ∨ (0 : Int32) ≠ 0) ∧ ¬ cI T.2.1 ≤ nI (pul a r (a 0))) ∨ ((nI (cnt a V r) ≠ nI T.2.2.1 ∧ (0 : Int32) = 0) ∧ ¬ nI (cnt a V r) ≤ nI T.2.2.1)))) ↔ (T.2.1 = 0 ∨ (cnt a V r = T.2.2.1 ∧ pul a r (a 0) + 1 < T.2.1) ∨ T.2.2.1 < cnt a V r)) := by
    rw [eq_nI (by omega) (by omega), eq_nI (by omega) (by omega), cI_len (by omega) (by omega), show (cI T.2.1 < 0) = (cI T.2.1 < nI 0) from rfl, cI_neg (by omega), show (nI (cnt a V r) ≤ nI T.2.2.1 ↔ cnt a V r ≤ T.2.2.1) from ⟨fun z => by
      by_cases q : cnt a V r ≤ T.2.2.1
      · exact q
      · exact absurd z (nI_ge (by omega) (by omega)), fun z => nI_le z (by omega)⟩]
    constructor
    · rintro ⟨_, z | ⟨⟨z | z, z2⟩⟩ | ⟨z, z2⟩⟩
      · exact Or.inl z
      · exact Or.inr (Or.inl ⟨z, by omega⟩)
      · exact absurd rfl z
      · exact Or.inr (Or.inr (by omega))
    · rintro (z | z | z)
      · exact ⟨Or.inl rfl, Or.inl z⟩
      · exact ⟨Or.inl rfl, Or.inr (Or.inl ⟨Or.inl z.1, by omega⟩)⟩
      · exact ⟨Or.inl rfl, Or.inr (Or.inr ⟨⟨fun h => by have := (eq_nI (by omega) (by omega)).mp h; omega, rfl⟩, by omega⟩)⟩
  exact ifc e
theorem lfM1 {a r : Nat → Nat} {V : Vt} {T : TS} (d : DOK a) (p : LPr a r) (h1 : T.2.1 ≤ 1000) : lfM a V 1 r T = if cnt a V r = a 2 ∧ (T.2.1 = 0 ∨ pul a r (a 0) + 1 < T.2.1) then (T.1 + 1, pul a r (a 0) + 1, cnt a V r, r) else (T.1 + 1, T.2) := by
  have d0 := d.1.1
  have d2 := d.1.2.2
  have hc := cnt_b (V := V) (r := r) d
  have hp := pul_le (a := a) (r := r) (a 0) p.1
  unfold lfM lfL bet
  have e : ((((1 : Int32) = 0 ∨ nI (cnt a V r) = nI (a 2)) ∧ (cI T.2.1 < 0 ∨ (((nI (cnt a V r) = nI T.2.2.1 ∨ (1 : Int32) ≠ 0) ∧ ¬ cI T.2.1 ≤ nI (pul a r (a 0))) ∨ ((nI (cnt a V r) ≠ nI T.2.2.1 ∧ (1 : Int32) = 0) ∧ ¬ nI (cnt a V r) ≤ nI T.2.2.1)))) ↔ (cnt a V r = a 2 ∧ (T.2.1 = 0 ∨ pul a r (a 0) + 1 < T.2.1))) := by
    rw [eq_nI (a := cnt a V r) (b := a 2) (by omega) (by omega), cI_len (by omega) (by omega), show (cI T.2.1 < 0) = (cI T.2.1 < nI 0) from rfl, cI_neg (by omega)]
    constructor
    · rintro ⟨z1 | z1, z | ⟨⟨z, z2⟩⟩ | ⟨z, z2⟩⟩
      · exact absurd z1 (by decide)
      · exact absurd z1 (by decide)
      · exact absurd z1 (by decide)
      · exact ⟨z1, Or.inl z⟩
      · exact ⟨z1, Or.inr (by omega)⟩
      · exact absurd z.2 (by decide)
    · rintro ⟨z1, z | z⟩
      · exact ⟨Or.inr z1, Or.inl z⟩
      · exact ⟨Or.inr z1, Or.inr (Or.inl ⟨Or.inr (by decide), by omega⟩)⟩
  exact ifc e
