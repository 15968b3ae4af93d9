theorem setP_bit (f : Nat → Bool) : ∀ n w, w < n → setP f n / 2 ^ w % 2 = if f w = true then 1 else 0
  | 0, w, h => absurd h (by omega)
  | n + 1, w, h => by
    have hs := setP_lt f n
    have e : setP f (n + 1) = setP f n + if f n = true then 2 ^ n else 0 := rfl
    rw [e]
    by_cases q : w = n
    · subst q
      have hp : 0 < 2 ^ w := Nat.two_pow_pos w
      split
      · rw [Nat.add_div_right _ hp, Nat.div_eq_of_lt hs]
      · rw [Nat.add_zero, Nat.div_eq_of_lt hs]
    · have ih := setP_bit f n w (by omega)
      split
      · have e2 : 2 ^ n = 2 ^ w * (2 * 2 ^ (n - w - 1)) := by
          rw [← Nat.pow_succ', ← Nat.pow_add]
          congr 1
          omega
        rw [e2, Nat.add_mul_div_left _ _ (Nat.two_pow_pos w), Nat.add_mul_mod_self_left]
        exact ih
      · exact ih
def opP (a : Nat → Nat) (p : Nat → Bool) : Nat → Nat
  | 0 => 0
  | w + 1 => opP a p w + if p w = true then a (12 + 4 * w + 1) else 0
theorem c_openOf {K g : Nat} {M : Mem} {a : Nat → Nat} {p : Nat → Bool} {Q : Int32 → Prop} (h : HR g M a) (d : DOK a) (hQ : Q (nI (opP a p (a 0)))) : P_X2_openOf K M g (nI (setP p (a 0))) Q := by
  unfold P_X2_openOf B_X2_openOf_4
  intro X hX
  have d0 := d.1.1
  have hp := setP_lt p (a 0)
  have hp2 := Nat.pow_le_pow_right (n := 2) (by omega) d0
  have key : ∀ f w, w + f = a 0 → X (nI (opP a p w)) (nI w) := by
    intro f
    induction f with
    | zero =>
      intro w hw
      obtain rfl : w = a 0 := by omega
      apply hX
      rw [h.1.1]
      exact br_t (nI_le (Nat.le_refl _) (by omega)) hQ
    | succ f ih =>
      intro w hw
      have e := h.2.2.1 w (by omega)
      have n := ih (w + 1) (by omega)
      have es : opP a p (w + 1) = opP a p w + if p w = true then a (12 + 4 * w + 1) else 0 := rfl
      rw [es] at n
      apply hX
      rw [h.1.1]
      refine br_f (nI_ge (by omega) (by omega)) ?_
      rw [pk_shrN (by omega) _ w (sh31 w (by omega)), pk_andN (Nat.lt_of_le_of_lt (Nat.div_le_self _ _) (by omega)) (m := 1) 1 (by decide), Nat.pow_one, setP_bit p (a 0) w (by omega)]
      refine ⟨fun q => ?_, fun q => ⟨vp_in_nI (by omega) (by omega), ?_⟩⟩
      · have hpw : ¬ p w = true := fun z => by rw [if_pos z] at q; exact absurd q (by decide)
        rw [if_neg hpw, Nat.add_zero] at n
        rintro _ rfl
        rw [nI_1]
        exact n
      · have hpw : p w = true := by
          by_cases z : p w = true
          · exact z
          · rw [if_neg z] at q; exact absurd rfl q
        rw [if_pos hpw] at n
        rw [cl_nI (by omega), e.2.1]
        rintro _ rfl _ rfl
        rw [nI_1, nI_add]
        exact n
  exact key (a 0) 0 (by omega)
