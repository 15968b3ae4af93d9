theorem setP_bit (f : Nat → Bool) : ∀ n w, w < n → setP f n / 2 ^ w % 2 = if f w = true then 1 else 0
  | 0, w, h => absurd h (by omega)
  | n + 1, w, h => by
    have hs := setP_lt f n
    have e : setP f (n + 1) = setP f n + if f n = true then 2 ^ n else 0 := rfl
    rw [e]
    by_cases q : w = n
    · subst q
      have hp : 0 < 2 ^ w := Nat.two_pow_pos w
      split
      · rw [Nat.add_div_right _ hp, Nat.div_eq_of_lt hs]
      · rw [Nat.add_zero, Nat.div_eq_of_lt hs]
    · have ih := setP_bit f n w (by omega)
      split
      · have e2 : 2 ^ n = 2 ^ w * (2 * 2 ^ (n - w - 1)) := by
          rw [← Nat.pow_succ', ← Nat.pow_add]
          congr 1
          omega
        rw [e2, Nat.add_mul_div_left _ _ (Nat.two_pow_pos w), Nat.add_mul_mod_self_left]
        exact ih
      · exact ih
