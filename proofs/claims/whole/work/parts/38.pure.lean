/-! ===== the model's way to try: keepAside, putBack ===== -/
theorem m_keepAside {M : Mem} {a : Nat → Nat} {Q : Mem → Prop} (h : MR M a) (hQ : ∀ M' : Mem, (∀ k, k ≠ 3 → M' k = M k) → (∀ i, i < 90 → M' 3 i = nI (a i)) → Q M') : P_X12_keepAside M Q := by
  unfold P_X12_keepAside B_X12_keepAside_2
  intro X hX
  have key : ∀ f i (M1 : Mem), i + f = 90 → (∀ k, k ≠ 3 → M1 k = M k) → (∀ j, j < i → M1 3 j = nI (a j)) → X (nI i) M1 := by
    intro f
    induction f with
    | zero =>
      intro i M1 hi hk hj
      obtain rfl : i = 90 := by omega
      apply hX
      exact br_t (nI_le (a := 90) (b := 90) (by omega) (by omega)) (hQ M1 hk hj)
    | succ f ih =>
      intro i M1 hi hk hj
      apply hX
      refine br_f (nI_ge (b := 90) (by omega) (by omega)) ⟨vp_in_nI (by omega) (by omega), vp_in_nI (by omega) (by omega), ?_⟩
      rw [cl_nI (by omega), hk 1 (by omega), h i (by omega)]
      rintro _ rfl _ rfl
      rw [nI_1]
      refine ih (i + 1) _ (by omega) (fun k k3 => by rw [sf_ne k3]; exact hk k k3) (fun j hj2 => ?_)
      rw [sf_at, if_pos rfl]
      by_cases q : j = i
      · rw [if_pos q, q]
      · rw [if_neg q]
        exact hj j (by omega)
  exact key 90 0 M (by omega) (fun _ _ => rfl) (fun j hj => absurd hj (by omega))
theorem m_putBack {M : Mem} {a b : Nat → Nat} {Q : Mem → Prop} (hb : MR M b) (h3 : ∀ i, i < 90 → M 3 i = nI (a i)) (hab : ∀ k, 90 ≤ k → b k = a k) (hQ : ∀ M' : Mem, (∀ k, k ≠ 1 → M' k = M k) → MR M' a → Q M') : P_X12_putBack M Q := by
  unfold P_X12_putBack B_X12_putBack_2
  intro X hX
  have key : ∀ f i (M1 : Mem), i + f = 90 → (∀ k, k ≠ 1 → M1 k = M k) → (∀ j, j < i → M1 1 j = nI (a j)) → (∀ j, i ≤ j → M1 1 j = M 1 j) → X (nI i) M1 := by
    intro f
    induction f with
    | zero =>
      intro i M1 hi hk hj hj2
      obtain rfl : i = 90 := by omega
      apply hX
      refine br_t (nI_le (a := 90) (b := 90) (by omega) (by omega)) (hQ M1 hk (fun k hk2 => ?_))
      by_cases q : k < 90
      · exact hj k q
      · rw [hj2 k (by omega), hb k hk2, hab k (by omega)]
    | succ f ih =>
      intro i M1 hi hk hj hj2
      apply hX
      refine br_f (nI_ge (b := 90) (by omega) (by omega)) ⟨vp_in_nI (by omega) (by omega), vp_in_nI (by omega) (by omega), ?_⟩
      rw [cl_nI (by omega), hk 3 (by omega), h3 i (by omega)]
      rintro _ rfl _ rfl
      rw [nI_1]
      refine ih (i + 1) _ (by omega) (fun k k1 => by rw [sf_ne k1]; exact hk k k1) (fun j hj3 => ?_) (fun j hj3 => ?_)
      · rw [sf_at, if_pos rfl]
        by_cases q : j = i
        · rw [if_pos q, q]
        · rw [if_neg q]
          exact hj j (by omega)
      · rw [sf_at, if_pos rfl, if_neg (by omega)]
        exact hj2 j (by omega)
  exact key 90 0 M (by omega) (fun _ _ => rfl) (fun j hj => absurd hj (by omega)) (fun _ _ => rfl)
