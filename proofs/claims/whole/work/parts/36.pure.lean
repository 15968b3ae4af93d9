/-- what a copy of a house has, ahead of its kinds -/
def Cp1 (g r : Nat) (M M' : Mem) : Prop := (∀ k, (k < g ∨ g + 12 < k) → M' k = M k) ∧ (M' g 0 = M r 0 ∧ M' g 1 = M r 1 ∧ M' g 2 = M r 2) ∧ (∀ i, i < 8 → M' (g + 1) i = M (r + 1) i ∧ M' (g + 2) i = M (r + 2) i ∧ M' (g + 3) i = M (r + 3) i ∧ M' (g + 4) i = M (r + 4) i) ∧ ∀ i, i < 6 → M' (g + 6) i = M (r + 6) i ∧ M' (g + 7) i = M (r + 7) i
theorem Cp1.st {g r : Nat} {M M' M'' : Mem} (h : Cp1 g r M M') (hk : ∀ k, k ≠ g + 5 → M'' k = M' k) : Cp1 g r M M'' := by
  unfold Cp1
  rw [hk g (by omega), hk (g + 1) (by omega), hk (g + 2) (by omega), hk (g + 3) (by omega), hk (g + 4) (by omega), hk (g + 6) (by omega), hk (g + 7) (by omega)]
  exact ⟨fun k k1 => by rw [hk k (by omega)]; exact h.1 k k1, h.2⟩
set_option maxHeartbeats 4000000 in
theorem c_copy1 {K g r : Nat} {M : Mem} {Q : Mem → Prop} (hgr : r + 12 < g ∨ g + 12 < r) (hQ : ∀ M' : Mem, Cp1 g r M M' → B_X2_copyFrom_116 K g r Q 0 M') : P_X2_copyFrom K M g r Q := by
  unfold P_X2_copyFrom
  have z : (0 : Int32).toNatClampNeg = 0 := rfl
  have z8 : (8 : Int32).toNatClampNeg = 8 := rfl
  have z6 : (6 : Int32).toNatClampNeg = 6 := rfl
  rw [z, z8, z6]
  rintro _ rfl _ rfl _ rfl _ rfl _ rfl _ rfl
  refine ⟨by decide, by decide, by decide, by decide, by decide, ?_⟩
  rintro _ rfl
  refine ⟨by decide, by decide, by decide, by decide, by decide, ?_⟩
  rintro _ rfl
  refine ⟨by decide, by decide, by decide, by decide, by decide, ?_⟩
  rintro _ rfl
  refine ⟨by decide, by decide, by decide, by decide, by decide, ?_⟩
  rintro _ rfl
  refine ⟨by decide, by decide, by decide, by decide, by decide, ?_⟩
  rintro _ rfl
  refine ⟨by decide, by decide, by decide, by decide, by decide, ?_⟩
  rintro _ rfl
  refine hQ _ ⟨fun k hk => ?_, ⟨?_, ?_, ?_⟩, fun i hi => ⟨?_, ?_, ?_, ?_⟩, fun i hi => ⟨?_, ?_⟩⟩
  all_goals simp (disch := omega) only [sf_ne, sf_at, mu_at, cpy_at, if_pos, if_neg, if_true, if_false, ite_true]
