/-! ===== a house copied ===== -/
def KD (g : Nat) (M : Mem) : Prop := ∀ l, l < 6 → isKd_X3 (M (g + 5) l)
theorem mu_at (M : Mem) (k : Nat) (f : Nat → Int32) (k' : Nat) : mu M k f k' = if k' = k then f else M k' := rfl
theorem cpy_at {α : Type} (f g : Nat → α) (n k : Nat) : va_cpy f g 0 0 n k = if k < n then f k else g k := by
  unfold va_cpy
  by_cases h : k < n
  · rw [if_pos h, if_pos ⟨Nat.zero_le _, by omega⟩, Nat.sub_zero, Nat.zero_add]
  · rw [if_neg h, if_neg (fun c => h (by omega))]
theorem c_rowCopy {K g r n : Nat} {M : Mem} {Q : Mem → Prop} (hg : rLen g = n) (hr : rLen r = n) (hn : n < 2147483648) (hgr : r ≠ g + 1) (hQ : ∀ M' : Mem, (∀ k, k ≠ g → k ≠ g + 1 → M' k = M k) → (∀ i, i < n → M' (g + 1) i = M (r + 1) i) → M' g 1 = M r 1 → Q M') : P_X4_copyFrom K M g r Q := by
  unfold P_X4_copyFrom
  rw [hg, hr]
  rintro _ rfl
  have e : (if Int32.ofNat n < Int32.ofNat n then Int32.ofNat n else Int32.ofNat n) = nI n := by
    split <;> rfl
  rw [e]
  have z : (0 : Int32).toNatClampNeg = 0 := rfl
  rw [z, cl_nI hn]
  refine ⟨by decide, by decide, nI_pos hn, by omega, by omega, ?_⟩
  rintro _ rfl _ rfl _ rfl
  refine hQ _ (fun k k0 k1 => by rw [sf_ne k0, mu_at, if_neg k1]) (fun i hi => ?_) ?_
  · rw [sf_ne (by omega), mu_at, if_pos rfl, cpy_at, if_pos hi]
  · rw [sf_at, if_pos rfl, if_pos rfl, mu_at, if_neg hgr]
