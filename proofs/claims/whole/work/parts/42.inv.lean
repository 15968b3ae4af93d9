/-! ===== numbers decided ===== -/
theorem lt_t {a b : Nat} (h : a < b) (hb : b < 2147483648) : (nI a < nI b) = True := eq_true (nI_lt h hb)
theorem lt_f {a b : Nat} (h : b ≤ a) (ha : a < 2147483648) : (nI a < nI b) = False := eq_false (nI_nlt h ha)
theorem le_t {a b : Nat} (h : a ≤ b) (hb : b < 2147483648) : (nI a ≤ nI b) = True := eq_true (nI_le h hb)
theorem le_f {a b : Nat} (h : b < a) (ha : a < 2147483648) : (nI a ≤ nI b) = False := eq_false (nI_ge h ha)
theorem eq_t {a b : Nat} (h : a = b) : (nI a = nI b) = True := eq_true (by rw [h])
theorem eq_f {a b : Nat} (h : a ≠ b) (ha : a < 2147483648) (hb : b < 2147483648) : (nI a = nI b) = False := eq_false (fun q => h ((eq_nI ha hb).mp q))
theorem xl_t {x : Int32} {b : Nat} (h : x.toInt < (b : Int)) (hb : b < 2147483648) : (x < nI b) = True := eq_true (by rw [Int32.lt_iff_toInt_lt, nI_toInt hb]; exact h)
theorem xl_f {x : Int32} {b : Nat} (h : (b : Int) ≤ x.toInt) (hb : b < 2147483648) : (x < nI b) = False := eq_false (by rw [Int32.lt_iff_toInt_lt, nI_toInt hb]; omega)
theorem xg_t {x : Int32} {b : Nat} (h : (b : Int) < x.toInt) (hb : b < 2147483648) : (nI b < x) = True := eq_true (by rw [Int32.lt_iff_toInt_lt, nI_toInt hb]; exact h)
theorem xg_f {x : Int32} {b : Nat} (h : x.toInt ≤ (b : Int)) (hb : b < 2147483648) : (nI b < x) = False := eq_false (by rw [Int32.lt_iff_toInt_lt, nI_toInt hb]; omega)
theorem xle_t {x : Int32} {b : Nat} (h : x.toInt ≤ (b : Int)) (hb : b < 2147483648) : (x ≤ nI b) = True := eq_true (by rw [Int32.le_iff_toInt_le, nI_toInt hb]; exact h)
theorem xle_f {x : Int32} {b : Nat} (h : (b : Int) < x.toInt) (hb : b < 2147483648) : (x ≤ nI b) = False := eq_false (by rw [Int32.le_iff_toInt_le, nI_toInt hb]; omega)
theorem xge_t {x : Int32} {b : Nat} (h : (b : Int) ≤ x.toInt) (hb : b < 2147483648) : (nI b ≤ x) = True := eq_true (by rw [Int32.le_iff_toInt_le, nI_toInt hb]; exact h)
theorem xge_f {x : Int32} {b : Nat} (h : x.toInt < (b : Int)) (hb : b < 2147483648) : (nI b ≤ x) = False := eq_false (by rw [Int32.le_iff_toInt_le, nI_toInt hb]; omega)
theorem xe_f {x : Int32} {b : Nat} (h : x.toInt ≠ (b : Int)) (hb : b < 2147483648) : (x = nI b) = False := eq_false (fun q => h (by rw [q, nI_toInt hb]))
theorem ci_e (n : Nat) : nI n - nI 1 = cI n := rfl
theorem ci_t {n r : Nat} (h : n ≤ r) (hr : r < 1073741824) : (cI n < nI r) = True := eq_true (by rw [Int32.lt_iff_toInt_lt, cI_toInt (by omega), nI_toInt (by omega)]; omega)
theorem ci_f {n r : Nat} (h : r < n) (hn : n < 1073741824) : (cI n < nI r) = False := eq_false (by rw [Int32.lt_iff_toInt_lt, cI_toInt (by omega), nI_toInt (by omega)]; omega)
theorem cx_t {n : Nat} {x : Int32} (h : (n : Int) ≤ x.toInt) (hn : n < 1073741824) : (cI n < x) = True := eq_true (by rw [Int32.lt_iff_toInt_lt, cI_toInt (by omega)]; omega)
theorem cx_f {n : Nat} {x : Int32} (h : x.toInt < (n : Int)) (hn : n < 1073741824) : (cI n < x) = False := eq_false (by rw [Int32.lt_iff_toInt_lt, cI_toInt (by omega)]; omega)
theorem cn_t {n : Nat} (h : n = 0) : (cI n < nI 0) = True := eq_true (by rw [h]; decide)
theorem cn_f {n : Nat} (h : 0 < n) (hn : n < 1073741824) : (cI n < nI 0) = False := eq_false (by rw [cI_neg hn]; omega)
theorem cp_t {n : Nat} (h : 0 < n) (hn : n < 1073741824) : (nI 0 ≤ cI n) = True := eq_true (by rw [cI_nn hn]; omega)
theorem cp_f {n : Nat} (h : n = 0) : (nI 0 ≤ cI n) = False := eq_false (by rw [h]; decide)
theorem vi_t {k n : Nat} (h : k < n) (hk : k < 2147483648) : vp_in (nI k) n = True := eq_true ((in_nI hk).mpr h)
theorem l_0 : (0 : Int64) = (nI 0).toInt64 := by decide
theorem l_1 : (1 : Int64) = (nI 1).toInt64 := by decide
theorem l_2 : (2 : Int64) = (nI 2).toInt64 := by decide
theorem l_3 : (3 : Int64) = (nI 3).toInt64 := by decide
theorem l_5 : (5 : Int64) = (nI 5).toInt64 := by decide
theorem l_6 : (6 : Int64) = (nI 6).toInt64 := by decide
theorem l_8 : (8 : Int64) = (nI 8).toInt64 := by decide
theorem l_9 : (9 : Int64) = (nI 9).toInt64 := by decide
theorem l_23 : (23 : Int64) = (nI 23).toInt64 := by decide
theorem l_24 : (24 : Int64) = (nI 24).toInt64 := by decide
theorem l_48 : (48 : Int64) = (nI 48).toInt64 := by decide
theorem l_57 : (57 : Int64) = (nI 57).toInt64 := by decide
theorem l_69 : (69 : Int64) = (nI 69).toInt64 := by decide
theorem l_100 : (100 : Int64) = (nI 100).toInt64 := by decide
theorem in_e {x lo hi : Int32} {Q : Int32 → Prop} : P_X12_in x.toInt64 lo.toInt64 hi.toInt64 Q = ((x < lo → Q 0) ∧ (¬ x < lo → ((hi < x → Q 0) ∧ (¬ hi < x → Q 1)))) := by
  unfold P_X12_in
  rw [lg_cmp_lt, lg_cmp_gt, w_lt, w_lt]
theorem rng (x : Int32) (n : Nat) (hn : n < 2147483648) : (∃ r, r ≤ n ∧ x = nI r) ∨ x.toInt < 0 ∨ (n : Int) < x.toInt := by
  by_cases h : x < 0
  · rw [Int32.lt_iff_toInt_lt] at h
    exact Or.inr (Or.inl h)
  · obtain ⟨j, hj, rfl⟩ := nI_of h
    rw [nI_toInt hj]
    by_cases q : j ≤ n
    · exact Or.inl ⟨j, q, rfl⟩
    · exact Or.inr (Or.inr (by omega))
theorem rngl (x : Int32) (n : Nat) (hn : n < 2147483648) : (∃ r, r < n ∧ x = nI r) ∨ x.toInt < 0 ∨ (n : Int) ≤ x.toInt := by
  rcases rng x n hn with ⟨r, hr, rfl⟩ | q | q
  · by_cases e : r = n
    · subst e
      rw [nI_toInt (by omega)]
      exact Or.inr (Or.inr (by omega))
    · exact Or.inl ⟨r, by omega, rfl⟩
  · exact Or.inr (Or.inl q)
  · exact Or.inr (Or.inr (by omega))
theorem updN_e {a : Nat → Nat} {k j v : Nat} (h : j = k) : updN a k v j = v := if_pos h
theorem sf_e {M : Mem} {k j k' j' : Nat} {v : Int32} (h : k' = k) (h2 : j' = j) : sf M k j v k' j' = v := by
  rw [sf_at, if_pos h, if_pos h2]
theorem sf_j {M : Mem} {k j k' j' : Nat} {v : Int32} (h2 : j' ≠ j) : sf M k j v k' j' = M k' j' := by
  rw [sf_at, if_neg h2]
  split <;> rfl
theorem c_er {K k : Nat} {M : Mem} {Q : Int32 → Mem → Prop} (hk : k < 6) : P_X11_error K M (nI k) Q = Q (-nI 1000000000 - nI k) (sf M 4 k (M 4 k + nI 1)) := by
  unfold P_X11_error
  simp (disch := omega) only [vi_t, cl_nI, true_and, forall_eq]
  rfl
theorem m_er {k : Nat} {M : Mem} {Q : Int32 → Mem → Prop} (hk : k < 6) : P_X12_finds M (nI k) Q = Q (-nI 1000000000 - nI k) (sf M 4 k (M 4 k + nI 1)) := by
  unfold P_X12_finds
  simp (disch := omega) only [vi_t, cl_nI, true_and, forall_eq]
  rfl
/-! ===== what holds between two calls ===== -/
def R43 (K : Nat) (M : Mem) : Prop := (∀ j, j < 6 → (M 48 j).toNatClampNeg < 69 + K) ∧ ∀ j, j < 2 → (M 55 j).toNatClampNeg < 69 + K
def R56 (K : Nat) (M : Mem) : Prop := (∀ j, j < 6 → (M 61 j).toNatClampNeg < 69 + K) ∧ ∀ j, j < 2 → (M 68 j).toNatClampNeg < 69 + K
theorem R43.keep {K : Nat} {M M' : Mem} (h : R43 K M) (e1 : M' 48 = M 48) (e2 : M' 55 = M 55) : R43 K M' := by
  unfold R43
  rw [e1, e2]
  exact h
theorem R56.keep {K : Nat} {M M' : Mem} (h : R56 K M) (e1 : M' 61 = M 61) (e2 : M' 68 = M 68) : R56 K M' := by
  unfold R56
  rw [e1, e2]
  exact h
def FC (K : Nat) (M M' : Mem) : Prop := (∀ k, (k < 2 ∨ (3 ≤ k ∧ k < 7) ∨ (22 ≤ k ∧ k < 30) ∨ 56 ≤ k) → (∀ j, k ≠ 71 + 3 * j) → M' k = M k) ∧ (R43 K M → R43 K M')
theorem FC.rf {K : Nat} {M : Mem} : FC K M M := ⟨fun _ _ _ => rfl, fun h => h⟩
theorem FC.tr {K : Nat} {M M' M'' : Mem} (h : FC K M M') (h' : FC K M' M'') : FC K M M'' := ⟨fun k h1 h2 => (h'.1 k h1 h2).trans (h.1 k h1 h2), fun q => h'.2 (h.2 q)⟩
theorem Cs.fc {K : Nat} {M M' : Mem} (h : Cs M M') : FC K M M' := ⟨fun k h1 h2 => h k (by omega) h2, fun r => r.keep (h _ (by omega) (fun j => by omega)) (h _ (by omega) (fun j => by omega))⟩
theorem Ch.fc {K : Nat} {M M' : Mem} (h : Ch 30 M M') : FC K M M' := ⟨fun k h1 h2 => h k (by omega) (by omega) (by omega) h2, fun r => r.keep (h _ (by omega) (by omega) (by omega) (fun j => by omega)) (h _ (by omega) (by omega) (by omega) (fun j => by omega))⟩
theorem FC.of {K : Nat} {M M' : Mem} (h : ∀ k, (k < 7 ∨ 22 ≤ k) → (k < 30 ∨ 43 ≤ k) → M' k = M k) : FC K M M' := ⟨fun k h1 _ => h k (by omega) (by omega), fun r => r.keep (h _ (by omega) (by omega)) (h _ (by omega) (by omega))⟩
def FMo (M M' : Mem) : Prop := (∀ k, (k = 2 ∨ k = 4 ∨ (11 ≤ k ∧ k < 15)) → M' k = M k) ∧ M' 0 3 = M 0 3 ∧ M' 0 23 = M 0 23
theorem FMo.rf {M : Mem} : FMo M M := ⟨fun _ _ => rfl, rfl, rfl⟩
theorem FMo.tr {M M' M'' : Mem} (h : FMo M M') (h' : FMo M' M'') : FMo M M'' := ⟨fun k h1 => (h'.1 k h1).trans (h.1 k h1), h'.2.1.trans h.2.1, h'.2.2.trans h.2.2⟩
theorem Ms.fm {M M' : Mem} (h : Ms M M') : FMo M M' := ⟨fun k h1 => h.1 k (by omega) (by omega), h.2 3 (by omega), h.2 23 (by omega)⟩
theorem Mg.fm {M M' : Mem} (h : Mg M M') : FMo M M' := ⟨fun k h1 => h.1 k (by omega) (by omega) (by omega), h.2 3 (by omega), h.2 23 (by omega)⟩
theorem FMo.of {M M' : Mem} (h : ∀ k, k ≠ 1 → M' k = M k) : FMo M M' := ⟨fun k h1 => h k (by omega), by rw [h 0 (by omega)], by rw [h 0 (by omega)]⟩
def HB (K t : Nat) (F : Ft) (g : Nat) (M : Mem) (a : Nat → Nat) (V : Vt) : Prop := HR g M a ∧ TR g K t F M a V ∧ KD g M
def Iv0 (K t : Nat) (F : Ft) (Mc Mm : Mem) (a : Nat → Nat) (V : Vt) : Prop := HB K t F 30 Mc a V ∧ MR Mm a ∧ DOK a ∧ VOK a V
def Iv1 (K t : Nat) (F : Ft) (Mc Mm : Mem) (b : Nat → Nat) (W : Vt) (im : Nat) : Prop := R43 K Mc ∧ ((im = 0 ∧ R56 K Mc) ∨ (HB K t F 56 Mc b W ∧ (∀ k, k < 264 → Mm 2 k = nI (b k)) ∧ DOK b ∧ VOK b W))
def Sh (Mc Mm : Mem) (s : Nat) : Prop := ∃ L B : Nat, L ≤ 40 ∧ (B = 0 ∨ B = 8 ∨ B = 16 ∨ B = 32) ∧ Mc (22 + 2 * s) 1 = nI L ∧ Mm 13 s = nI L ∧ Mc (22 + 2 * s) 2 = nI B ∧ Mm 12 s = nI B ∧ ∀ i, i < 40 → ∀ o, o ≤ 9 → (Mc (22 + 2 * s + 1) i = nI o ↔ Mm 14 (40 * s + i) = nI o)
def Tc (Mc Mm : Mem) : Prop := ∃ T : Nat, T ≤ 40 ∧ Mc 5 1 = nI T ∧ Mm 0 23 = nI T ∧ ∀ i, i < T → Mc 6 i = Mm 11 i
def Iv2 (Mc Mm : Mem) (t im : Nat) : Prop := Mc 0 9 = nI im ∧ Mm 0 3 = nI im ∧ Mc 0 10 = nI t ∧ (∀ k, k < 6 → Mc 4 k = Mm 4 k) ∧ Tc Mc Mm ∧ ∀ s, s < 4 → Sh Mc Mm s
def Ivb (n K t im : Nat) : Prop := n ≤ 512 ∧ t ≤ n ∧ K ≤ 3 * n ∧ K % 3 = 0 ∧ im ≤ n
def Inv (n K : Nat) (Mc Mm : Mem) : Prop := ∃ (a b : Nat → Nat) (V W : Vt) (F : Ft) (t im : Nat), Ivb n K t im ∧ MOK t F Mc ∧ Iv0 K t F Mc Mm a V ∧ Iv1 K t F Mc Mm b W im ∧ Iv2 Mc Mm t im
theorem HB.keep {K t g : Nat} {F : Ft} {M M' : Mem} {a : Nat → Nat} {V : Vt} (h : HB K t F g M a V) (hk : ∀ k, g ≤ k → k ≤ g + 12 → M' k = M k) (ht : ∀ k, 69 ≤ k → (∀ j, k ≠ 71 + 3 * j) → M' k = M k) : HB K t F g M' a V :=
  ⟨h.1.keep (fun k h1 h2 => hk k h1 (by omega)), h.2.1.keep (hk _ (by omega) (by omega)) ht, fun l hl => by rw [hk (g + 5) (by omega) (by omega)]; exact h.2.2 l hl⟩
theorem Iv1.keep {K t im : Nat} {F : Ft} {Mc Mm Mc' Mm' : Mem} {b : Nat → Nat} {W : Vt} (h : Iv1 K t F Mc Mm b W im) (fc : FC K Mc Mc') (e2 : Mm' 2 = Mm 2) : Iv1 K t F Mc' Mm' b W im := by
  refine ⟨fc.2 h.1, ?_⟩
  rcases h.2 with ⟨h, r⟩ | ⟨h1, h2, h3, h4⟩
  · exact Or.inl ⟨h, r.keep (fc.1 _ (by omega) (fun j => by omega)) (fc.1 _ (by omega) (fun j => by omega))⟩
  · exact Or.inr ⟨h1.keep (fun k k1 k2 => fc.1 k (by omega) (fun j => by omega)) (fun k k1 k2 => fc.1 k (by omega) k2), fun k hk => by rw [e2]; exact h2 k hk, h3, h4⟩
theorem Sh.keep {Mc Mm Mc' Mm' : Mem} {s : Nat} (h : Sh Mc Mm s) (e0 : Mc' (22 + 2 * s) = Mc (22 + 2 * s)) (e1 : Mc' (22 + 2 * s + 1) = Mc (22 + 2 * s + 1)) (f12 : Mm' 12 = Mm 12) (f13 : Mm' 13 = Mm 13) (f14 : Mm' 14 = Mm 14) : Sh Mc' Mm' s := by
  unfold Sh
  rw [e0, e1, f12, f13, f14]
  exact h
theorem Iv2.keep {K t im : Nat} {Mc Mm Mc' Mm' : Mem} (h : Iv2 Mc Mm t im) (fc : FC K Mc Mc') (fm : FMo Mm Mm') : Iv2 Mc' Mm' t im := by
  obtain ⟨h1, h2, h3, h4, h5, h6⟩ := h
  have c0 : Mc' 0 = Mc 0 := fc.1 0 (by omega) (fun j => by omega)
  have c4 : Mc' 4 = Mc 4 := fc.1 4 (by omega) (fun j => by omega)
  have c5 : Mc' 5 = Mc 5 := fc.1 5 (by omega) (fun j => by omega)
  have c6 : Mc' 6 = Mc 6 := fc.1 6 (by omega) (fun j => by omega)
  refine ⟨by rw [c0]; exact h1, by rw [fm.2.1]; exact h2, by rw [c0]; exact h3, fun k hk => by rw [c4, fm.1 4 (by omega)]; exact h4 k hk, ?_, fun s hs => (h6 s hs).keep (fc.1 _ (by omega) (fun j => by omega)) (fc.1 _ (by omega) (fun j => by omega)) (fm.1 12 (by omega)) (fm.1 13 (by omega)) (fm.1 14 (by omega))⟩
  unfold Tc
  rw [c5, c6, fm.2.2, fm.1 11 (by omega)]
  exact h5
theorem Ivb.up {n K t im : Nat} (h : Ivb n K t im) (hn : n < 512) : Ivb (n + 1) K t im := ⟨by omega, by have := h.2.1; omega, by have := h.2.2.1; omega, h.2.2.2.1, by have := h.2.2.2.2; omega⟩
theorem Inv.go {n K t im : Nat} {F : Ft} {Mc Mm Mc' Mm' : Mem} {a' b : Nat → Nat} {V' W : Vt} (hn : n < 512) (hb : Ivb n K t im) (i1 : Iv1 K t F Mc Mm b W im) (i2 : Iv2 Mc Mm t im) (fc : FC K Mc Mc') (fm : FMo Mm Mm') (mo : MOK t F Mc') (hs : Iv0 K t F Mc' Mm' a' V') : Inv (n + 1) K Mc' Mm' :=
  ⟨a', b, V', W, F, t, im, hb.up hn, mo, hs, i1.keep fc (fm.1 2 (by omega)), i2.keep fc fm⟩
theorem Ivb.cx {n K t im : Nat} {F : Ft} {M : Mem} (h : Ivb n K t im) (mo : MOK t F M) : CX K t F M := ⟨mo, by have := h.1; have := h.2.1; omega, by have := h.1; have := h.2.2.1; omega, h.2.2.2.1⟩
theorem MOK.keep {t : Nat} {F : Ft} {M M' : Mem} (h : MOK t F M) (e : M' 2 = M 2) : MOK t F M' := fun p hp => by
  rw [e]
  exact h p hp
theorem Inv.er {n K : Nat} {Mc Mm : Mem} (h : Inv n K Mc Mm) (hn : n < 512) (k : Nat) (hk : k < 6) : Inv (n + 1) K (sf Mc 4 k (Mc 4 k + nI 1)) (sf Mm 4 k (Mm 4 k + nI 1)) := by
  obtain ⟨a, b, V, W, F, t, im, hb, mo, ⟨h1, h2, h3, h4⟩, i1, j1, j2, j3, j4, j5, j6⟩ := h
  refine ⟨a, b, V, W, F, t, im, hb.up hn, mo.keep (sf_ne (by omega)), ⟨h1.keep (fun k k1 k2 => sf_ne (by omega)) (fun k k1 k2 => sf_ne (by omega)), fun k hk => by rw [sf_ne (by omega)]; exact h2 k hk, h3, h4⟩, ?_, ?_, ?_, ?_, fun i hi => ?_, ?_, fun s hs => (j6 s hs).keep (sf_ne (by omega)) (sf_ne (by omega)) (sf_ne (by omega)) (sf_ne (by omega)) (sf_ne (by omega))⟩
  · refine ⟨i1.1.keep (sf_ne (by omega)) (sf_ne (by omega)), ?_⟩
    rcases i1.2 with ⟨q, r⟩ | ⟨q1, q2, q3, q4⟩
    · exact Or.inl ⟨q, r.keep (sf_ne (by omega)) (sf_ne (by omega))⟩
    · exact Or.inr ⟨q1.keep (fun k k1 k2 => sf_ne (by omega)) (fun k k1 k2 => sf_ne (by omega)), fun k hk => by rw [sf_ne (by omega)]; exact q2 k hk, q3, q4⟩
  · rw [sf_ne (by omega)]; exact j1
  · rw [sf_ne (by omega)]; exact j2
  · rw [sf_ne (by omega)]; exact j3
  · rw [sf_at, sf_at, if_pos rfl, if_pos rfl, j4 k hk, j4 i hi]
  · unfold Tc
    rw [sf_ne (by omega), sf_ne (by omega), sf_ne (by omega), sf_ne (by omega)]
    exact j5
theorem Inv.up {n K : Nat} {Mc Mm : Mem} (h : Inv n K Mc Mm) (hn : n < 512) : Inv (n + 1) K Mc Mm := by
  obtain ⟨a, b, V, W, F, t, im, hb, h⟩ := h
  exact ⟨a, b, V, W, F, t, im, hb.up hn, h⟩
/-! ===== new cells ===== -/
theorem MR.up {M : Mem} {a : Nat → Nat} (h : MR M a) (k v : Nat) : MR (sf M 1 k (nI v)) (updN a k v) := fun j hj => by
  rw [sf_at, if_pos rfl]
  unfold updN
  split
  · rfl
  · exact h j hj
theorem TR.ab {g K t : Nat} {F : Ft} {M : Mem} {a a' : Nat → Nat} {V : Vt} (h : TR g K t F M a V) (e0 : a' 90 = a 90) (e1 : a' 91 = a 91) : TR g K t F M a' V := fun u hu => by
  rcases (show u = 0 ∨ u = 1 by omega) with rfl | rfl
  · rw [show a' (90 + 0) = a (90 + 0) from e0]
    exact h 0 hu
  · rw [show a' (90 + 1) = a (90 + 1) from e1]
    exact h 1 hu
theorem HB.up {K t : Nat} {F : Ft} {M M' : Mem} {a a' : Nat → Nat} {V : Vt} (h : HB K t F 30 M a V) (h' : HR 30 M' a') (hk : ∀ k, (k < 30 ∨ 42 ≤ k) → M' k = M k) (e5 : M' 35 = M 35) (e0 : a' 90 = a 90) (e1 : a' 91 = a 91) : HB K t F 30 M' a' V :=
  ⟨h', (h.2.1.keep (hk _ (by omega)) (fun k k1 _ => hk k (by omega))).ab e0 e1, fun l hl => by rw [show M' (30 + 5) = M (30 + 5) from e5]; exact h.2.2 l hl⟩
theorem TM.cg {bs bs' : Nat → Nat} {n u : Nat} {v : Int32 → Int32 → Int32 → Int32} (h : TM bs n u v) (e : ∀ i, i < n → bs' i = bs i) : TM bs' n u v := fun M base Q hb hm hQ => h M base Q hb (fun i hi => by rw [hm i hi, e i hi]) hQ
theorem VOK.ab {a a' : Nat → Nat} {V : Vt} (v : VOK a V) (d : DOK a) (h : ∀ k, 90 ≤ k → (k < 92 ∨ (112 ≤ k ∧ k < 212)) → a' k = a k) : VOK a' V := fun u hu hp => by
  have dd := d.2.2.2.2.1
  have e : a' (90 + u) = a (90 + u) := h _ (by omega) (by omega)
  rw [e] at hp ⊢
  have hl : a (90 + u) ≤ 50 := by
    rcases (show u = 0 ∨ u = 1 by omega) with rfl | rfl
    · exact dd.2.2.1
    · exact dd.2.2.2
  exact (v u hu hp).cg (fun i hi => h _ (by omega) (by omega))
theorem HR.win {g : Nat} {M M' : Mem} {a a' : Nat → Nat} (h : HR g M a) (hM : ∀ k, k ≠ g + 1 → k ≠ g + 2 → k ≠ g + 3 → k ≠ g + 4 → M' k = M k) (ha : ∀ k, (k < 12 ∨ 44 ≤ k) → a' k = a k) (hw : ∀ w, w < a 0 → M' (g + 1) w = nI (a' (12 + 4 * w)) ∧ M' (g + 2) w = nI (a' (12 + 4 * w + 1)) ∧ M' (g + 3) w = cI (a' (12 + 4 * w + 2)) ∧ M' (g + 4) w = nI (a' (12 + 4 * w + 3))) : HR g M' a' := by
  unfold HR
  rw [ha 0 (by omega), ha 1 (by omega), ha 2 (by omega), ha 3 (by omega), ha 4 (by omega), ha 5 (by omega), ha 6 (by omega), ha 7 (by omega), ha 8 (by omega), ha 9 (by omega), ha 10 (by omega)]
  rw [hM g (by omega) (by omega) (by omega) (by omega), hM (g + 5) (by omega) (by omega) (by omega) (by omega), hM (g + 6) (by omega) (by omega) (by omega) (by omega), hM (g + 7) (by omega) (by omega) (by omega) (by omega), hM (g + 8) (by omega) (by omega) (by omega) (by omega), hM (g + 9) (by omega) (by omega) (by omega) (by omega), hM (g + 10) (by omega) (by omega) (by omega) (by omega), hM (g + 11) (by omega) (by omega) (by omega) (by omega)]
  refine ⟨h.1, h.2.1, hw, fun l hl => ?_, ⟨h.2.2.2.2.1.1, fun i hi => ?_⟩, h.2.2.2.2.2.1, fun i hi => ?_⟩
  · rw [ha (44 + 3 * l) (by omega), ha (44 + 3 * l + 1) (by omega), ha (44 + 3 * l + 2) (by omega)]
    exact h.2.2.2.1 l hl
  · rw [ha (212 + i) (by omega)]
    exact h.2.2.2.2.1.2 i hi
  · rw [ha (92 + i) (by omega)]
    exact h.2.2.2.2.2.2 i hi
theorem HR.lod {g : Nat} {M M' : Mem} {a a' : Nat → Nat} (h : HR g M a) (h0 : a 0 ≤ 8) (hM : ∀ k, k ≠ g + 5 → k ≠ g + 6 → k ≠ g + 7 → M' k = M k) (ha : ∀ k, (k < 44 ∨ 90 ≤ k) → a' k = a k) (hl : ∀ l, l < a 2 → M' (g + 5) l = nI (15 + a' (44 + 3 * l)) ∧ M' (g + 6) l = nI (a' (44 + 3 * l + 1)) ∧ M' (g + 7) l = nI (a' (44 + 3 * l + 2))) : HR g M' a' := by
  unfold HR
  rw [ha 0 (by omega), ha 1 (by omega), ha 2 (by omega), ha 3 (by omega), ha 4 (by omega), ha 5 (by omega), ha 6 (by omega), ha 7 (by omega), ha 8 (by omega), ha 9 (by omega), ha 10 (by omega)]
  rw [hM g (by omega) (by omega) (by omega), hM (g + 1) (by omega) (by omega) (by omega), hM (g + 2) (by omega) (by omega) (by omega), hM (g + 3) (by omega) (by omega) (by omega), hM (g + 4) (by omega) (by omega) (by omega), hM (g + 8) (by omega) (by omega) (by omega), hM (g + 9) (by omega) (by omega) (by omega), hM (g + 10) (by omega) (by omega) (by omega), hM (g + 11) (by omega) (by omega) (by omega)]
  refine ⟨h.1, h.2.1, fun w hw => ?_, hl, ⟨h.2.2.2.2.1.1, fun i hi => ?_⟩, h.2.2.2.2.2.1, fun i hi => ?_⟩
  · rw [ha (12 + 4 * w) (by omega), ha (12 + 4 * w + 1) (by omega), ha (12 + 4 * w + 2) (by omega), ha (12 + 4 * w + 3) (by omega)]
    exact h.2.2.1 w hw
  · rw [ha (212 + i) (by omega)]
    exact h.2.2.2.2.1.2 i hi
  · rw [ha (92 + i) (by omega)]
    exact h.2.2.2.2.2.2 i hi
