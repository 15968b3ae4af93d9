/-! ===== AIR on the class's side: the memo ===== -/
def Cs (M M' : Mem) : Prop := ∀ k, k ≠ 2 → (∀ j, k ≠ 71 + 3 * j) → M' k = M k
theorem Cs.rf {M : Mem} : Cs M M := fun _ _ _ => rfl
theorem Cs.tr {M M' M'' : Mem} (h : Cs M M') (h' : Cs M' M'') : Cs M M'' := fun k h1 h2 => (h' k h1 h2).trans (h k h1 h2)
def tri (s : Nat) : Nat := s * (s + 1) / 2
theorem tri_s (s : Nat) : tri (s + 1) = tri s + (s + 1) := by
  unfold tri
  rw [show (s + 1) * (s + 1 + 1) = s * (s + 1) + (s + 1) * 2 by rw [Nat.mul_comm (s + 1) (s + 1 + 1), Nat.add_mul (s + 1) 1, Nat.add_mul s 1]; omega]
  rw [Nat.add_mul_div_right _ _ (by omega)]
theorem tri_le {s s' : Nat} (h : s ≤ s') : tri s ≤ tri s' := by
  induction h with
  | refl => exact Nat.le_refl _
  | step _ ih => exact Nat.le_trans ih (by rw [tri_s]; omega)
def mp (o n : Nat) : Nat := tri (o + n) + n
theorem mp_lt {o n : Nat} (h : o + n ≤ 72) : mp o n < 2701 := by
  have h1 := tri_le h
  have h2 : tri 72 = 2628 := by decide
  unfold mp
  omega
theorem mp_inj {o n o' n' : Nat} (h : mp o n = mp o' n') : o = o' ∧ n = n' := by
  unfold mp at h
  rcases Nat.lt_trichotomy (o + n) (o' + n') with q | q | q
  · have h1 := tri_le (show o + n + 1 ≤ o' + n' from q)
    rw [tri_s] at h1
    omega
  · rw [q] at h
    omega
  · have h1 := tri_le (show o' + n' + 1 ≤ o + n from q)
    rw [tri_s] at h1
    omega
def Ft : Type := Nat → Nat → Nat → Nat → Nat
def MOK (t : Nat) (F : Ft) (M : Mem) : Prop := ∀ p, p < 2701 → ∃ w : Nat, M 2 p = nI w ∧ w < 2097152 ∧ w / 128 / 24 ≤ t ∧ (24 ≤ w / 128 → ∀ o n, o + n ≤ 72 → mp o n = p → w % 128 = F (w / 128 / 24) o n (w / 128 % 24))
def CM (M : Mem) (r : Nat) (v : Int32 → Int32 → Int32 → Int32) : Prop := ∃ len, len ≤ 50 ∧ M r 3 = nI len ∧ ∀ x y z f0, cval (M (r + 1)) len x y z f0 = v x y z
def TC (K t : Nat) (F : Ft) (M : Mem) (r : Nat) (v : Int32 → Int32 → Int32 → Int32) : Prop := ∃ j i, r = 69 + 3 * j ∧ 3 * j + 3 ≤ K ∧ 1 ≤ i ∧ i ≤ t ∧ M r 0 = nI i ∧ CM M r v ∧ ∀ o n h, o + n ≤ 72 → h < 24 → F i o n h = hA (v (nI o) (nI n) (nI h))
def TR (g K t : Nat) (F : Ft) (M : Mem) (a : Nat → Nat) (V : Vt) : Prop := ∀ u, u < 2 → (a (90 + u) = 0 ∧ M (g + 12) u = 0) ∨ (0 < a (90 + u) ∧ ∃ r, M (g + 12) u = nI r ∧ TC K t F M r (V u))
def CX (K t : Nat) (F : Ft) (M : Mem) : Prop := MOK t F M ∧ t ≤ 512 ∧ K ≤ 1536 ∧ K % 3 = 0
def airV (a : Nat → Nat) (V : Vt) (o n : Nat) : Nat := if a 90 = 0 then hA (nI (2 * o + n / 2)) else hA (V 0 (nI o) (nI n) (nI (a 3)))
theorem airV_le (a : Nat → Nat) (V : Vt) (o n : Nat) : airV a V o n ≤ 99 := by
  unfold airV
  split <;> exact hA_le _
theorem c_memoPlace {o n : Nat} {Q : Int32 → Prop} (hs : o + n ≤ 72) (hQ : Q (nI (mp o n))) : P_X2_memoPlace (nI o) (nI n) Q := by
  unfold P_X2_memoPlace
  refine br_f (nI_pos (by omega)) (br_f (nI_pos (by omega)) ?_)
  rw [nI_add]
  refine br_t (nI_le (b := 72) hs (by omega)) ?_
  have hb : (o + n) * (o + n + 1) ≤ 72 * 73 := Nat.mul_le_mul hs (by omega)
  have e : nI (o + n) * (nI (o + n) + 1) / 2 + nI n = nI (mp o n) := by
    rw [nI_1, pk_mul, show (2 : Int32) = nI 2 from rfl, pk_div (by omega) (by omega) (by omega), nI_add]
    rfl
  rw [e]
  exact hQ
theorem or_nI {k v : Nat} (hk : k < 16777216) (hv : v < 128) : nI (k * 128) ||| nI v = nI (k * 128 + v) := by
  apply Int32.toBitVec_inj.mp
  apply BitVec.eq_of_toNat_eq
  rw [Int32.toBitVec_or, BitVec.toNat_or, pk_tn (by omega), pk_tn (by omega), pk_tn (by omega)]
  have := Nat.shiftLeft_add_eq_or_of_lt (show v < 2 ^ 7 from hv) k
  rw [Nat.shiftLeft_eq] at this
  exact this.symm
theorem TC.keep {K t : Nat} {F : Ft} {M M' : Mem} {r : Nat} {v : Int32 → Int32 → Int32 → Int32} (h : TC K t F M r v) (hk : ∀ k, 69 ≤ k → (∀ j, k ≠ 71 + 3 * j) → M' k = M k) : TC K t F M' r v := by
  obtain ⟨j, i, h1, h2, h3, h4, h5, ⟨len, h6, h7, h8⟩, h9⟩ := h
  refine ⟨j, i, h1, h2, h3, h4, ?_, ⟨len, h6, ?_, ?_⟩, h9⟩
  · rw [hk r (by omega) (fun j => by omega)]; exact h5
  · rw [hk r (by omega) (fun j => by omega)]; exact h7
  · rw [hk (r + 1) (by omega) (fun j => by omega)]; exact h8
theorem TR.keep {g K t : Nat} {F : Ft} {M M' : Mem} {a : Nat → Nat} {V : Vt} (h : TR g K t F M a V) (h0 : M' (g + 12) = M (g + 12)) (hk : ∀ k, 69 ≤ k → (∀ j, k ≠ 71 + 3 * j) → M' k = M k) : TR g K t F M' a V := fun u hu => by
  rw [h0]
  rcases h u hu with q | ⟨q, r, e, z⟩
  · exact Or.inl q
  · exact Or.inr ⟨q, r, e, z.keep hk⟩
theorem HR.keep {g : Nat} {M M' : Mem} {a : Nat → Nat} (h : HR g M a) (hk : ∀ k, g ≤ k → k < g + 12 → M' k = M k) : HR g M' a := by
  unfold HR
  rw [hk g (by omega) (by omega), hk (g + 1) (by omega) (by omega), hk (g + 2) (by omega) (by omega), hk (g + 3) (by omega) (by omega), hk (g + 4) (by omega) (by omega), hk (g + 5) (by omega) (by omega), hk (g + 6) (by omega) (by omega), hk (g + 7) (by omega) (by omega), hk (g + 8) (by omega) (by omega), hk (g + 9) (by omega) (by omega), hk (g + 10) (by omega) (by omega), hk (g + 11) (by omega) (by omega)]
  exact h
set_option maxHeartbeats 4000000 in
theorem c_airBy {K g t o n : Nat} {F : Ft} {M : Mem} {a : Nat → Nat} {V : Vt} {Q : Int32 → Mem → Prop} (hg : isH g) (h : HR g M a) (hr : TR g K t F M a V) (c : CX K t F M) (d : DOK a) (hs : o + n ≤ 72) (hQ : ∀ M' : Mem, Cs M M' → CX K t F M' → Q (nI (airV a V o n)) M') : P_X2_airBy K M g (nI o) (nI n) Q := by
  unfold P_X2_airBy
  rintro u rfl
  have hg2 : g ≤ 56 := by rcases hg with rfl | rfl | rfl <;> omega
  rcases hr 0 (by omega) with ⟨z, e⟩ | ⟨z, r, e, j, i, hrj, hjK, hi1, hit, hid, ⟨len, hlen, hl, hcv⟩, hF⟩
  · refine br_t e (c_held ?_)
    have e2 : (2 : Int32) * nI o + nI n / 2 = nI (2 * o + n / 2) := by
      rw [show (2 : Int32) = nI 2 from rfl, pk_mul, pk_div (by omega) (by omega) (by omega), nI_add]
    rw [e2]
    have q := hQ M Cs.rf c
    unfold airV at q
    rw [if_pos z] at q
    exact q
  · have hK := c.2.2.1
    have ht := c.2.1
    have z : 0 < a 90 := z
    have ha3 := d.2.1.1
    rw [e]
    refine br_f (nI_ne0 (by omega) (by omega)) ?_
    rw [cl_nI (by omega)]
    refine ⟨⟨by omega, by omega, by omega⟩, c_memoPlace hs ?_⟩
    have hp := mp_lt hs
    refine br_f (nI_pos (by omega)) (br_t (nI_lt (b := 2701) hp (by omega)) ?_)
    have ea : airV a V o n = F i o n (a 3) := by
      unfold airV
      rw [if_neg (by omega), hF o n (a 3) hs (by omega)]
    have ek : M r 0 * 24 + M g 10 = nI (i * 24 + a 3) := by
      rw [hid, h.2.1.1, show (24 : Int32) = nI 24 from rfl, pk_mul, nI_add]
    rintro key rfl
    rw [ek]
    refine ⟨vp_in_nI hp (by omega), ?_⟩
    rw [cl_nI (by omega)]
    obtain ⟨w, hw, hwb, hwt, hwF⟩ := c.1 (mp o n) hp
    rw [hw, pk_shrN (by omega) _ 7 (by decide)]
    refine ⟨fun q => ?_, fun q => ?_⟩
    · rw [eq_nI (by omega) (by omega)] at q
      have q2 : w / 128 = i * 24 + a 3 := q
      have f := hwF (by omega) o n hs rfl
      rw [show w / 128 / 24 = i by omega, show w / 128 % 24 = a 3 by omega] at f
      unfold B_X2_airBy_113
      rw [cl_nI (by omega)]
      refine ⟨vp_in_nI hp (by omega), ?_⟩
      rw [hw, pk_andN (by omega) (m := 127) 7 (by decide)]
      rw [show w % 2 ^ 7 = w % 128 from rfl, f, ← ea]
      exact hQ M Cs.rf c
    · rw [h.2.1.1]
      refine c_value hlen hl (fun M1 hM1 => c_held ⟨vp_in_nI hp (by omega), ?_⟩)
      rw [hcv, ← hF o n (a 3) hs (by omega), ← ea]
      have hv := airV_le a V o n
      rw [pk_shlN _ 7 (by decide) (by omega)]
      rw [show (i * 24 + a 3) * 2 ^ 7 = (i * 24 + a 3) * 128 from rfl, or_nI (by omega) (by omega)]
      rintro M2 rfl
      unfold B_X2_airBy_113
      rw [cl_nI (by omega)]
      refine ⟨vp_in_nI hp (by omega), ?_⟩
      rw [sf_at, if_pos rfl, if_pos rfl, pk_andN (by omega) (m := 127) 7 (by decide)]
      rw [show ((i * 24 + a 3) * 128 + airV a V o n) % 2 ^ 7 = airV a V o n by omega]
      refine hQ _ (fun k h1 h2 => ?_) ⟨fun p hp2 => ?_, c.2⟩
      · rw [sf_ne h1, hM1 k (by have := h2 j; omega)]
      · rw [sf_eq]
        by_cases hpp : p = mp o n
        · subst hpp
          refine ⟨_, pk_us, by omega, by omega, fun _ o' n' hs' he => ?_⟩
          obtain ⟨rfl, rfl⟩ := mp_inj he
          rw [show ((i * 24 + a 3) * 128 + airV a V o' n') / 128 / 24 = i by omega, show ((i * 24 + a 3) * 128 + airV a V o' n') / 128 % 24 = a 3 by omega, ← ea]
          omega
        · obtain ⟨w', q1, q2, q3, q4⟩ := c.1 p hp2
          exact ⟨w', by rw [pk_un hpp, hM1 2 (by omega)]; exact q1, q2, q3, q4⟩
