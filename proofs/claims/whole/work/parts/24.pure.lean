/-! ===== texts and AIR on the model's side ===== -/
def Ms (M M' : Mem) : Prop := (∀ k, k ≠ 0 → k ≠ 5 → M' k = M k) ∧ ∀ j, (j < 5 ∨ 10 < j) → M' 0 j = M 0 j
theorem Ms.rf {M : Mem} : Ms M M := ⟨fun _ _ _ => rfl, fun _ _ => rfl⟩
theorem Ms.tr {M M' M'' : Mem} (h : Ms M M') (h' : Ms M' M'') : Ms M M'' := ⟨fun k h1 h2 => (h'.1 k h1 h2).trans (h.1 k h1 h2), fun j hj => (h'.2 j hj).trans (h.2 j hj)⟩
theorem MR.ms {M M' : Mem} {a : Nat → Nat} (h : MR M a) (s : Ms M M') : MR M' a := fun k hk => by rw [s.1 1 (by omega) (by omega)]; exact h k hk
/-- what a text's bytes give, for all names -/
def TM (bs : Nat → Nat) (n use : Nat) (v : Int32 → Int32 → Int32 → Int32) : Prop := ∀ (M : Mem) (base : Nat) (Q : Int32 → Mem → Prop), base + n ≤ 264 → (∀ i, i < n → M 1 (base + i) = nI (bs i)) → (∀ M' : Mem, Ms M M' → Q (v (M 5 0) (M 5 1) (M 5 2)) M') → P_X12_worked M (nI base) (nI n) (nI use) Q
def VOK (a : Nat → Nat) (V : Vt) : Prop := ∀ u, u < 2 → 0 < a (90 + u) → TM (fun i => a (112 + 50 * u + i)) (a (90 + u)) u (V u)
def hC (x : Int32) : Int32 := if x < -99 then -99 else if 99 < x then 99 else x
def lawV (a : Nat → Nat) (V : Vt) (u : Nat) (x y z : Int32) : Int32 := if u = 0 then nI (hA (if a 90 = 0 then 2 * x + y / 2 else V 0 x y z)) else hC (if a 91 = 0 then x else V 1 x y z)
theorem c_heldC {x : Int32} {K g : Nat} {M : Mem} {Q : Int32 → Mem → Prop} (hQ : Q (hC x) M) : B_X2_lawBy_58 K g Q x M := by
  unfold B_X2_lawBy_58
  rintro v6 rfl v7 rfl
  have e : (if (-99) < (if x < 99 then x else 99) then (if x < 99 then x else 99) else (-99)) = hC x := by
    have e1 : (99 : Int32).toInt = 99 := rfl
    have e2 : (-99 : Int32).toInt = -99 := rfl
    unfold hC
    by_cases h : x < -99
    · have h1 : x < 99 := by rw [Int32.lt_iff_toInt_lt] at h ⊢; omega
      have h2 : ¬ (-99) < x := by rw [Int32.lt_iff_toInt_lt] at h ⊢; omega
      rw [if_pos h1, if_pos h, if_neg h2]
    · rw [if_neg h]
      by_cases h1 : x < 99
      · have h3 : ¬ 99 < x := by rw [Int32.lt_iff_toInt_lt] at h1 ⊢; omega
        rw [if_pos h1, if_neg h3]
        split
        · rfl
        · rename_i h4
          rw [← Int32.toInt_inj]
          rw [Int32.lt_iff_toInt_lt] at h h4
          omega
      · rw [if_neg h1, if_pos (by decide)]
        split
        · rfl
        · rename_i h4
          rw [← Int32.toInt_inj]
          rw [Int32.lt_iff_toInt_lt] at h1 h4
          omega
  rw [e]
  exact hQ
theorem m_heldC {x : Int32} {Q : Int32 → Prop} (hQ : Q (hC x)) : P_X12_held x (-99) 99 Q := by
  unfold P_X12_held
  unfold hC at hQ
  by_cases h : x < -99
  · rw [if_pos h] at hQ
    have h2 : ¬ (-99) ≤ x := by rw [Int32.lt_iff_toInt_lt] at h; rw [Int32.le_iff_toInt_le]; omega
    exact br_f h2 hQ
  · rw [if_neg h] at hQ
    have h2 : (-99) ≤ x := by rw [Int32.lt_iff_toInt_lt] at h; rw [Int32.le_iff_toInt_le]; omega
    refine br_t h2 ?_
    by_cases h1 : 99 < x
    · rw [if_pos h1] at hQ
      have h3 : ¬ x ≤ 99 := by rw [Int32.lt_iff_toInt_lt] at h1; rw [Int32.le_iff_toInt_le]; omega
      exact br_f h3 hQ
    · rw [if_neg h1] at hQ
      have h3 : x ≤ 99 := by rw [Int32.lt_iff_toInt_lt] at h1; rw [Int32.le_iff_toInt_le]; omega
      exact br_t h3 hQ
theorem c_lawBy {K g t u : Nat} {x y z : Int32} {F : Ft} {M : Mem} {a : Nat → Nat} {V : Vt} {Q : Int32 → Mem → Prop} (hu : u < 2) (hr : TR g K t F M a V) (c : CX K t F M) (hQ : ∀ M' : Mem, Cs M M' → CX K t F M' → Q (lawV a V u x y z) M') : P_X2_lawBy K M g (nI u) x y z Q := by
  unfold P_X2_lawBy
  refine ⟨vp_in_nI hu (by omega), ?_⟩
  rw [cl_nI (by omega)]
  rintro w rfl
  have hK := c.2.2.1
  rcases hr u hu with ⟨q, e⟩ | ⟨q, r, e, j, i, hrj, hjK, hi1, hit, hid, ⟨len, hlen, hl, hcv⟩, hF⟩
  · rw [e]
    refine br_t rfl ⟨fun n0 => c_heldC ?_, fun n0 => c_held ?_⟩
    · have hu1 : u = 1 := by
        rcases (show u = 0 ∨ u = 1 by omega) with rfl | rfl
        · exact absurd rfl n0
        · rfl
      subst hu1
      have := hQ M Cs.rf c
      unfold lawV at this
      rw [if_neg (by omega), if_pos q] at this
      exact this
    · have hu0 : u = 0 := by
        rcases (show u = 0 ∨ u = 1 by omega) with rfl | rfl
        · rfl
        · exact absurd n0 (by decide)
      subst hu0
      have := hQ M Cs.rf c
      unfold lawV at this
      rw [if_pos rfl, if_pos q] at this
      exact this
  · have hsc : ∀ M1 : Mem, (∀ k, k ≠ r + 2 → M1 k = M k) → Cs M M1 ∧ CX K t F M1 := fun M1 h1 =>
      ⟨fun k k1 k2 => h1 k (by have := k2 j; omega), fun p hp => by rw [h1 2 (by omega)]; exact c.1 p hp, c.2⟩
    rw [e]
    refine br_f (nI_ne0 (by omega) (by omega)) ?_
    rw [cl_nI (by omega)]
    refine ⟨⟨by omega, by omega, by omega⟩, fun n0 => c_value hlen hl (fun M1 h1 => c_heldC ?_), fun n0 => c_value hlen hl (fun M1 h1 => c_held ?_)⟩
    · have hu1 : u = 1 := by
        rcases (show u = 0 ∨ u = 1 by omega) with rfl | rfl
        · exact absurd rfl n0
        · rfl
      subst hu1
      have := hQ M1 (hsc M1 h1).1 (hsc M1 h1).2
      unfold lawV at this
      have q2 : 0 < a 91 := q
      rw [if_neg (by omega), if_neg (by omega)] at this
      rw [hcv]
      exact this
    · have hu0 : u = 0 := by
        rcases (show u = 0 ∨ u = 1 by omega) with rfl | rfl
        · rfl
        · exact absurd n0 (by decide)
      subst hu0
      have := hQ M1 (hsc M1 h1).1 (hsc M1 h1).2
      unfold lawV at this
      have q2 : 0 < a 90 := q
      rw [if_pos rfl, if_neg (by omega)] at this
      rw [hcv]
      exact this
theorem m_textGives {u : Nat} {x y z : Int32} {M : Mem} {a : Nat → Nat} {V : Vt} {Q : Int32 → Mem → Prop} (hu : u < 2) (h : MR M a) (d : DOK a) (v : VOK a V) (hQ : ∀ M' : Mem, Ms M M' → Q (lawV a V u x y z) M') : P_X12_textGives M (nI u) x y z Q := by
  have hd := d.2.2.2.2.1
  have fin : ∀ (s : Int32) (M1 : Mem), Ms M M1 → (if u = 0 then nI (hA s) else hC s) = lawV a V u x y z → B_X12_textGives_74 Q (nI u) s M1 := by
    intro s M1 h1 he
    have q := hQ M1 h1
    rw [← he] at q
    unfold B_X12_textGives_74
    refine ⟨fun n0 => m_heldC ?_, fun n0 => m_held ?_⟩
    · rw [if_neg (by rintro rfl; exact n0 rfl)] at q
      exact q
    · have hu0 : u = 0 := by
        rcases (show u = 0 ∨ u = 1 by omega) with rfl | rfl
        · rfl
        · exact absurd n0 (by decide)
      rw [if_pos hu0] at q
      exact q
  have main : ∀ s : Int32, (a (90 + u) = 0 → (if u = 0 then nI (hA s) else hC s) = lawV a V u x y z) → B_X12_textGives_15 Q (nI u) x y z s M := by
    intro s hs
    unfold B_X12_textGives_15
    have e90 : (90 : Int32) + nI u = nI (90 + u) := nI_add 90 u
    have hl : a (90 + u) ≤ 50 := by
      rcases (show u = 0 ∨ u = 1 by omega) with rfl | rfl
      · exact hd.2.2.1
      · exact hd.2.2.2
    rw [e90, cl_nI (by omega), h (90 + u) (by omega)]
    have hin : vp_in (nI (90 + u)) 264 := vp_in_nI (by omega) (by omega)
    refine ⟨hin, ?_⟩
    simp (disch := omega) only [i_lit, le_nI]
    refine ⟨fun q => fin s M Ms.rf (hs (by omega)), fun q => ?_⟩
    rintro M7 rfl M8 rfl M9 rfl
    refine ⟨hin, ?_⟩
    have e112 : nI 112 + nI 50 * nI u = nI (112 + 50 * u) := by rw [pk_mul, nI_add]
    rw [e112]
    have hM : ∃ M9 : Mem, M9 = sf (sf (sf M 5 (nI 0).toNatClampNeg x) 5 (nI 1).toNatClampNeg y) 5 (nI 2).toNatClampNeg z ∧ (∀ k, k ≠ 5 → M9 k = M k) ∧ M9 5 0 = x ∧ M9 5 1 = y ∧ M9 5 2 = z :=
      ⟨_, rfl, fun k hk => by rw [sf_ne hk, sf_ne hk, sf_ne hk], by simp [sf_at, cl_nI], by simp [sf_at, cl_nI], by simp [sf_at, cl_nI]⟩
    obtain ⟨M9, e9, hk9, h0, h1, h2⟩ := hM
    have e9' : sf (sf (sf M 5 0 x) 5 1 y) 5 2 z = M9 := by rw [e9]; rfl
    first | rw [← e9] | rw [e9']
    rw [hk9 1 (by omega), h (90 + u) (by omega)]
    refine v u hu (by omega) M9 (112 + 50 * u) _ (by omega) (fun i hi => by rw [hk9 1 (by omega)]; exact h _ (by omega)) (fun M1 h1' => ?_)
    rw [h0, h1, h2]
    refine fin _ M1 ((show Ms M M9 from ⟨fun k k0 k5 => hk9 k k5, fun j _ => by rw [hk9 0 (by omega)]⟩).tr h1') ?_
    unfold lawV
    rcases (show u = 0 ∨ u = 1 by omega) with rfl | rfl
    · have q3 : 0 < a (90 + 0) := by omega
      have q2 : 0 < a 90 := q3
      rw [if_pos rfl, if_pos rfl, if_neg (by omega)]
    · have q3 : 0 < a (90 + 1) := by omega
      have q2 : 0 < a 91 := q3
      rw [if_neg (by omega), if_neg (by omega), if_neg (by omega)]
  unfold P_X12_textGives
  refine ⟨fun n0 => main _ fun q => ?_, fun n0 => main _ fun q => ?_⟩
  · rw [if_neg (by rintro rfl; exact n0 rfl)]
    unfold lawV
    have hu1 : u = 1 := by
      rcases (show u = 0 ∨ u = 1 by omega) with rfl | rfl
      · exact absurd rfl n0
      · rfl
    subst hu1
    rw [if_neg (by omega), if_pos q]
  · have hu0 : u = 0 := by
      rcases (show u = 0 ∨ u = 1 by omega) with rfl | rfl
      · rfl
      · exact absurd n0 (by decide)
    subst hu0
    unfold lawV
    rw [if_pos rfl, if_pos rfl, if_pos q]
