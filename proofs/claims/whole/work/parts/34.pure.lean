/-- the house but its row of fields, and its opens -/
def Ch (g : Nat) (M M' : Mem) : Prop := ∀ k, k ≠ g → k ≠ g + 2 → k ≠ 2 → (∀ j, k ≠ 71 + 3 * j) → M' k = M k
theorem Ch.rf {g : Nat} {M : Mem} : Ch g M M := fun _ _ _ _ _ => rfl
theorem Ch.tr {g : Nat} {M M' M'' : Mem} (h : Ch g M M') (h' : Ch g M' M'') : Ch g M M'' := fun k h0 h1 h2 h3 => (h' k h0 h1 h2 h3).trans (h k h0 h1 h2 h3)
theorem Cg.h {g : Nat} {M M' : Mem} (h : Cg g M M') : Ch g M M' := fun k _ h1 h2 h3 => h k h1 h2 h3
theorem Cs.h {g : Nat} {M M' : Mem} (h : Cs M M') : Ch g M M' := fun k _ _ h2 h3 => h k h2 h3
theorem Ch.of {g : Nat} {M M' : Mem} (h : ∀ k, k ≠ g → M' k = M k) : Ch g M M' := fun k h0 _ _ _ => h k h0
theorem Ch.TR {g K t : Nat} {F : Ft} {M M' : Mem} {a : Nat → Nat} {V : Vt} (s : Ch g M M') (hg : isH g) (h : TR g K t F M a V) : TR g K t F M' a V := h.keep (s _ (by omega) (by omega) (by rcases hg with rfl | rfl | rfl <;> omega) (fun j => by rcases hg with rfl | rfl | rfl <;> omega)) (fun k k1 k2 => s k (by rcases hg with rfl | rfl | rfl <;> omega) (by rcases hg with rfl | rfl | rfl <;> omega) (by omega) k2)
theorem CX.row {g K t : Nat} {F : Ft} {M M' : Mem} (c : CX K t F M) (hg : isH g) (h : ∀ k, k ≠ g → M' k = M k) : CX K t F M' := ⟨fun p hp => by rw [h 2 (by rcases hg with rfl | rfl | rfl <;> omega)]; exact c.1 p hp, c.2⟩
/-- new fields of a house -/
theorem HR.row {g : Nat} {M M' : Mem} {b b' : Nat → Nat} (h : HR g M b) (hk : ∀ k, k ≠ g → M' k = M k) (hb : ∀ k, k = 0 ∨ k = 1 ∨ k = 2 ∨ 8 < k → b' k = b k) (h0 : M' g 0 = M g 0 ∧ M' g 1 = M g 1 ∧ M' g 2 = M g 2)
    (h1 : M' g 10 = nI (b' 3) ∧ M' g 11 = nI (b' 4) ∧ M' g 12 = nI (b' 5) ∧ M' g 13 = nI (b' 6) ∧ M' g 14 = nI (b' 7) ∧ M' g 15 = nI (b' 8)) : HR g M' b' := by
  unfold HR
  rw [hb 0 (by omega), hb 1 (by omega), hb 2 (by omega), hb 9 (by omega), hb 10 (by omega), hk (g + 1) (by omega), hk (g + 2) (by omega), hk (g + 3) (by omega), hk (g + 4) (by omega), hk (g + 5) (by omega), hk (g + 6) (by omega), hk (g + 7) (by omega), hk (g + 8) (by omega), hk (g + 9) (by omega), hk (g + 10) (by omega), hk (g + 11) (by omega), h0.1, h0.2.1, h0.2.2]
  refine ⟨h.1, h1, fun w hw => ?_, fun l hl => ?_, ⟨h.2.2.2.2.1.1, fun k hk => ?_⟩, h.2.2.2.2.2.1, fun k hk => ?_⟩
  · rw [hb (12 + 4 * w) (by omega), hb (12 + 4 * w + 1) (by omega), hb (12 + 4 * w + 2) (by omega), hb (12 + 4 * w + 3) (by omega)]
    exact h.2.2.1 w hw
  · rw [hb (44 + 3 * l) (by omega), hb (44 + 3 * l + 1) (by omega), hb (44 + 3 * l + 2) (by omega)]
    exact h.2.2.2.1 l hl
  · rw [hb (212 + k) (by omega)]
    exact h.2.2.2.2.1.2 k hk
  · rw [hb (92 + k) (by omega)]
    exact h.2.2.2.2.2.2 k hk
theorem c_passHour {K g t : Nat} {F : Ft} {M : Mem} {a : Nat → Nat} {V : Vt} {Q : Mem → Prop} (hg : isH g) (h : HR g M a) (hr : TR g K t F M a V) (c : CX K t F M) (d : DOK a) (hQ : ∀ M' : Mem, Ch g M M' → CX K t F M' → HR g M' (ah V a) → Q M') : P_X2_passHour K M g Q := by
  obtain ⟨t1, t2, t3⟩ := ta_ok (V := V) d
  have hl6 := d.1.2.2
  unfold P_X2_passHour
  refine c_turnOfAll hg h hr c d (fun M2 g2 c2 h2 => c_contentSet hg h2 ((g2.TR hg hr).op t2 d.1.1) c2 t1 (fun M4 s4 c4 => ?_))
  have h4 := s4.HR hg h2
  have hc := conS_lt t1 V
  have g4 : Ch g M M4 := g2.h.tr s4.h
  refine c_bits (by omega) ?_
  rw [h4.2.1.1]
  refine c_lawBy (u := 1) (by omega) ((g4.TR hg hr).op t2 d.1.1) c4 (fun M7 s7 c7 => ?_)
  have h7 := s7.HR hg h4
  have g7 : Ch g M M7 := g4.tr s7.h
  have dd := t1.2.1
  rw [h7.2.1.2.2.1]
  unfold ah ahQ at hQ
  generalize hq : nI ((ta V a).2 5) + lawV (ta V a).2 V 1 (nI (pop (conS (ta V a).2 V))) (nI ((ta V a).2 3)) (nI (ta V a).1) = x at *
  generalize (ta V a).2 = b at *
  rintro _ rfl _ rfl
  have ex : (if 0 < (if x < 999999 then x else 999999) then (if x < 999999 then x else 999999) else 0) = nI (clN 999999 x) := c_clN (H := 999999) (by omega) x
  rw [ex]
  generalize clN 999999 x = q at *
  rintro _ rfl
  have e10 : sf M7 g 12 (nI q) g 10 = nI (b 3) := by rw [sf_at, if_pos rfl, if_neg (by omega)]; exact h7.2.1.1
  rw [e10]
  rintro _ rfl _ rfl
  have e10' : sf (sf M7 g 12 (nI q)) g 10 (nI (b 3) + 1) g 10 = nI (b 3 + 1) := by rw [sf_at, if_pos rfl, if_pos rfl, nI_1]
  rw [e10']
  have e24 : nI (b 3 + 1) < 24 ↔ b 3 + 1 < 24 := lt_nI (b := 24) (by omega) (by omega)
  rw [e24]
  have hb : ∀ k, k = 0 ∨ k = 1 ∨ k = 2 ∨ 8 < k → ahB b q k = b k := fun k hk => ahB_n (by omega) (by omega) (by omega)
  have b5 : ahB b q 5 = q := rfl
  refine ⟨fun z => ?_, fun z => ?_⟩
  · have hk : ∀ k, k ≠ g → sf (sf M7 g 12 (nI q)) g 10 (nI (b 3) + 1) k = M7 k := fun k hk => by rw [sf_ne hk, sf_ne hk]
    have b3 : ahB b q 3 = b 3 + 1 := by
      show (if b 3 + 1 = 24 then 0 else b 3 + 1) = _
      rw [if_neg (by omega)]
    have b4 : ahB b q 4 = b 4 := by
      show (if b 3 + 1 = 24 then (if b 4 + 1 < 999 then b 4 + 1 else 999) else b 4) = _
      rw [if_neg (by omega)]
    refine hQ _ (g7.tr (Ch.of hk)) (c7.row hg hk) (h7.row hk hb ⟨?_, ?_, ?_⟩ ⟨?_, ?_, ?_, ?_, ?_, ?_⟩)
    · simp [sf_at]
    · simp [sf_at]
    · simp [sf_at]
    · rw [b3, sf_at, if_pos rfl, if_pos rfl, nI_1]
    · rw [b4]; simp [sf_at]; exact h7.2.1.2.1
    · rw [b5]; simp [sf_at]
    · rw [ahB_n (k := 6) (by omega) (by omega) (by omega)]; simp [sf_at]; exact h7.2.1.2.2.2.1
    · rw [ahB_n (k := 7) (by omega) (by omega) (by omega)]; simp [sf_at]; exact h7.2.1.2.2.2.2.1
    · rw [ahB_n (k := 8) (by omega) (by omega) (by omega)]; simp [sf_at]; exact h7.2.1.2.2.2.2.2
  · rintro _ rfl
    have e11 : sf (sf (sf M7 g 12 (nI q)) g 10 (nI (b 3) + 1)) g 10 0 g 11 = nI (b 4) := by simp [sf_at]; exact h7.2.1.2.1
    rw [e11, nI_1]
    rintro _ rfl _ rfl
    have e999 : (if nI (b 4 + 1) < 999 then nI (b 4 + 1) else 999) = nI (if b 4 + 1 < 999 then b 4 + 1 else 999) := mn_nI (k := 999) (by omega) (by omega)
    rw [e999]
    have hk : ∀ k, k ≠ g → sf (sf (sf (sf M7 g 12 (nI q)) g 10 (nI (b 3) + 1)) g 10 0) g 11 (nI (if b 4 + 1 < 999 then b 4 + 1 else 999)) k = M7 k := fun k hk => by rw [sf_ne hk, sf_ne hk, sf_ne hk, sf_ne hk]
    have b3 : ahB b q 3 = 0 := by
      show (if b 3 + 1 = 24 then 0 else b 3 + 1) = _
      rw [if_pos (by omega)]
    have b4 : ahB b q 4 = (if b 4 + 1 < 999 then b 4 + 1 else 999) := by
      show (if b 3 + 1 = 24 then (if b 4 + 1 < 999 then b 4 + 1 else 999) else b 4) = _
      rw [if_pos (by omega)]
    refine hQ _ (g7.tr (Ch.of hk)) (c7.row hg hk) (h7.row hk hb ⟨?_, ?_, ?_⟩ ⟨?_, ?_, ?_, ?_, ?_, ?_⟩)
    · simp [sf_at]
    · simp [sf_at]
    · simp [sf_at]
    · rw [b3]; simp [sf_at]; rfl
    · rw [b4, sf_at, if_pos rfl, if_pos rfl]
    · rw [b5]; simp [sf_at]
    · rw [ahB_n (k := 6) (by omega) (by omega) (by omega)]; simp [sf_at]; exact h7.2.1.2.2.2.1
    · rw [ahB_n (k := 7) (by omega) (by omega) (by omega)]; simp [sf_at]; exact h7.2.1.2.2.2.2.1
    · rw [ahB_n (k := 8) (by omega) (by omega) (by omega)]; simp [sf_at]; exact h7.2.1.2.2.2.2.2
