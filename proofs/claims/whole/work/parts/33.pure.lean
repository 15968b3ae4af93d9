/-! ===== an HOUR passes ===== -/
def clN (H : Nat) (x : Int32) : Nat := if x < 0 then 0 else if nI H < x then H else x.toNatClampNeg
theorem clN_nI {H j : Nat} (hH : H < 2147483648) (hj : j < 2147483648) : clN H (nI j) = if j < H then j else H := by
  unfold clN
  rw [if_neg (nI_pos (by omega)), cl_nI hj]
  by_cases h : H < j
  · rw [if_pos (nI_lt h (by omega)), if_neg (by omega)]
  · rw [if_neg (nI_nlt (by omega) (by omega))]
    split <;> omega
theorem clN_neg {H : Nat} {x : Int32} (h : x < 0) : clN H x = 0 := if_pos h
theorem clN_le {H : Nat} (hH : H < 2147483648) (x : Int32) : clN H x ≤ H := by
  by_cases h : x < 0
  · rw [clN_neg h]; omega
  · obtain ⟨j, hj, rfl⟩ := nI_of h
    rw [clN_nI hH hj]
    split <;> omega
theorem c_clN {H : Nat} (hH : H < 2147483648) (x : Int32) : (if 0 < (if x < nI H then x else nI H) then (if x < nI H then x else nI H) else 0) = nI (clN H x) := by
  by_cases h : x < 0
  · rw [clN_neg h]
    have h1 : x < nI H := by
      rw [Int32.lt_iff_toInt_lt, nI_toInt hH]
      rw [Int32.lt_iff_toInt_lt] at h
      have : (0 : Int32).toInt = 0 := rfl
      omega
    have h2 : ¬ 0 < x := by rw [Int32.lt_iff_toInt_lt] at h ⊢; omega
    rw [if_pos h1, if_neg h2]
    rfl
  · obtain ⟨j, hj, rfl⟩ := nI_of h
    rw [clN_nI hH hj, mn_nI hj hH]
    generalize hy : (if j < H then j else H) = y
    have hy2 : y < 2147483648 := by rw [← hy]; split <;> omega
    rw [show (if 0 < nI y then nI y else 0) = nI (if 0 < y then y else 0) from mx_nI (j := 0) (by omega) hy2]
    congr 1
    split <;> omega
theorem m_clN {H : Nat} (hH : H < 2147483648) {x : Int32} {Q : Int32 → Prop} (hQ : Q (nI (clN H x))) : P_X12_held x 0 (nI H) Q := by
  unfold P_X12_held
  by_cases h : x < 0
  · rw [clN_neg h] at hQ
    have h2 : ¬ 0 ≤ x := by rw [Int32.lt_iff_toInt_lt] at h; rw [Int32.le_iff_toInt_le]; omega
    exact br_f h2 hQ
  · obtain ⟨j, hj, rfl⟩ := nI_of h
    rw [clN_nI hH hj] at hQ
    refine br_t (nI_pos' (by omega)) ?_
    rw [le_nI hj hH]
    by_cases h1 : j < H
    · rw [if_pos h1] at hQ
      exact br_t (by omega) hQ
    · rw [if_neg h1] at hQ
      refine ⟨fun q => ?_, fun _ => hQ⟩
      obtain rfl : j = H := by omega
      exact hQ
def ahB (b : Nat → Nat) (q : Nat) : Nat → Nat := fun k => if k = 5 then q else if k = 3 then (if b 3 + 1 = 24 then 0 else b 3 + 1) else if k = 4 then (if b 3 + 1 = 24 then (if b 4 + 1 < 999 then b 4 + 1 else 999) else b 4) else b k
theorem ahB_n {b : Nat → Nat} {q k : Nat} (h5 : k ≠ 5) (h3 : k ≠ 3) (h4 : k ≠ 4) : ahB b q k = b k := by
  unfold ahB
  rw [if_neg h5, if_neg h3, if_neg h4]
def ahQ (V : Vt) (b : Nat → Nat) (n : Nat) : Nat := clN 999999 (nI (b 5) + lawV b V 1 (nI (pop (conS b V))) (nI (b 3)) (nI n))
def ah (V : Vt) (a : Nat → Nat) : Nat → Nat := ahB (ta V a).2 (ahQ V (ta V a).2 (ta V a).1)
theorem cntC_eq {a b : Nat → Nat} {c : Nat} : ∀ w, (∀ i, i < w → a (12 + 4 * i + 2) = b (12 + 4 * i + 2)) → cntC a c w = cntC b c w
  | 0, _ => rfl
  | w + 1, h => by
    show cntC a c w + (if a (12 + 4 * w + 2) = c then 1 else 0) = cntC b c w + (if b (12 + 4 * w + 2) = c then 1 else 0)
    rw [cntC_eq w (fun i hi => h i (by omega)), h w (by omega)]
theorem DOK.ah {b : Nat → Nat} {q : Nat} (d : DOK b) (hq : q ≤ 999999) : DOK (ahB b q) := by
  have dd := d.2.1
  have e3 : ahB b q 3 ≤ 23 := by
    unfold ahB
    rw [if_neg (by omega), if_pos rfl]
    split <;> omega
  have e4 : ahB b q 4 ≤ 999 := by
    unfold ahB
    rw [if_neg (by omega), if_neg (by omega), if_pos rfl]
    split
    · split <;> omega
    · omega
  have e5 : ahB b q 5 ≤ 999999 := hq
  unfold DOK
  refine ⟨d.1, ⟨e3, e4, e5, dd.2.2.2⟩, fun w hw => ?_, fun l hl => ?_, d.2.2.2.2.1, fun k hk => ?_, fun k hk => ?_, fun c c1 c2 => ?_⟩
  · rw [ahB_n (k := 12 + 4 * w) (by omega) (by omega) (by omega), ahB_n (k := 12 + 4 * w + 1) (by omega) (by omega) (by omega), ahB_n (k := 12 + 4 * w + 2) (by omega) (by omega) (by omega), ahB_n (k := 12 + 4 * w + 3) (by omega) (by omega) (by omega)]
    exact d.2.2.1 w hw
  · rw [ahB_n (k := 44 + 3 * l) (by omega) (by omega) (by omega), ahB_n (k := 44 + 3 * l + 1) (by omega) (by omega) (by omega), ahB_n (k := 44 + 3 * l + 2) (by omega) (by omega) (by omega)]
    exact d.2.2.2.1 l hl
  · rw [ahB_n (by omega) (by omega) (by omega)]
    exact d.2.2.2.2.2.1 k hk
  · rw [ahB_n (by omega) (by omega) (by omega)]
    exact d.2.2.2.2.2.2.1 k hk
  · rw [cntC_eq (a := ahB b q) (b := b) _ (fun i _ => ahB_n (by omega) (by omega) (by omega))]
    exact d.2.2.2.2.2.2.2 c c1 c2
theorem ta_ok {V : Vt} {a : Nat → Nat} (d : DOK a) : DOK (ta V a).2 ∧ Opn a (ta V a).2 ∧ (ta V a).1 ≤ 2 * a 2 := taG_ok _ a d
theorem ah_ok {V : Vt} {a : Nat → Nat} (d : DOK a) : DOK (ah V a) := (ta_ok (V := V) d).1.ah (clN_le (by omega) _)
/-- all but what a passing hour touches -/
def Hrn (a a' : Nat → Nat) : Prop := ∀ k, k ≠ 3 → k ≠ 4 → k ≠ 5 → (∀ w, w < a 0 → k ≠ 12 + 4 * w + 1) → a' k = a k
theorem Hrn.rf {a : Nat → Nat} : Hrn a a := fun _ _ _ _ _ => rfl
theorem Hrn.tr {a a' a'' : Nat → Nat} (h : Hrn a a') (h' : Hrn a' a'') : Hrn a a'' := fun k k3 k4 k5 hk => by
  have e0 : a' 0 = a 0 := h 0 (by omega) (by omega) (by omega) (fun w _ => by omega)
  rw [h' k k3 k4 k5 (fun w hw => hk w (by omega)), h k k3 k4 k5 hk]
theorem Opn.hrn {a a' : Nat → Nat} (h : Opn a a') : Hrn a a' := fun k _ _ _ hk => h k hk
theorem ah_hrn {V : Vt} {a : Nat → Nat} (d : DOK a) : Hrn a (ah V a) := (ta_ok (V := V) d).2.1.hrn.tr (fun k k3 k4 k5 _ => ahB_n k5 k3 k4)
theorem Hrn.hi {a a' : Nat → Nat} (h : Hrn a a') (h0 : a 0 ≤ 8) {k : Nat} (hk : 44 ≤ k) : a' k = a k := h k (by omega) (by omega) (by omega) (fun w _ => by omega)
theorem VOK.hr {a a' : Nat → Nat} {V : Vt} (v : VOK a V) (h : Hrn a a') (h0 : a 0 ≤ 8) : VOK a' V := fun u hu hp => by
  rw [h.hi h0 (k := 90 + u) (by omega)] at hp ⊢
  have e : (fun i => a' (112 + 50 * u + i)) = fun i => a (112 + 50 * u + i) := funext fun i => h.hi h0 (by omega)
  rw [e]
  exact v u hu hp
theorem TR.hr {g K t : Nat} {F : Ft} {M : Mem} {a a' : Nat → Nat} {V : Vt} (h : TR g K t F M a V) (o : Hrn a a') (h0 : a 0 ≤ 8) : TR g K t F M a' V := fun u hu => by
  rw [o.hi h0 (k := 90 + u) (by omega)]
  exact h u hu
theorem m_anHour {M : Mem} {a : Nat → Nat} {V : Vt} {Q : Mem → Prop} (h : MR M a) (d : DOK a) (v : VOK a V) (hQ : ∀ M' : Mem, Mg M M' → MR M' (ah V a) → Q M') : P_X12_anHour M Q := by
  obtain ⟨t1, t2, t3⟩ := ta_ok (V := V) d
  have hl6 := d.1.2.2
  unfold P_X12_anHour
  refine m_turnOfAll h d v (fun M2 g2 h2 => m_allContent h2 t1 (v.op t2 d.1.1) (fun M4 s4 => ?_))
  have h4 := h2.ms s4
  have hc := conS_lt t1 V
  have hp := pop_le (conS (ta V a).2 V)
  unfold P_X12_onesOf
  refine m_ones (by omega) ?_
  rw [h4 3 (by omega)]
  refine m_textGives (u := 1) (by omega) h4 t1 (v.op t2 d.1.1) (fun M7 s7 => ?_)
  have h7 := h4.ms s7
  rw [h2 5 (by omega)]
  refine m_clN (H := 999999) (by omega) ?_
  rintro _ rfl _ rfl
  have g7 : Mg M M7 := (g2.tr s4.g).tr s7.g
  have dd := t1.2.1
  unfold ah ahQ at hQ
  generalize hq : clN 999999 (nI ((ta V a).2 5) + lawV (ta V a).2 V 1 (nI (pop (conS (ta V a).2 V))) (nI ((ta V a).2 3)) (nI (ta V a).1)) = q at *
  generalize (ta V a).2 = b at *
  have e3 : sf M7 1 5 (nI q) 1 3 = nI (b 3) := by rw [sf_at, if_pos rfl, if_neg (by omega)]; exact h7 3 (by omega)
  rw [e3]
  have e10 : sf (sf M7 1 5 (nI q)) 1 3 (nI (b 3) + 1) 1 3 = nI (b 3 + 1) := by rw [sf_at, if_pos rfl, if_pos rfl, nI_1]
  rw [e10]
  have e24 : nI (b 3 + 1) = 24 ↔ b 3 + 1 = 24 := eq_nI (b := 24) (by omega) (by omega)
  rw [e24]
  refine ⟨fun z => hQ _ (g7.tr (Mg.of (fun k hk => by rw [sf_ne hk, sf_ne hk]))) (fun k hk => ?_), fun z => ?_⟩
  · rw [sf_at, if_pos rfl, sf_at, if_pos rfl]
    unfold ahB
    by_cases k3 : k = 3
    · subst k3
      rw [if_pos rfl, if_neg (by omega), if_pos rfl, if_neg z, nI_1]
    · rw [if_neg k3]
      by_cases k5 : k = 5
      · rw [if_pos k5, if_pos k5]
      · rw [if_neg k5, if_neg k5, if_neg k3]
        by_cases k4 : k = 4
        · rw [if_pos k4, if_neg z, k4]
          exact h7 4 (by omega)
        · rw [if_neg k4]
          exact h7 k hk
  · rintro _ rfl
    have e4 : sf (sf (sf M7 1 5 (nI q)) 1 3 (nI (b 3) + 1)) 1 3 0 1 4 = nI (b 4) := by
      rw [sf_at, if_pos rfl, if_neg (by omega), sf_at, if_pos rfl, if_neg (by omega), sf_at, if_pos rfl, if_neg (by omega)]
      exact h7 4 (by omega)
    rw [e4, nI_1]
    refine m_clN (H := 999) (by omega) ?_
    rw [clN_nI (by omega) (by omega)]
    rintro _ rfl
    refine hQ _ (g7.tr (Mg.of (fun k hk => by rw [sf_ne hk, sf_ne hk, sf_ne hk, sf_ne hk]))) (fun k hk => ?_)
    rw [sf_at, if_pos rfl, sf_at, if_pos rfl, sf_at, if_pos rfl, sf_at, if_pos rfl]
    unfold ahB
    by_cases k4 : k = 4
    · subst k4
      rw [if_pos rfl, if_neg (show ¬ (4 : Nat) = 5 by omega), if_neg (show ¬ (4 : Nat) = 3 by omega), if_pos rfl, if_pos z]
    · rw [if_neg k4]
      by_cases k3 : k = 3
      · subst k3
        rw [if_pos rfl, if_neg (by omega), if_pos rfl, if_pos z]
        rfl
      · rw [if_neg k3, if_neg k3]
        by_cases k5 : k = 5
        · rw [if_pos k5, if_pos k5]
        · rw [if_neg k5, if_neg k5, if_neg k3, if_neg k4]
          exact h7 k hk
