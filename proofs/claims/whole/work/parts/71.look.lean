/-! ===== the windows open otherwise ===== -/
def opA (a r : Nat → Nat) (w : Nat) : Nat → Nat := fun k => if 12 ≤ k ∧ k < 12 + 4 * w ∧ k % 4 = 1 then r ((k - 12) / 4) else a k
theorem opA_1 {a r : Nat → Nat} {w k : Nat} (h : k < w) : opA a r w (12 + 4 * k + 1) = r k := by
  unfold opA
  rw [if_pos (by omega), show (12 + 4 * k + 1 - 12) / 4 = k by omega]
theorem opA_m {a r : Nat → Nat} {w k : Nat} (h : k % 4 ≠ 1) : opA a r w k = a k := if_neg (by omega)
theorem opA_n {a r : Nat → Nat} {w k : Nat} (h : k < 12 ∨ 12 + 4 * w ≤ k) : opA a r w k = a k := if_neg (by omega)
theorem opA_0 {a r : Nat → Nat} : opA a r 0 = a := by
  funext k
  exact if_neg (by omega)
theorem opA_s {a r : Nat → Nat} {w : Nat} : updN (opA a r w) (12 + 4 * w + 1) (r w) = opA a r (w + 1) := by
  funext k
  by_cases e : k = 12 + 4 * w + 1
  · rw [e, updN_s, opA_1 (by omega)]
  · rw [updN_n e]
    unfold opA
    by_cases q : 12 ≤ k ∧ k < 12 + 4 * w ∧ k % 4 = 1
    · rw [if_pos q, if_pos (by omega)]
    · rw [if_neg q, if_neg (by omega)]
theorem opA_b {a r : Nat → Nat} {w : Nat} : opA (opA a r w) (fun k => a (12 + 4 * k + 1)) w = a := by
  funext k
  unfold opA
  by_cases q : 12 ≤ k ∧ k < 12 + 4 * w ∧ k % 4 = 1
  · rw [if_pos q]
    show a (12 + 4 * ((k - 12) / 4) + 1) = a k
    congr 1
    omega
  · rw [if_neg q, if_neg q]
theorem opA_d {a r : Nat → Nat} {w : Nat} (d : DOK a) (hw : w ≤ a 0) (hr : ∀ k, k < w → r k ≤ 9) : DOK (opA a r w) := by
  have d0 := d.1.1
  have hc : ∀ c w', cntC (opA a r w) c w' = cntC a c w' := by
    intro c w'
    induction w' with
    | zero => rfl
    | succ w' ih =>
      show cntC (opA a r w) c w' + (if opA a r w (12 + 4 * w' + 2) = c then 1 else 0) = cntC a c w' + _
      rw [ih, opA_m (by omega)]
  unfold DOK
  rw [opA_n (k := 0) (by omega), opA_n (k := 1) (by omega), opA_n (k := 2) (by omega), opA_n (k := 3) (by omega), opA_n (k := 4) (by omega), opA_n (k := 5) (by omega), opA_n (k := 6) (by omega), opA_n (k := 7) (by omega), opA_n (k := 9) (by omega), opA_n (k := 10) (by omega), opA_n (k := 90) (by omega), opA_n (k := 91) (by omega)]
  refine ⟨d.1, d.2.1, fun k hk => ?_, fun l hl => ?_, d.2.2.2.2.1, fun i hi => ?_, fun i hi => ?_, fun c c1 c2 => by rw [hc]; exact d.2.2.2.2.2.2.2 c c1 c2⟩
  · have b := d.2.2.1 k hk
    rw [opA_m (k := 12 + 4 * k) (by omega), opA_m (k := 12 + 4 * k + 2) (by omega), opA_m (k := 12 + 4 * k + 3) (by omega)]
    refine ⟨b.1, ?_, b.2.2⟩
    by_cases q : k < w
    · rw [opA_1 q]; exact hr k q
    · rw [opA_n (by omega)]; exact b.2.1
  · have hl6 := d.1.2.2
    rw [opA_n (k := 44 + 3 * l) (by omega), opA_n (k := 44 + 3 * l + 1) (by omega), opA_n (k := 44 + 3 * l + 2) (by omega)]
    exact d.2.2.2.1 l hl
  · rw [opA_n (by omega)]; exact d.2.2.2.2.2.1 i hi
  · rw [opA_n (by omega)]; exact d.2.2.2.2.2.2.1 i hi
theorem opA_v {a r : Nat → Nat} {V : Vt} {w : Nat} (v : VOK a V) (d : DOK a) (hw : w ≤ 8) : VOK (opA a r w) V := v.ab d (fun k k1 _ => opA_n (by omega))
/-- the pulls that a row takes -/
def pul (a r : Nat → Nat) : Nat → Nat
  | 0 => 0
  | w + 1 => pul a r w + (r w - a (12 + 4 * w + 1))
theorem pul_le {a r : Nat → Nat} : ∀ w, (∀ k, k < w → r k ≤ 9) → pul a r w ≤ 9 * w
  | 0, _ => Nat.le_refl _
  | w + 1, h => by
    have := pul_le (a := a) w (fun k hk => h k (by omega))
    have := h w (by omega)
    show pul a r w + (r w - a (12 + 4 * w + 1)) ≤ 9 * (w + 1)
    omega
def cnt (a : Nat → Nat) (V : Vt) (r : Nat → Nat) : Nat := pop (conS (opA a r (a 0)) V)
abbrev bet (a : Nat → Nat) (V : Vt) (x2 : Int32) (r : Nat → Nat) (T : TS) : Prop := cI T.2.1 < 0 ∨ (((nI (cnt a V r) = nI T.2.2.1 ∨ x2 ≠ 0) ∧ ¬ cI T.2.1 ≤ nI (pul a r (a 0))) ∨ ((nI (cnt a V r) ≠ nI T.2.2.1 ∧ x2 = 0) ∧ ¬ nI (cnt a V r) ≤ nI T.2.2.1))
def lfL (a : Nat → Nat) (V : Vt) (x2 : Int32) (r : Nat → Nat) (T : TS) : TS := if (x2 = 0 ∨ nI (cnt a V r) = nI (a 2)) ∧ bet a V x2 r T then (T.1, pul a r (a 0) + 1, cnt a V r, r) else T
def lfM (a : Nat → Nat) (V : Vt) (x2 : Int32) (r : Nat → Nat) (T : TS) : TS := lfL a V x2 r (T.1 + 1, T.2)
theorem m_look {M : Mem} {a r l : Nat → Nat} {V : Vt} {T : TS} {x2 : Int32} {Q : Mem → Prop} (d : DOK a) (v : VOK a V) (s : SS a (a 0) r l (a 0) T M) (hr : ∀ k, k < a 0 → r k ≤ 9) (k : ∀ M', Gf M M' → SS a (a 0) r l (a 0) (lfL a V x2 r T) M' → Q M') : P_X12_looksAt M x2 Q := by
  have d0 := d.1.1
  have hp : ∀ w, w ≤ a 0 → pul a r w ≤ 72 := fun w hw => by have := pul_le (a := a) (r := r) w (fun k hk => hr k (by omega)); omega
  obtain ⟨s1, s2, s3, s4, s5, s6, s7, s8, s9⟩ := s
  unfold P_X12_looksAt B_X12_looksAt_4
  intro X hX
  -- the row is set down
  have copy : ∀ M4, MR M4 a → Gf M M4 → (∀ k, k < a 0 → M4 6 k = nI (r k)) → (∀ k, k ≠ 0 → k ≠ 1 → k ≠ 5 → M4 k = M k) → M4 0 16 = nI T.1 → (x2 = 0 ∨ nI (cnt a V r) = nI (a 2)) → bet a V x2 r T → B_X12_looksAt_198 Q 0 (sf (sf M4 0 17 (nI (cnt a V r))) 0 18 (nI (pul a r (a 0)))) := fun M4 mr4 g4 e6 ek e16 h1 h2 => by
    unfold B_X12_looksAt_198
    intro X5 hX5
    have kk : lfL a V x2 r T = (T.1, pul a r (a 0) + 1, cnt a V r, r) := if_pos ⟨h1, h2⟩
    rw [kk] at k
    have key : ∀ f w M5, w + f = a 0 → (∀ k, k ≠ 10 → M5 k = (sf (sf M4 0 17 (nI (cnt a V r))) 0 18 (nI (pul a r (a 0)))) k) → (∀ k, k < w → M5 10 k = nI (r k)) → X5 (nI w) M5 := by
      intro f
      induction f with
      | zero =>
        intro w M5 hw e e10
        obtain rfl : w = a 0 := by omega
        apply hX5
        rw [e 1 (by omega), sf_ne (by omega), sf_ne (by omega), mr4 0 (by omega)]
        refine br_t (nI_le (Nat.le_refl _) (by omega)) (k M5 ⟨fun k h0 h1 h5 h6 h8 h10 => ?_, fun j hj => ?_⟩ ⟨fun k hk => ?_, fun k hk => ?_, fun c hc => ?_, fun k hk => ?_, fun c hc => ?_, ?_, ?_, ?_, e10⟩)
        · rw [e k h10, sf_ne h0, sf_ne h0]; exact g4.1 k h0 h1 h5 h6 h8 h10
        · rw [e 0 (by omega), sf_j (by omega), sf_j (by omega)]; exact g4.2 j hj
        · rw [e 1 (by omega), sf_ne (by omega), sf_ne (by omega)]; exact mr4 k hk
        · rw [e 6 (by omega), sf_ne (by omega), sf_ne (by omega)]; exact e6 k hk
        · rw [e 8 (by omega), sf_ne (by omega), sf_ne (by omega), ek 8 (by omega) (by omega) (by omega)]; exact s3 c hc
        · rw [e 7 (by omega), sf_ne (by omega), sf_ne (by omega), ek 7 (by omega) (by omega) (by omega)]; exact s4 k hk
        · rw [e 9 (by omega), sf_ne (by omega), sf_ne (by omega), ek 9 (by omega) (by omega) (by omega)]; exact s5 c hc
        · rw [e 0 (by omega), sf_j (by omega), sf_j (by omega)]; exact e16
        · rw [e 0 (by omega), sf_e rfl rfl, cI_s]
        · rw [e 0 (by omega), sf_j (by omega), sf_e rfl rfl]
      | succ f ih =>
        intro w M5 hw e e10
        apply hX5
        rw [e 1 (by omega), sf_ne (by omega), sf_ne (by omega), mr4 0 (by omega), cl_nI (by omega)]
        refine br_f (nI_ge (by omega) (by omega)) ⟨vp_in_nI (by omega) (by omega), vp_in_nI (by omega) (by omega), ?_⟩
        rintro _ rfl _ rfl
        rw [nI_1]
        refine ih (w + 1) _ (by omega) (fun k hk => by rw [sf_ne hk]; exact e k hk) (fun k hk => ?_)
        by_cases q : k = w
        · rw [q, sf_e rfl rfl, e 6 (by omega), sf_ne (by omega), sf_ne (by omega)]; exact e6 w (by omega)
        · rw [sf_j q]; exact e10 k (by omega)
    exact key (a 0) 0 _ (by omega) (fun k hk => rfl) (fun k hk => absurd hk (by omega))
  -- whether it is better
  have judge : ∀ M4, MR M4 a → Gf M M4 → (∀ k, k < a 0 → M4 6 k = nI (r k)) → (∀ k, k ≠ 0 → k ≠ 1 → k ≠ 5 → M4 k = M k) → M4 0 16 = nI T.1 → M4 0 17 = nI T.2.2.1 → M4 0 18 = cI T.2.1 → ∀ s0 : Int32, (s0 ≠ 0 ↔ (x2 = 0 ∨ nI (cnt a V r) = nI (a 2))) → B_X12_looksAt_128 Q x2 (nI (pul a r (a 0))) (nI (cnt a V r)) s0 M4 := fun M4 mr4 g4 e6 ek e16 e17 e18 s0 hs => by
    have no : ¬ ((x2 = 0 ∨ nI (cnt a V r) = nI (a 2)) ∧ bet a V x2 r T) → Q M4 := fun q => by
      have kk : lfL a V x2 r T = T := if_neg q
      rw [kk] at k
      exact k M4 g4 ⟨mr4, e6, fun c hc => by rw [ek 8 (by omega) (by omega) (by omega)]; exact s3 c hc, fun k hk => by rw [ek 7 (by omega) (by omega) (by omega)]; exact s4 k hk, fun c hc => by rw [ek 9 (by omega) (by omega) (by omega)]; exact s5 c hc, e16, e18, e17, fun k hk => by rw [ek 10 (by omega) (by omega) (by omega)]; exact s9 k hk⟩
    have b1 : bet a V x2 r T → B_X12_looksAt_173 Q (nI (pul a r (a 0))) (nI (cnt a V r)) s0 1 M4 := fun hb => by
      unfold B_X12_looksAt_173
      refine ⟨fun z => no (fun q => hs.mpr q.1 z), fun z => ⟨fun y => absurd y (by decide), fun _ => ?_⟩⟩
      rintro _ rfl _ rfl
      exact copy M4 mr4 g4 e6 ek e16 (hs.mp z) hb
    have b0 : ¬ bet a V x2 r T → B_X12_looksAt_173 Q (nI (pul a r (a 0))) (nI (cnt a V r)) s0 0 M4 := fun hb => by
      unfold B_X12_looksAt_173
      exact ⟨fun _ => no (fun q => hb q.2), fun _ => ⟨fun _ => no (fun q => hb q.2), fun y => absurd rfl y⟩⟩
    have b149 : ¬ cI T.2.1 < 0 → (nI (cnt a V r) = nI T.2.2.1 ∨ x2 ≠ 0) → B_X12_looksAt_149 Q (nI (pul a r (a 0))) (nI (cnt a V r)) s0 M4 := fun q1 q2 => by
      unfold B_X12_looksAt_149
      rw [e18]
      refine ⟨fun q => b0 (fun z => ?_), fun q => b1 (Or.inr (Or.inl ⟨q2, q⟩))⟩
      rcases z with z | z | z
      · exact q1 z
      · exact z.2 q
      · rcases q2 with y | y
        · exact z.1.1 y
        · exact y z.1.2
    unfold B_X12_looksAt_128
    rw [e17, e18]
    refine ⟨fun q => b1 (Or.inl q), fun q => ⟨fun q2 => b149 q (Or.inl q2), fun q2 => ⟨fun q3 => ⟨fun q4 => b0 (fun z => ?_), fun q4 => b1 (Or.inr (Or.inr ⟨⟨q2, q3⟩, q4⟩))⟩, fun q3 => b149 q (Or.inr q3)⟩⟩⟩
    rcases z with z | z | z
    · exact q z
    · rcases z.1 with y | y
      · exact q2 y
      · exact y q3
    · exact z.2 q4
  -- the windows are put back
  have back : ∀ M2, MR M2 (opA a r (a 0)) → (∀ k, k ≠ 0 → k ≠ 1 → k ≠ 5 → M2 k = M k) → (∀ j, (j < 5 ∨ 10 < j) → M2 0 j = M 0 j) → B_X12_looksAt_78 Q x2 (nI (pul a r (a 0))) (nI (cnt a V r)) 0 M2 := fun M2 mr2 ek ej => by
    unfold B_X12_looksAt_78
    intro X4 hX4
    have key : ∀ f w M4, w + f = a 0 → (∀ k, k ≠ 0 → k ≠ 1 → k ≠ 5 → M4 k = M k) → (∀ j, (j < 5 ∨ 10 < j) → M4 0 j = M 0 j) → MR M4 (opA (opA a r (a 0)) (fun k => a (12 + 4 * k + 1)) w) → X4 (nI w) M4 := by
      intro f
      induction f with
      | zero =>
        intro w M4 hw ek ej mr4
        obtain rfl : w = a 0 := by omega
        rw [opA_b] at mr4
        have J := judge M4 mr4 ⟨fun k h0 h1 h5 _ _ _ => ek k h0 h1 h5, fun j hj => ej j (by omega)⟩ (fun k hk => by rw [ek 6 (by omega) (by omega) (by omega)]; exact s2 k hk) ek (by rw [ej 16 (by omega)]; exact s6) (by rw [ej 17 (by omega)]; exact s8) (by rw [ej 18 (by omega)]; exact s7)
        apply hX4
        rw [mr4 0 (by omega), mr4 2 (by omega)]
        refine br_t (nI_le (Nat.le_refl _) (by omega)) ⟨fun q => J 1 ⟨fun _ => Or.inl q, fun _ => by decide⟩, fun q => ⟨fun q2 => J 0 ⟨fun z => absurd rfl z, fun z => ?_⟩, fun q2 => J 1 ⟨fun _ => Or.inr q2, fun _ => by decide⟩⟩⟩
        rcases z with z | z
        · exact absurd z q
        · exact absurd z q2
      | succ f ih =>
        intro w M4 hw ek ej mr4
        apply hX4
        rw [mr4 0 (by omega), opA_n (by omega), opA_n (by omega), cl_nI (by omega), show (1 : Int32) = nI 1 from rfl, m_puts (by omega), ek 7 (by omega) (by omega) (by omega), s4 w (by omega)]
        refine br_f (nI_ge (by omega) (by omega)) ⟨vp_in_nI (by omega) (by omega), ?_⟩
        rintro _ rfl
        rw [nI_add]
        have mr5 := mr4.up (12 + 4 * w + 1) (a (12 + 4 * w + 1))
        rw [opA_s (r := fun k => a (12 + 4 * k + 1))] at mr5
        exact ih (w + 1) _ (by omega) (fun k h0 h1 h5 => by rw [sf_ne h1]; exact ek k h0 h1 h5) (fun j hj => by rw [sf_ne (by omega)]; exact ej j hj) mr5
    exact key (a 0) 0 M2 (by omega) ek ej (by rw [opA_0]; exact mr2)
  have key : ∀ f w M4, w + f = a 0 → (∀ k, k ≠ 1 → M4 k = M k) → MR M4 (opA a r w) → X (nI (pul a r w)) (nI w) M4 := by
    intro f
    induction f with
    | zero =>
      intro w M4 hw ek mr4
      obtain rfl : w = a 0 := by omega
      apply hX
      have e0 : opA a r (a 0) 0 = a 0 := opA_n (by omega)
      rw [mr4 0 (by omega), e0]
      refine br_t (nI_le (Nat.le_refl _) (by omega)) (m_allContent mr4 (opA_d d (Nat.le_refl _) hr) (opA_v v d d0) (fun M5 ms => m_ones ?_ ?_))
      · have := conS_lt (opA_d d (Nat.le_refl _) hr) V
        omega
      · refine back M5 (fun k hk => by rw [ms.1 1 (by omega) (by omega)]; exact mr4 k hk) (fun k h0 h1 h5 => by rw [ms.1 k h0 h5]; exact ek k h1) (fun j hj => by rw [ms.2 j hj, ek 0 (by omega)])
    | succ f ih =>
      intro w M4 hw ek mr4
      have b := (d.2.2.1 w (by omega)).2.1
      have hrw := hr w (by omega)
      apply hX
      have e0 : opA a r w 0 = a 0 := opA_n (by omega)
      rw [mr4 0 (by omega), e0, cl_nI (by omega), ek 6 (by omega), ek 7 (by omega), s2 w (by omega), s4 w (by omega)]
      have mr5 := mr4.up (12 + 4 * w + 1) (r w)
      rw [opA_s] at mr5
      have fin := ih (w + 1) _ (by omega) (fun k h1 => by rw [sf_ne h1]; exact ek k h1) mr5
      have ep : pul a r (w + 1) = pul a r w + (r w - a (12 + 4 * w + 1)) := rfl
      rw [ep] at fin
      have st : ∀ x : Int32, x = nI (r w - a (12 + 4 * w + 1)) → B_X12_looksAt_47 Q X x2 (nI w) (nI (pul a r w)) x M4 := fun x hx => by
        unfold B_X12_looksAt_47
        rw [hx, nI_add, cl_nI (by omega), ek 6 (by omega), s2 w (by omega)]
        rintro _ rfl
        refine ⟨vp_in_nI (by omega) (by omega), ?_⟩
        rw [show (1 : Int32) = nI 1 from rfl, m_puts (by omega)]
        rintro _ rfl
        rw [nI_add]
        exact fin
      refine br_f (nI_ge (by omega) (by omega)) ⟨vp_in_nI (by omega) (by omega), vp_in_nI (by omega) (by omega), fun q => st _ ?_, fun q => ⟨vp_in_nI (by omega) (by omega), vp_in_nI (by omega) (by omega), st _ ?_⟩⟩
      · by_cases q2 : r w ≤ a (12 + 4 * w + 1)
        · rw [Nat.sub_eq_zero_of_le q2]
          rfl
        · exact absurd q (nI_ge (by omega) (by omega))
      · by_cases q2 : r w ≤ a (12 + 4 * w + 1)
        · exact absurd (nI_le q2 (by omega)) q
        · exact sb_nI (by omega)
  exact key (a 0) 0 M (by omega) (fun k _ => rfl) (by rw [opA_0]; exact s1)
theorem leaf_look {a : Nat → Nat} {V : Vt} {Q : Mem → Prop} {x2 : Int32} (d : DOK a) (v : VOK a V) : ∀ X, GX Q 1 x2 X → ∀ r l T M, SS a (a 0) r l (a 0) T M → (∀ k, k < a 0 → r k ≤ 9) → (∀ M', Gf M M' → SS a (a 0) r l (a 0) (lfM a V x2 r T) M' → X (cI (a 0)) M') → X (nI (a 0)) M := fun X hX r l T M s hr k => by
  have d0 := d.1.1
  apply hX
  rw [s.1 0 (by omega)]
  refine br_f (nI_pos (by omega)) ⟨fun z => absurd rfl z, fun _ => ?_⟩
  rw [s.2.2.2.2.2.1, nI_1]
  rintro _ rfl _ rfl
  refine ⟨fun z => absurd z (by decide), fun _ => ?_⟩
  refine m_look (l := l) (T := (T.1 + 1, T.2)) d v ⟨fun k hk => by rw [sf_ne (by omega)]; exact s.1 k hk, fun k hk => by rw [sf_ne (by omega)]; exact s.2.1 k hk, fun k hk => by rw [sf_ne (by omega)]; exact s.2.2.1 k hk, fun k hk => by rw [sf_ne (by omega)]; exact s.2.2.2.1 k hk, fun k hk => by rw [sf_ne (by omega)]; exact s.2.2.2.2.1 k hk, sf_e rfl rfl, by rw [sf_j (by omega)]; exact s.2.2.2.2.2.2.1, by rw [sf_j (by omega)]; exact s.2.2.2.2.2.2.2.1, fun k hk => by rw [sf_ne (by omega)]; exact s.2.2.2.2.2.2.2.2 k hk⟩ hr (fun M' g' s' => ?_)
  rw [add_m1]
  rintro _ rfl
  exact k M' (Gf.tr ⟨fun k h0 _ _ _ _ _ => sf_ne h0, fun j hj => sf_j (by omega)⟩ g') s'
