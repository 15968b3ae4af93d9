theorem w_lt (a b : Int32) : a.toInt64 < b.toInt64 ↔ a < b := by
  rw [Int64.lt_iff_toInt_lt, Int32.lt_iff_toInt_lt, Int32.toInt_toInt64, Int32.toInt_toInt64]
theorem m_pullsOf {l : Nat} {M : Mem} {a : Nat → Nat} {Q : Int32 → Prop} (h : MR M a) (d : DOK a) (hl : l < a 2) (hQ : Q (nI (stg (a (44 + 3 * l))))) : P_X12_pullsOf M (nI l) Q := by
  have dl := d.2.2.2.1 l hl
  have hl6 := d.1.2.2
  unfold P_X12_pullsOf
  rw [show (0 : Int32) = nI 0 from rfl, m_of h (by omega), Nat.add_zero]
  unfold stg at hQ
  simp (disch := omega) only [i_lit, eq_nI]
  refine ⟨fun q => ?_, fun q => ?_⟩
  · rw [if_neg q] at hQ; exact hQ
  · rw [if_pos q] at hQ; exact hQ
theorem m_openInR {r : Nat} {M : Mem} {a : Nat → Nat} {Q : Int32 → Prop} (h : MR M a) (d : DOK a) (hr : r ≤ 8) (hQ : Q (nI (oin a (r + 1)))) : P_X12_openIn M (nI r) Q := by
  rw [← cI_s]
  exact m_openIn h d (by omega) hQ
theorem m_airOf {r : Nat} {M : Mem} {a : Nat → Nat} {V : Vt} {Q : Int32 → Mem → Prop} (h : MR M a) (d : DOK a) (v : VOK a V) (hr : r ≤ 8) (hQ : ∀ M' : Mem, Ms M M' → Q (nI (airR a V r)) M') : P_X12_airOf M (nI r) Q := by
  unfold P_X12_airOf
  refine m_openInR h d hr (m_openIn (x := r) h d (by omega) ?_)
  rw [cI_up]
  refine m_openIn h d (by omega) ?_
  rw [nI_add, h 3 (by omega)]
  refine m_textGives (u := 0) (by omega) h d v (fun M' s => ?_)
  have b := oin3_le d (x := r + 1) (y := r) (z := r + 2) (by omega) (by omega) (by omega)
  have e : lawV a V 0 (nI (oin a (r + 1))) (nI (oin a r + oin a (r + 2))) (nI (a 3)) = nI (airR a V r) := by
    unfold lawV airR airV
    rw [if_pos rfl]
    by_cases q : a 90 = 0
    · rw [if_pos q, if_pos q, show (2 : Int32) = nI 2 from rfl, pk_mul, pk_div (by omega) (by omega) (by omega), nI_add]
    · rw [if_neg q, if_neg q]
  rw [e]
  exact hQ M' s
theorem m_isContent {l : Nat} {M : Mem} {a : Nat → Nat} {V : Vt} {Q : Int32 → Mem → Prop} (h : MR M a) (d : DOK a) (v : VOK a V) (hl : l < a 2) (hQ : ∀ M' : Mem, Ms M M' → Q (bI (conL a V l)) M') : P_X12_isContent M (nI l) Q := by
  have dl := d.2.2.2.1 l hl
  have hl6 := d.1.2.2
  have hh := d.2.1.1
  unfold P_X12_isContent
  rw [show (2 : Int32) = nI 2 from rfl, show (0 : Int32) = nI 0 from rfl, m_of h (by omega)]
  refine m_airOf h d v dl.2.2 (fun M' s => ?_)
  have h' := h.ms s
  rw [m_of h' (by omega), Nat.add_zero]
  refine m_leastOf h' d hl (m_mostOf h' d hl ?_)
  have h1 := lst_le (a (44 + 3 * l)) dl.2.1
  have h2 := mst_le (a (44 + 3 * l)) dl.2.1
  have ha := airR_le a V (a (44 + 3 * l + 2))
  have q := hQ M' s
  unfold conL ctB at q
  generalize airR a V (a (44 + 3 * l + 2)) = air at *
  have fin : ∀ b b2 : Bool, b = (decide (lst (a (44 + 3 * l)) (a (44 + 3 * l + 1)) ≤ air) && decide (air ≤ mst (a (44 + 3 * l)) (a (44 + 3 * l + 1)))) → b2 = (b || (decide (a 3 < 6) || decide (20 ≤ a 3))) → B_X12_isContent_69 Q (nI (a (44 + 3 * l))) (bI b) (bI b2) M' := by
    intro b b2 hb hb2
    rw [← hb, ← hb2] at q
    unfold B_X12_isContent_69
    simp (disch := omega) only [i_lit, eq_nI]
    refine ⟨fun n3 => ⟨fun n6 => ⟨bI01 b, ?_⟩, fun n6 => ?_⟩, fun n3 => ⟨bI01 b2, ?_⟩⟩
    · rw [if_neg n3, if_neg n6] at q
      exact q
    · rw [if_neg n3, if_pos n6] at q
      cases b2 with
      | true => exact ⟨fun _ => q, fun z => absurd z (by decide)⟩
      | false => exact ⟨fun z => absurd rfl z, fun _ => q⟩
    · rw [if_pos n3] at q
      exact q
  have hin : ∀ b : Bool, b = (decide (lst (a (44 + 3 * l)) (a (44 + 3 * l + 1)) ≤ air) && decide (air ≤ mst (a (44 + 3 * l)) (a (44 + 3 * l + 1)))) → (¬ bI b = 0 → B_X12_isContent_69 Q (nI (a (44 + 3 * l))) (bI b) 1 M') ∧ (bI b = 0 → ((M' 1 3 < 6 → B_X12_isContent_69 Q (nI (a (44 + 3 * l))) (bI b) 1 M') ∧ (¬ M' 1 3 < 6 → ((M' 1 3 < 20 → B_X12_isContent_69 Q (nI (a (44 + 3 * l))) (bI b) 0 M') ∧ (¬ M' 1 3 < 20 → B_X12_isContent_69 Q (nI (a (44 + 3 * l))) (bI b) 1 M'))))) := by
    intro b hb
    rw [h' 3 (by omega)]
    refine ⟨fun z => ?_, fun z => ?_⟩
    · have : b = true := by cases b; exact absurd rfl z; rfl
      subst this
      exact fin true true hb rfl
    · have : b = false := by cases b; rfl; exact absurd z (by decide)
      subst this
      have g6 : nI (a 3) < 6 ↔ a 3 < 6 := lt_nI (b := 6) (by omega) (by omega)
      have g20 : nI (a 3) < 20 ↔ a 3 < 20 := lt_nI (b := 20) (by omega) (by omega)
      rw [g6, g20]
      refine ⟨fun z => ?_, fun z => ⟨fun z2 => ?_, fun z2 => ?_⟩⟩
      · exact fin false true hb (by rw [decide_eq_true z]; rfl)
      · exact fin false false hb (by rw [decide_eq_false z, decide_eq_false (by omega)]; rfl)
      · exact fin false true hb (by rw [decide_eq_true (show 20 ≤ a 3 by omega), Bool.or_true]; rfl)
  unfold P_X12_in
  have k1 : lg_cmp (nI air).toInt64 (nI (lst (a (44 + 3 * l)) (a (44 + 3 * l + 1)))).toInt64 < 0 ↔ air < lst (a (44 + 3 * l)) (a (44 + 3 * l + 1)) := by
    rw [lg_cmp_lt, w_lt, lt_nI (by omega) (by omega)]
  have k2 : 0 < lg_cmp (nI air).toInt64 (nI (mst (a (44 + 3 * l)) (a (44 + 3 * l + 1)))).toInt64 ↔ mst (a (44 + 3 * l)) (a (44 + 3 * l + 1)) < air := by
    rw [lg_cmp_gt, w_lt, lt_nI (by omega) (by omega)]
  rw [k1, k2]
  refine ⟨fun z => hin false (by rw [decide_eq_false (by omega)]; rfl), fun z => ⟨fun z2 => hin false (by rw [decide_eq_false (show ¬ air ≤ mst (a (44 + 3 * l)) (a (44 + 3 * l + 1)) by omega), Bool.and_false]), fun z2 => hin true (by rw [decide_eq_true (show lst (a (44 + 3 * l)) (a (44 + 3 * l + 1)) ≤ air by omega), decide_eq_true (show air ≤ mst (a (44 + 3 * l)) (a (44 + 3 * l + 1)) by omega)]; rfl)⟩⟩
theorem m_allContent {M : Mem} {a : Nat → Nat} {V : Vt} {Q : Int32 → Mem → Prop} (h : MR M a) (d : DOK a) (v : VOK a V) (hQ : ∀ M' : Mem, Ms M M' → Q (nI (conS a V)) M') : P_X12_allContent M Q := by
  unfold P_X12_allContent B_X12_allContent_4
  intro X hX
  have hl6 := d.1.2.2
  have key : ∀ f l (M' : Mem), l + f = a 2 → Ms M M' → X (nI (setP (conL a V) l)) (nI l) M' := by
    intro f
    induction f with
    | zero =>
      intro l M' hl s
      obtain rfl : l = a 2 := by omega
      apply hX
      rw [(h.ms s) 2 (by omega)]
      exact br_t (nI_le (Nat.le_refl _) (by omega)) (hQ M' s)
    | succ f ih =>
      intro l M' hl s
      have h' := h.ms s
      have hsl := setP_lt (conL a V) l
      apply hX
      rw [h' 2 (by omega)]
      refine br_f (nI_ge (by omega) (by omega)) (m_isContent h' d v (by omega) (fun M1 s1 => ?_))
      have n := ih (l + 1) M1 (by omega) (s.tr s1)
      have e : setP (conL a V) (l + 1) = setP (conL a V) l + if conL a V l then 2 ^ l else 0 := rfl
      unfold B_X12_allContent_30
      refine ⟨fun q => ?_, fun q => ?_⟩
      · have : conL a V l = false := by cases hc : conL a V l; rfl; rw [hc] at q; exact absurd q (by decide)
        rintro _ rfl _ rfl
        rw [e, this] at n
        rw [nI_1, Int32.or_zero]
        exact n
      · have : conL a V l = true := by cases hc : conL a V l; rw [hc] at q; exact absurd rfl q; rfl
        rintro _ rfl _ rfl
        rw [e, this] at n
        rw [nI_1, or_bit hsl (by omega)]
        exact n
  exact key (a 2) 0 M (by omega) Ms.rf
theorem m_farOf {l : Nat} {M : Mem} {a : Nat → Nat} {V : Vt} {Q : Int32 → Mem → Prop} (h : MR M a) (d : DOK a) (v : VOK a V) (hl : l < a 2) (hQ : ∀ M' : Mem, Ms M M' → Q (nI (farV (a (44 + 3 * l)) (a (44 + 3 * l + 1)) (airR a V (a (44 + 3 * l + 2))))) M') : P_X12_farOf M (nI l) Q := by
  have dl := d.2.2.2.1 l hl
  have hl6 := d.1.2.2
  unfold P_X12_farOf
  rw [show (2 : Int32) = nI 2 from rfl, m_of h (by omega)]
  refine m_airOf h d v dl.2.2 (fun M' s => ?_)
  have h' := h.ms s
  have h1 := lst_le (a (44 + 3 * l)) dl.2.1
  have h2 := mst_le (a (44 + 3 * l)) dl.2.1
  have ha := airR_le a V (a (44 + 3 * l + 2))
  have q := hQ M' s
  unfold farV at q
  generalize airR a V (a (44 + 3 * l + 2)) = air at *
  refine m_leastOf h' d hl ?_
  rw [le_nI (by omega) (by omega)]
  refine ⟨fun z => m_mostOf h' d hl ?_, fun z => m_leastOf h' d hl ?_⟩
  · rw [le_nI (by omega) (by omega)]
    refine ⟨fun z2 => ?_, fun z2 => m_mostOf h' d hl ?_⟩
    · rw [if_neg (by omega), if_neg (by omega)] at q
      exact q
    · rw [if_neg (by omega), if_pos (by omega)] at q
      rw [sb_nI (by omega)]
      exact q
  · rw [if_pos (by omega)] at q
    rw [sb_nI (by omega)]
    exact q
