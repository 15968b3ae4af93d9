/-! ===== lodgers: what they want, whether they are CONTENT ===== -/
def lst (k m : Nat) : Nat := if k = 1 then 0 else if k = 2 then 5 + m / 2 else if k = 4 then 4 else if k = 5 then 5 + m / 2 else 2
def mst (k m : Nat) : Nat := if k = 1 then 3 + m else if k = 2 then 99 else if k = 4 then 4 + m else if k = 5 then 99 else 9 + m
def stg (k : Nat) : Nat := if k = 5 then 2 else 1
theorem lst_le (k : Nat) {m : Nat} (hm : m ≤ 9) : lst k m ≤ 9 := by
  unfold lst
  split
  · omega
  · split
    · omega
    · split
      · omega
      · split <;> omega
theorem mst_le (k : Nat) {m : Nat} (hm : m ≤ 9) : mst k m ≤ 99 := by
  unfold mst
  split
  · omega
  · split
    · omega
    · split
      · omega
      · split <;> omega
theorem lm_le (k : Nat) {m : Nat} (hm : m ≤ 9) : lst k m ≤ mst k m := by
  unfold lst mst
  split
  · omega
  · split
    · omega
    · split
      · omega
      · split <;> omega
def bI (b : Bool) : Int32 := if b then 1 else 0
theorem bI01 (b : Bool) : bI b = 0 ∨ bI b = 1 := by cases b <;> decide
def ctB (k m h air : Nat) : Bool :=
  if k = 3 then (decide (lst k m ≤ air) && decide (air ≤ mst k m)) || (decide (h < 6) || decide (20 ≤ h))
  else if k = 6 then !((decide (lst k m ≤ air) && decide (air ≤ mst k m)) || (decide (h < 6) || decide (20 ≤ h)))
  else decide (lst k m ≤ air) && decide (air ≤ mst k m)
theorem k7 {k : Nat} (h : k ≤ 6) : k = 0 ∨ k = 1 ∨ k = 2 ∨ k = 3 ∨ k = 4 ∨ k = 5 ∨ k = 6 := by omega
theorem half5 {m : Nat} (hm : m ≤ 9) : (5 : Int32) + nI m / 2 = nI (5 + m / 2) := by
  rw [show (2 : Int32) = nI 2 from rfl, pk_div (by omega) (by omega) (by omega), show (5 : Int32) = nI 5 from rfl, nI_add]
theorem kd15 {k : Nat} (hk : k ≤ 6) : isKd_X3 (nI (15 + k)) := by
  rcases k7 hk with rfl | rfl | rfl | rfl | rfl | rfl | rfl
  · exact kd_X3_15
  · exact Or.inr (Or.inl rfl)
  · exact Or.inr (Or.inr (Or.inl rfl))
  · exact Or.inr (Or.inr (Or.inr (Or.inl rfl)))
  · exact Or.inr (Or.inr (Or.inr (Or.inr (Or.inl rfl))))
  · exact Or.inr (Or.inr (Or.inr (Or.inr (Or.inr (Or.inl rfl)))))
  · exact Or.inr (Or.inr (Or.inr (Or.inr (Or.inr (Or.inr rfl)))))
theorem c_least {K k m : Nat} {M : Mem} {Q : Int32 → Prop} (hk : k ≤ 6) (hm : m ≤ 9) (hQ : Q (nI (lst k m))) : P_L_X3_leastAir K M (nI (15 + k)) (nI m) Q := by
  have e := half5 hm
  unfold P_L_X3_leastAir
  rcases k7 hk with rfl | rfl | rfl | rfl | rfl | rfl | rfl <;> refine ⟨fun q => ?_, fun q => ?_, fun q => ?_, fun q => ?_, fun q => ?_, fun q => ?_, fun q => ?_⟩ <;> first | exact absurd q (by decide) | (unfold P_X7_leastAir; rw [e]; exact hQ) | exact hQ
theorem c_most {K k m : Nat} {M : Mem} {Q : Int32 → Prop} (hk : k ≤ 6) (hm : m ≤ 9) (hQ : Q (nI (mst k m))) : P_L_X3_mostAir K M (nI (15 + k)) (nI m) Q := by
  have e3 : (3 : Int32) + nI m = nI (3 + m) := nI_add 3 m
  have e9 : (9 : Int32) + nI m = nI (9 + m) := nI_add 9 m
  have e4 : (3 : Int32) + nI m + 1 = nI (4 + m) := by rw [e3, nI_1]; congr 1; omega
  unfold P_L_X3_mostAir
  rcases k7 hk with rfl | rfl | rfl | rfl | rfl | rfl | rfl <;> refine ⟨fun q => ?_, fun q => ?_, fun q => ?_, fun q => ?_, fun q => ?_, fun q => ?_, fun q => ?_⟩ <;> first | exact absurd q (by decide) | (show Q ((3 : Int32) + nI m + 1); rw [e4]; exact hQ) | (unfold P_X0_mostAir; rw [e3]; exact hQ) | (unfold P_X3_mostAir; rw [e9]; exact hQ) | exact hQ
theorem c_strength {K k : Nat} {M : Mem} {Q : Int32 → Prop} (hk : k ≤ 6) (hQ : Q (nI (stg k))) : P_L_X3_strength K M (nI (15 + k)) Q := by
  unfold P_L_X3_strength
  rcases k7 hk with rfl | rfl | rfl | rfl | rfl | rfl | rfl <;> refine ⟨fun q => ?_, fun q => ?_, fun q => ?_, fun q => ?_, fun q => ?_, fun q => ?_, fun q => ?_⟩ <;> first | exact absurd q (by decide) | exact hQ
def asl (b : Bool) (h : Nat) : Bool := b || (decide (h < 6) || decide (20 ≤ h))
theorem c_asleep {K h : Nat} {b : Bool} {M : Mem} {g : Int32} {Q : Int32 → Prop} (hh : h ≤ 23) (hQ : Q (bI (asl b h))) : P_X6_pleased K M g (bI b) (nI h) Q := by
  unfold P_X6_pleased
  unfold asl at hQ
  refine ⟨fun n0 => ?_, fun n0 => ?_⟩
  · have : b = true := by cases b; exact absurd rfl n0; rfl
    subst this
    exact hQ
  · have : b = false := by cases b; rfl; exact absurd n0 (by decide)
    subst this
    simp (disch := omega) only [i_lit, lt_nI]
    refine ⟨fun q => ?_, fun q => ⟨fun q2 => ?_, fun q2 => ?_⟩⟩
    · rw [decide_eq_true q] at hQ
      exact hQ
    · rw [decide_eq_false q, decide_eq_false (by omega)] at hQ
      exact hQ
    · rw [decide_eq_true (show 20 ≤ h by omega), Bool.or_true, Bool.or_true] at hQ
      exact hQ
theorem c_pleased {K k h : Nat} {b : Bool} {M : Mem} {Q : Int32 → Prop} (hk : k ≤ 6) (hh : h ≤ 23) (hQ : Q (bI (if k = 3 then asl b h else if k = 6 then !(asl b h) else b))) : P_L_X3_pleased K M (nI (15 + k)) (bI b) (nI h) Q := by
  unfold P_L_X3_pleased
  rcases k7 hk with rfl | rfl | rfl | rfl | rfl | rfl | rfl <;> refine ⟨fun q => ?_, fun q => ?_, fun q => ?_, fun q => ?_, fun q => ?_, fun q => ?_, fun q => ?_⟩ <;> first | exact absurd q (by decide) | exact ⟨bI01 b, hQ⟩ | exact c_asleep hh hQ | skip
  unfold P_X8_pleased
  refine c_asleep hh ?_
  rw [if_neg (by omega), if_pos rfl] at hQ
  cases h1 : asl b h with
  | true =>
    rw [h1] at hQ
    exact ⟨fun _ => hQ, fun q => absurd q (by decide)⟩
  | false =>
    rw [h1] at hQ
    exact ⟨fun q => absurd rfl q, fun _ => hQ⟩
theorem c_isContentBy {K g l air : Nat} {M : Mem} {a : Nat → Nat} {Q : Int32 → Prop} (h : HR g M a) (d : DOK a) (hl : l < a 2) (hair : air ≤ 99) (hQ : Q (bI (ctB (a (44 + 3 * l)) (a (44 + 3 * l + 1)) (a 3) air))) : P_X2_isContentBy K M g (nI l) (nI air) Q := by
  have dl := d.2.2.2.1 l hl
  have hl6 := d.1.2.2
  have e := h.2.2.2.1 l hl
  have hh := d.2.1.1
  have h1 := lst_le (a (44 + 3 * l)) dl.2.1
  have h2 := mst_le (a (44 + 3 * l)) dl.2.1
  have hin : vp_in (nI l) 6 := vp_in_nI (by omega) (by omega)
  have fin : ∀ b : Bool, b = (decide (lst (a (44 + 3 * l)) (a (44 + 3 * l + 1)) ≤ air) && decide (air ≤ mst (a (44 + 3 * l)) (a (44 + 3 * l + 1)))) → B_X2_isContentBy_40 K g M Q (nI (15 + a (44 + 3 * l))) (bI b) := by
    intro b hb
    unfold B_X2_isContentBy_40
    rw [h.2.1.1]
    refine c_pleased dl.1 (by omega) ⟨bI01 _, ?_⟩
    unfold ctB at hQ
    rw [← hb] at hQ
    exact hQ
  unfold P_X2_isContentBy
  refine ⟨hin, ?_⟩
  rw [cl_nI (by omega), e.1, e.2.1]
  rintro _ rfl
  refine ⟨kd15 dl.1, hin, c_least dl.1 dl.2.1 ?_⟩
  rw [lt_nI (by omega) (by omega)]
  refine ⟨fun q => ?_, fun q => ⟨hin, c_most dl.1 dl.2.1 ?_⟩⟩
  · exact fin false (by rw [decide_eq_false (show ¬ lst (a (44 + 3 * l)) (a (44 + 3 * l + 1)) ≤ air by omega)]; rfl)
  · rw [lt_nI (by omega) (by omega)]
    refine ⟨fun q2 => ?_, fun q2 => ?_⟩
    · exact fin false (by rw [decide_eq_false (show ¬ air ≤ mst (a (44 + 3 * l)) (a (44 + 3 * l + 1)) by omega), Bool.and_false])
    · exact fin true (by rw [decide_eq_true (show lst (a (44 + 3 * l)) (a (44 + 3 * l + 1)) ≤ air by omega), decide_eq_true (show air ≤ mst (a (44 + 3 * l)) (a (44 + 3 * l + 1)) by omega)]; rfl)
theorem oin3_le {a : Nat → Nat} (d : DOK a) {x y z : Nat} (hxy : x ≠ y) (hxz : x ≠ z) (hyz : y ≠ z) : oin a x + (oin a y + oin a z) ≤ 72 := by
  have key : ∀ w, w ≤ a 0 → oinP a x w + (oinP a y w + oinP a z w) ≤ 9 * w := by
    intro w
    induction w with
    | zero => intro _; exact Nat.le_refl _
    | succ w ih =>
      intro hw
      have i1 := ih (by omega)
      have b := (d.2.2.1 w (by omega)).2.1
      show oinP a x w + (if a (12 + 4 * w) + 1 = x then a (12 + 4 * w + 1) else 0) + (oinP a y w + (if a (12 + 4 * w) + 1 = y then a (12 + 4 * w + 1) else 0) + (oinP a z w + (if a (12 + 4 * w) + 1 = z then a (12 + 4 * w + 1) else 0))) ≤ 9 * (w + 1)
      by_cases q1 : a (12 + 4 * w) + 1 = x
      · rw [if_pos q1, if_neg (by omega), if_neg (by omega)]
        omega
      · rw [if_neg q1]
        by_cases q2 : a (12 + 4 * w) + 1 = y
        · rw [if_pos q2, if_neg (by omega)]
          omega
        · rw [if_neg q2]
          split <;> omega
  have := key (a 0) (Nat.le_refl _)
  have := d.1.1
  unfold oin
  omega
/-- the AIR of a room -/
def airR (a : Nat → Nat) (V : Vt) (r : Nat) : Nat := airV a V (oin a (r + 1)) (oin a r + oin a (r + 2))
theorem airR_le (a : Nat → Nat) (V : Vt) (r : Nat) : airR a V r ≤ 99 := airV_le _ _ _ _
def conL (a : Nat → Nat) (V : Vt) (l : Nat) : Bool := ctB (a (44 + 3 * l)) (a (44 + 3 * l + 1)) (a 3) (airR a V (a (44 + 3 * l + 2)))
theorem cI_up (r : Nat) : nI r + 1 = cI (r + 2) := by rw [nI_1, cI_s]
theorem c_beside {K g r : Nat} {M : Mem} {a : Nat → Nat} {Q : Int32 → Prop} (h : HR g M a) (d : DOK a) (hr : r ≤ 8) (hQ : Q (nI (oin a r + oin a (r + 2)))) : P_X2_openBeside K M g (nI r) Q := by
  unfold P_X2_openBeside
  refine c_openIn (x := r) h d (by omega) ?_
  rw [cI_up]
  refine c_openIn h d (by omega) ?_
  rw [nI_add]
  exact hQ
theorem c_openInR {K g r : Nat} {M : Mem} {a : Nat → Nat} {Q : Int32 → Prop} (h : HR g M a) (d : DOK a) (hr : r ≤ 8) (hQ : Q (nI (oin a (r + 1)))) : P_X2_openIn K M g (nI r) Q := by
  rw [← cI_s]
  exact c_openIn h d (by omega) hQ
theorem c_airOf {K g t r : Nat} {F : Ft} {M : Mem} {a : Nat → Nat} {V : Vt} {Q : Int32 → Mem → Prop} (hg : isH g) (h : HR g M a) (hr : TR g K t F M a V) (c : CX K t F M) (d : DOK a) (hr8 : r ≤ 8) (hQ : ∀ M' : Mem, Cs M M' → CX K t F M' → Q (nI (airR a V r)) M') : P_X2_airOf K M g (nI r) Q := by
  unfold P_X2_airOf
  exact c_openInR h d hr8 (c_beside h d hr8 (c_airBy hg h hr c d (oin3_le d (by omega) (by omega) (by omega)) hQ))
theorem Cs.HR {g : Nat} {M M' : Mem} {a : Nat → Nat} (s : Cs M M') (hg : isH g) (h : HR g M a) : HR g M' a := h.keep (fun k k1 k2 => s k (by rcases hg with rfl | rfl | rfl <;> omega) (fun j => by rcases hg with rfl | rfl | rfl <;> omega))
theorem Cs.TR {g K t : Nat} {F : Ft} {M M' : Mem} {a : Nat → Nat} {V : Vt} (s : Cs M M') (hg : isH g) (h : TR g K t F M a V) : TR g K t F M' a V := h.keep (s _ (by rcases hg with rfl | rfl | rfl <;> omega) (fun j => by rcases hg with rfl | rfl | rfl <;> omega)) (fun k k1 k2 => s k (by omega) k2)
theorem c_isContent {K g t l : Nat} {F : Ft} {M : Mem} {a : Nat → Nat} {V : Vt} {Q : Int32 → Mem → Prop} (hg : isH g) (h : HR g M a) (hr : TR g K t F M a V) (c : CX K t F M) (d : DOK a) (hl : l < a 2) (hQ : ∀ M' : Mem, Cs M M' → CX K t F M' → Q (bI (conL a V l)) M') : P_X2_isContent K M g (nI l) Q := by
  have dl := d.2.2.2.1 l hl
  have hl6 := d.1.2.2
  have e := h.2.2.2.1 l hl
  have hin : vp_in (nI l) 6 := vp_in_nI (by omega) (by omega)
  unfold P_X2_isContent
  refine ⟨hin, ?_⟩
  rw [cl_nI (by omega), e.2.2]
  refine c_openInR h d dl.2.2 ⟨hin, c_beside h d dl.2.2 (c_airBy hg h hr c d (oin3_le d (by omega) (by omega) (by omega)) (fun M' s c' => ?_))⟩
  exact c_isContentBy (s.HR hg h) d hl (airV_le _ _ _ _) ⟨bI01 _, hQ M' s c'⟩
