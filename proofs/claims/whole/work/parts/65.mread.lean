/-! ===== the model's reader keeps to the grammar ===== -/
def Fm (M M' : Mem) : Prop := (∀ k, k ≠ 0 → M' k = M k) ∧ ∀ j, j ≠ 6 → j ≠ 8 → j ≠ 9 → M' 0 j = M 0 j
theorem Fm.rf {M : Mem} : Fm M M := ⟨fun _ _ => rfl, fun _ _ _ _ => rfl⟩
theorem Fm.tr {M M' M'' : Mem} (h : Fm M M') (h' : Fm M' M'') : Fm M M'' := ⟨fun k h0 => (h'.1 k h0).trans (h.1 k h0), fun j h6 h8 h9 => (h'.2 j h6 h8 h9).trans (h.2 j h6 h8 h9)⟩
theorem Fm.sf {M : Mem} {j : Nat} {v : Int32} (hj : j = 6 ∨ j = 8 ∨ j = 9) : Fm M (sf M 0 j v) := ⟨fun k h0 => sf_ne h0, fun i h6 h8 h9 => sf_j (by omega)⟩
def MS (base n u : Nat) (bs : Nat → Nat) (p O : Nat) (M : Mem) : Prop := (M 0 5 = nI base ∧ M 0 6 = nI p ∧ M 0 7 = nI n ∧ M 0 8 = -1 ∧ M 0 9 = nI O ∧ M 0 10 = nI u) ∧ ∀ i, i < n → M 1 (base + i) = nI (bs i)
section MR1
variable {base n u O p : Nat} {bs : Nat → Nat} {M : Mem}
theorem MS.at (h : MS base n u bs p O M) (q : Nat) : MS base n u bs q O (sf M 0 6 (nI q)) := ⟨⟨by rw [sf_j (by omega)]; exact h.1.1, sf_e rfl rfl, by rw [sf_j (by omega)]; exact h.1.2.2.1, by rw [sf_j (by omega)]; exact h.1.2.2.2.1, by rw [sf_j (by omega)]; exact h.1.2.2.2.2.1, by rw [sf_j (by omega)]; exact h.1.2.2.2.2.2⟩, fun i hi => by rw [sf_ne (by omega)]; exact h.2 i hi⟩
theorem MS.op (h : MS base n u bs p O M) (O' : Nat) : MS base n u bs p O' (sf M 0 9 (nI O')) := ⟨⟨by rw [sf_j (by omega)]; exact h.1.1, by rw [sf_j (by omega)]; exact h.1.2.1, by rw [sf_j (by omega)]; exact h.1.2.2.1, by rw [sf_j (by omega)]; exact h.1.2.2.2.1, sf_e rfl rfl, by rw [sf_j (by omega)]; exact h.1.2.2.2.2.2⟩, fun i hi => by rw [sf_ne (by omega)]; exact h.2 i hi⟩
def hvB (n : Nat) (bs : Nat → Nat) (p : Nat) : Int32 := if p < n then nI (bs p) else -1
theorem m_here {R : Int32 → Prop} (h : MS base n u bs p O M) (hn : n ≤ 50) (hbn : base + n ≤ 264) (hp : p ≤ 50) (q : R (hvB n bs p)) : P_X12_here M R := by
  unfold hvB at q
  unfold P_X12_here
  rw [h.1.2.2.1, h.1.2.1, h.1.2.2.2.1]
  by_cases c : p < n
  · rw [if_pos c] at q
    rw [h.1.1, nI_add, cl_nI (by omega), h.2 p c]
    exact br_f (nI_ge c (by omega)) (br_f (by decide) ⟨vp_in_nI (by omega) (by omega), q⟩)
  · rw [if_neg c] at q
    exact br_t (nI_le (by omega) (by omega)) q
theorem m_hereF {R : Int32 → Prop} {f : Nat} (h : M 0 8 = nI f) (hf : f ≤ 50) (q : R (-1)) : P_X12_here M R := by
  unfold P_X12_here
  rw [h]
  exact ⟨fun _ => q, fun _ => br_t (nI_pos' (by omega)) q⟩
theorem hv_e {c : Nat} (hb : ∀ i, i < n → bs i ≤ 255) (hc : c ≤ 255) : hvB n bs p = nI c ↔ p < n ∧ bs p = c := by
  unfold hvB
  by_cases q : p < n
  · rw [if_pos q]
    have := hb p q
    rw [eq_nI (by omega) (by omega)]
    exact ⟨fun e => ⟨q, e⟩, fun e => e.2⟩
  · rw [if_neg q]
    constructor
    · intro e
      have e := congrArg Int32.toInt e
      rw [nI_toInt (by omega)] at e
      have : (-1 : Int32).toInt = -1 := rfl
      omega
    · intro e
      exact absurd e.1 q
theorem m_wrong {Q : Int32 → Mem → Prop} (h : MS base n u bs p O M) (q : Q 0 (sf M 0 8 (nI p))) : P_X12_wrong M Q := by
  unfold P_X12_wrong
  rw [h.1.2.2.2.1, h.1.2.1]
  refine br_f (by decide) ?_
  rintro _ rfl _ rfl
  exact q
theorem m_wrongF {Q : Int32 → Mem → Prop} {f : Nat} (h : M 0 8 = nI f) (hf : f ≤ 50) (q : ∀ M', Fm M M' → M' 0 8 = nI f → Q 0 M') : P_X12_wrong M Q := by
  unfold P_X12_wrong
  rw [h]
  refine br_t (nI_pos' (by omega)) ?_
  rintro _ rfl _ rfl
  exact q _ (Fm.sf (by omega)) (sf_e rfl rfl)
theorem m_takes {c : Nat} {Q : Int32 → Mem → Prop} (h : MS base n u bs p O M) (hn : n ≤ 50) (hbn : base + n ≤ 264) (hp : p ≤ 50) (hb : ∀ i, i < n → bs i ≤ 255) (hc : c ≤ 255) (q1 : p < n → bs p = c → Q (nI 1) (sf M 0 6 (nI (p + 1)))) (q0 : ¬ (p < n ∧ bs p = c) → Q (nI 0) M) : P_X12_takes M (nI c) Q := by
  unfold P_X12_takes
  refine m_here h hn hbn hp ?_
  rw [hv_e hb hc, h.1.2.1]
  refine ⟨fun e => ?_, fun e => q0 e⟩
  rintro _ rfl _ rfl
  rw [nI_1]
  exact q1 e.1 e.2
theorem m_takesF {c f : Nat} {Q : Int32 → Mem → Prop} (h : M 0 8 = nI f) (hf : f ≤ 50) (hc : c ≤ 255) (q : Q (nI 0) M) : P_X12_takes M (nI c) Q := by
  unfold P_X12_takes
  refine m_hereF h hf ⟨fun e => ?_, fun _ => q⟩
  have e := congrArg Int32.toInt e
  rw [nI_toInt (by omega)] at e
  have : (-1 : Int32).toInt = -1 := rfl
  omega
end MR1
def ML (base n u : Nat) (bs : Nat → Nat) (O : Nat) (g : Mem → (Int32 → Mem → Prop) → Prop) (sub : Nat → Option V3 × Nat) : Prop := ∀ p M Q, p ≤ n → MS base n u bs p O M →
  (∀ f, sub p = (none, f) → (∀ M' w, Fm M M' → M' 0 8 = nI f → Q w M') → g M Q) ∧
  (∀ v q, sub p = (some v, q) → (∀ M', Fm M M' → MS base n u bs q O M' → Q (v (M 5 0) (M 5 1) (M 5 2)) M') → g M Q)
/-- what a loop over operators of one level does -/
def LPm (base n u : Nat) (bs : Nat → Nat) (O l : Nat) (g : Mem → (Int32 → Mem → Prop) → Prop) (Q : Int32 → Mem → Prop) (X : Int32 → Mem → Prop) : Prop :=
  (∀ v1 M1 q, q < n → MS base n u bs q O M1 → lvl (bs q) = l → g (sf M1 0 6 (nI (q + 1))) (fun v8 M9 => X (cjoin (nI (bs q)) v1 v8) M9) → X v1 M1) ∧
  (∀ v1 M1 q, q ≤ n → MS base n u bs q O M1 → (q < n → lvl (bs q) ≠ l) → Q v1 M1 → X v1 M1) ∧
  (∀ v1 M1 f, f ≤ 50 → M1 0 8 = nI f → Q v1 M1 → X v1 M1)
section MR2
variable {base n u O : Nat} {bs : Nat → Nat} {sub : Nat → Option V3 × Nat} {g : Mem → (Int32 → Mem → Prop) → Prop}
theorem ML_loop {l : Nat} {Lp : (Int32 → Mem → Prop) → Int32 → Mem → Prop} (hn : n ≤ 50) (hp : PB n sub) (hL : ∀ Q v1 M2, (∀ X : Int32 → Mem → Prop, LPm base n u bs O l g Q X → X v1 M2) → Lp Q v1 M2) (hs : ML base n u bs O g sub) : ML base n u bs O (fun M Q => g M (fun v1 M2 => Lp Q v1 M2)) (oqP bs n l sub) := by
  intro p M Q hpn ms
  have LP : ∀ (X : Int32 → Mem → Prop), LPm base n u bs O l g Q X → ∀ f v q M1, n ≤ q + f → q ≤ n → Fm M M1 → MS base n u bs q O M1 →
     (∀ e, lpP bs n l sub f v q = (none, e) → (∀ M' w, Fm M M' → M' 0 8 = nI e → Q w M') → X (v (M 5 0) (M 5 1) (M 5 2)) M1) ∧
     (∀ w q2, lpP bs n l sub f v q = (some w, q2) → (∀ M', Fm M M' → MS base n u bs q2 O M' → Q (w (M 5 0) (M 5 1) (M 5 2)) M') → X (v (M 5 0) (M 5 1) (M 5 2)) M1) := by
    intro X hX f
    induction f with
    | zero =>
      intro v q M1 hf hq fm m1
      refine ⟨fun e he => ns_ne he, fun w q2 he k => ?_⟩
      obtain ⟨rfl, rfl⟩ := ss_e he
      exact hX.2.1 _ M1 q hq m1 (fun h => absurd h (by omega)) (k M1 fm m1)
    | succ f ih =>
      intro v q M1 hf hq fm m1
      rw [lpP_s]
      by_cases c : q < n ∧ lvl (bs q) = l
      · rw [if_pos c]
        have m2 := m1.at (q + 1)
        have fm2 : Fm M (sf M1 0 6 (nI (q + 1))) := fm.tr (Fm.sf (by omega))
        have e5 : sf M1 0 6 (nI (q + 1)) 5 = M 5 := fm2.1 5 (by omega)
        rcases ex_r (sub (q + 1)) with ⟨e, he⟩ | ⟨w, q', he⟩
        · rw [he, bnd_n]
          have be := (hp (q + 1) (by omega)).2 e he
          refine ⟨fun e2 he2 k => ?_, fun w q2 he2 => sn_ne he2⟩
          have := nn_e he2
          subst this
          exact hX.1 _ M1 q c.1 m1 c.2 ((hs (q + 1) _ _ (by omega) m2).1 e he (fun M' w f' h8 => hX.2.2 _ M' e (by omega) h8 (k M' _ (fm2.tr f') h8)))
        · rw [he, bnd_s]
          have b := (hp (q + 1) (by omega)).1 w q' he
          refine ⟨fun e2 he2 k => ?_, fun w2 q2 he2 k => ?_⟩
          · refine hX.1 _ M1 q c.1 m1 c.2 ((hs (q + 1) _ _ (by omega) m2).2 w q' he (fun M' f' m' => ?_))
            rw [e5]
            exact (ih (jn (bs q) v w) q' M' (by omega) b.2 (fm2.tr f') m').1 e2 he2 k
          · refine hX.1 _ M1 q c.1 m1 c.2 ((hs (q + 1) _ _ (by omega) m2).2 w q' he (fun M' f' m' => ?_))
            rw [e5]
            exact (ih (jn (bs q) v w) q' M' (by omega) b.2 (fm2.tr f') m').2 w2 q2 he2 k
      · rw [if_neg c]
        refine ⟨fun e he => ns_ne he, fun w q2 he k => ?_⟩
        obtain ⟨rfl, rfl⟩ := ss_e he
        exact hX.2.1 _ M1 q hq m1 (fun h e => c ⟨h, e⟩) (k M1 fm m1)
  unfold oqP
  rcases ex_r (sub p) with ⟨e, he⟩ | ⟨v, q, he⟩
  · rw [he, bnd_n]
    have be := (hp p hpn).2 e he
    refine ⟨fun f hf k => ?_, fun w q2 he2 => sn_ne he2⟩
    have := nn_e hf
    subst this
    exact (hs p M _ hpn ms).1 e he (fun M' w f' h8 => hL Q w M' (fun X hX => hX.2.2 _ M' e (by omega) h8 (k M' w f' h8)))
  · rw [he, bnd_s]
    have b := (hp p hpn).1 v q he
    refine ⟨fun f hf k => (hs p M _ hpn ms).2 v q he (fun M' f' m' => hL Q _ M' (fun X hX => ?_)), fun w q2 he2 k => (hs p M _ hpn ms).2 v q he (fun M' f' m' => hL Q _ M' (fun X hX => ?_))⟩
    · exact (LP X hX (n - q) v q M' (by omega) b.2 f' m').1 f hf k
    · exact (LP X hX (n - q) v q M' (by omega) b.2 f' m').2 w q2 he2 k
theorem l5_c {c : Nat} : lvl c = 5 ↔ c = 42 ∨ c = 47 ∨ c = 37 := by
  unfold lvl
  repeat' split
  all_goals omega
theorem l4_c {c : Nat} : lvl c = 4 ↔ c = 43 ∨ c = 45 := by
  unfold lvl
  repeat' split
  all_goals omega
theorem l3_c {c : Nat} : lvl c = 3 ↔ c = 60 ∨ c = 61 ∨ c = 62 := by
  unfold lvl
  repeat' split
  all_goals omega
theorem l2_c {c : Nat} : lvl c = 2 ↔ c = 38 := by
  unfold lvl
  repeat' split
  all_goals omega
theorem l1_c {c : Nat} : lvl c = 1 ↔ c = 124 := by
  unfold lvl
  repeat' split
  all_goals omega
theorem m1_ne {c : Nat} (hc : c ≤ 255) : ¬ (-1 : Int32) = nI c := fun e => by
  have e := congrArg Int32.toInt e
  rw [nI_toInt (by omega)] at e
  have : (-1 : Int32).toInt = -1 := rfl
  omega
theorem ML_product (hn : n ≤ 50) (hbn : base + n ≤ 264) (hb : ∀ i, i < n → bs i ≤ 255) (hp : PB n sub) (hs : ML base n u bs O g sub) : ML base n u bs O (P_X12_product g) (oqP bs n 5 sub) := by
  refine ML_loop (Lp := fun Q v1 M2 => B_X12_product_5 g Q v1 M2) hn hp (fun Q v1 M2 H => ?_) hs
  unfold B_X12_product_5
  intro X hX
  refine H X ⟨fun v1 M1 q hq m1 hl k => ?_, fun v1 M1 q hq m1 hl k => ?_, fun v1 M1 f hf h8 k => ?_⟩
  · have body : B_X12_product_32 g Q X v1 M1 := by
      unfold B_X12_product_32
      refine m_here m1 hn hbn (by omega) ?_
      rw [m1.1.2.1]
      rintro _ rfl _ rfl
      rw [nI_1]
      have e : hvB n bs q = nI (bs q) := if_pos hq
      rw [e]
      have hbq := hb q hq
      rcases l5_c.mp hl with e | e | e
      · rw [e] at k ⊢
        have e2 : (fun v8 M9 => X (cjoin (nI 42) v1 v8) M9) = (fun (v8 : Int32) (M9 : Mem) => ((¬ nI 42 = 42 → ((¬ v8 = 0 → ((¬ nI 42 = 47 → ¬ v8 = 0 ∧ ∀ x1_14 : Int32, x1_14 = v1 - v1 / v8 * v8 → X x1_14 M9) ∧ (nI 42 = 47 → ¬ v8 = 0 ∧ ∀ x1_16 : Int32, x1_16 = v1 / v8 → X x1_16 M9))) ∧ (v8 = 0 → X 0 M9))) ∧ (nI 42 = 42 → ∀ x1_17 : Int32, x1_17 = v1 * v8 → X x1_17 M9))) := by
          funext v8 M9
          apply propext
          have e3 : cjoin (nI 42) v1 v8 = v1 * v8 := rfl
          rw [e3]
          exact ⟨fun h => ⟨fun z => absurd rfl z, fun _ x hx => by rw [hx]; exact h⟩, fun h => h.2 rfl _ rfl⟩
        rw [← e2]
        exact k
      · rw [e] at k ⊢
        have e2 : (fun v8 M9 => X (cjoin (nI 47) v1 v8) M9) = (fun (v8 : Int32) (M9 : Mem) => ((¬ nI 47 = 42 → ((¬ v8 = 0 → ((¬ nI 47 = 47 → ¬ v8 = 0 ∧ ∀ x1_14 : Int32, x1_14 = v1 - v1 / v8 * v8 → X x1_14 M9) ∧ (nI 47 = 47 → ¬ v8 = 0 ∧ ∀ x1_16 : Int32, x1_16 = v1 / v8 → X x1_16 M9))) ∧ (v8 = 0 → X 0 M9))) ∧ (nI 47 = 42 → ∀ x1_17 : Int32, x1_17 = v1 * v8 → X x1_17 M9))) := by
          funext v8 M9
          apply propext
          have e3 : cjoin (nI 47) v1 v8 = if v8 = 0 then 0 else v1 / v8 := rfl
          rw [e3]
          by_cases z : v8 = 0
          · rw [if_pos z]
            exact ⟨fun h => ⟨fun _ => ⟨fun z2 => absurd z z2, fun _ => h⟩, fun z2 => absurd z2 (by decide)⟩, fun h => (h.1 (by decide)).2 z⟩
          · rw [if_neg z]
            exact ⟨fun h => ⟨fun _ => ⟨fun _ => ⟨fun z2 => absurd rfl z2, fun _ => ⟨z, fun x hx => by rw [hx]; exact h⟩⟩, fun z2 => absurd z2 z⟩, fun z2 => absurd z2 (by decide)⟩, fun h => (((h.1 (by decide)).1 z).2 rfl).2 _ rfl⟩
        rw [← e2]
        exact k
      · rw [e] at k ⊢
        have e2 : (fun v8 M9 => X (cjoin (nI 37) v1 v8) M9) = (fun (v8 : Int32) (M9 : Mem) => ((¬ nI 37 = 42 → ((¬ v8 = 0 → ((¬ nI 37 = 47 → ¬ v8 = 0 ∧ ∀ x1_14 : Int32, x1_14 = v1 - v1 / v8 * v8 → X x1_14 M9) ∧ (nI 37 = 47 → ¬ v8 = 0 ∧ ∀ x1_16 : Int32, x1_16 = v1 / v8 → X x1_16 M9))) ∧ (v8 = 0 → X 0 M9))) ∧ (nI 37 = 42 → ∀ x1_17 : Int32, x1_17 = v1 * v8 → X x1_17 M9))) := by
          funext v8 M9
          apply propext
          have e3 : cjoin (nI 37) v1 v8 = if v8 = 0 then 0 else v1 - v1 / v8 * v8 := rfl
          rw [e3]
          by_cases z : v8 = 0
          · rw [if_pos z]
            exact ⟨fun h => ⟨fun _ => ⟨fun z2 => absurd z z2, fun _ => h⟩, fun z2 => absurd z2 (by decide)⟩, fun h => (h.1 (by decide)).2 z⟩
          · rw [if_neg z]
            exact ⟨fun h => ⟨fun _ => ⟨fun _ => ⟨fun _ => ⟨z, fun x hx => by rw [hx]; exact h⟩, fun z2 => absurd z2 (by decide)⟩, fun z2 => absurd z2 z⟩, fun z2 => absurd z2 (by decide)⟩, fun h => (((h.1 (by decide)).1 z).1 (by decide)).2 _ rfl⟩
        rw [← e2]
        exact k
    apply hX
    refine m_here m1 hn hbn (by omega) ?_
    rw [show (42 : Int32) = nI 42 from rfl, hv_e hb (by omega)]
    refine ⟨fun _ => body, fun n42 => m_here m1 hn hbn (by omega) ?_⟩
    rw [show (47 : Int32) = nI 47 from rfl, hv_e hb (by omega)]
    refine ⟨fun _ => body, fun n47 => m_here m1 hn hbn (by omega) ?_⟩
    rw [show (37 : Int32) = nI 37 from rfl, hv_e hb (by omega)]
    refine ⟨fun n37 => ?_, fun _ => body⟩
    rcases l5_c.mp hl with e | e | e
    · exact absurd ⟨hq, e⟩ n42
    · exact absurd ⟨hq, e⟩ n47
    · exact absurd ⟨hq, e⟩ n37
  · apply hX
    have no : ∀ c, lvl c = 5 → ¬ (q < n ∧ bs q = c) := fun c hc z => hl z.1 (by rw [z.2]; exact hc)
    refine m_here m1 hn hbn (by omega) ?_
    rw [show (42 : Int32) = nI 42 from rfl, hv_e hb (by omega)]
    refine ⟨fun z => absurd z (no 42 (by decide)), fun n42 => m_here m1 hn hbn (by omega) ?_⟩
    rw [show (47 : Int32) = nI 47 from rfl, hv_e hb (by omega)]
    refine ⟨fun z => absurd z (no 47 (by decide)), fun n47 => m_here m1 hn hbn (by omega) ?_⟩
    rw [show (37 : Int32) = nI 37 from rfl, hv_e hb (by omega)]
    exact ⟨fun _ => k, fun z => absurd z (no 37 (by decide))⟩
  · apply hX
    refine m_hereF h8 hf ⟨fun z => absurd z (m1_ne (c := 42) (by omega)), fun _ => m_hereF h8 hf ⟨fun z => absurd z (m1_ne (c := 47) (by omega)), fun _ => m_hereF h8 hf ⟨fun _ => k, fun z => absurd z (m1_ne (c := 37) (by omega))⟩⟩⟩
theorem ML_sum (hn : n ≤ 50) (hbn : base + n ≤ 264) (hb : ∀ i, i < n → bs i ≤ 255) (hp : PB n sub) (hs : ML base n u bs O (P_X12_product g) sub) : ML base n u bs O (P_X12_sum g) (oqP bs n 4 sub) := by
  refine ML_loop (Lp := fun Q v1 M2 => B_X12_sum_5 g Q v1 M2) hn hp (fun Q v1 M2 H => ?_) hs
  unfold B_X12_sum_5
  intro X hX
  refine H X ⟨fun v1 M1 q hq m1 hl k => ?_, fun v1 M1 q hq m1 hl k => ?_, fun v1 M1 f hf h8 k => ?_⟩
  · have body : B_X12_sum_23 g Q X v1 M1 := by
      unfold B_X12_sum_23
      refine m_here m1 hn hbn (by omega) ?_
      rw [m1.1.2.1]
      rintro _ rfl _ rfl
      rw [nI_1]
      have e : hvB n bs q = nI (bs q) := if_pos hq
      rw [e]
      rcases l4_c.mp hl with e | e
      · rw [e] at k ⊢
        have e2 : (fun v8 M9 => X (cjoin (nI 43) v1 v8) M9) = (fun (v8 : Int32) (M9 : Mem) => ((¬ nI 43 = 43 → ∀ x1_11 : Int32, x1_11 = v1 - v8 → X x1_11 M9) ∧ (nI 43 = 43 → ∀ x1_12 : Int32, x1_12 = v1 + v8 → X x1_12 M9))) := by
          funext v8 M9
          apply propext
          have e3 : cjoin (nI 43) v1 v8 = v1 + v8 := rfl
          rw [e3]
          exact ⟨fun h => ⟨fun z => absurd rfl z, fun _ x hx => by rw [hx]; exact h⟩, fun h => h.2 rfl _ rfl⟩
        rw [← e2]
        exact k
      · rw [e] at k ⊢
        have e2 : (fun v8 M9 => X (cjoin (nI 45) v1 v8) M9) = (fun (v8 : Int32) (M9 : Mem) => ((¬ nI 45 = 43 → ∀ x1_11 : Int32, x1_11 = v1 - v8 → X x1_11 M9) ∧ (nI 45 = 43 → ∀ x1_12 : Int32, x1_12 = v1 + v8 → X x1_12 M9))) := by
          funext v8 M9
          apply propext
          have e3 : cjoin (nI 45) v1 v8 = v1 - v8 := rfl
          rw [e3]
          exact ⟨fun h => ⟨fun _ x hx => by rw [hx]; exact h, fun z => absurd z (by decide)⟩, fun h => h.1 (by decide) _ rfl⟩
        rw [← e2]
        exact k
    apply hX
    refine m_here m1 hn hbn (by omega) ?_
    rw [show (43 : Int32) = nI 43 from rfl, hv_e hb (by omega)]
    refine ⟨fun _ => body, fun n43 => m_here m1 hn hbn (by omega) ?_⟩
    rw [show (45 : Int32) = nI 45 from rfl, hv_e hb (by omega)]
    refine ⟨fun n45 => ?_, fun _ => body⟩
    rcases l4_c.mp hl with e | e
    · exact absurd ⟨hq, e⟩ n43
    · exact absurd ⟨hq, e⟩ n45
  · apply hX
    have no : ∀ c, lvl c = 4 → ¬ (q < n ∧ bs q = c) := fun c hc z => hl z.1 (by rw [z.2]; exact hc)
    refine m_here m1 hn hbn (by omega) ?_
    rw [show (43 : Int32) = nI 43 from rfl, hv_e hb (by omega)]
    refine ⟨fun z => absurd z (no 43 (by decide)), fun n43 => m_here m1 hn hbn (by omega) ?_⟩
    rw [show (45 : Int32) = nI 45 from rfl, hv_e hb (by omega)]
    exact ⟨fun _ => k, fun z => absurd z (no 45 (by decide))⟩
  · apply hX
    refine m_hereF h8 hf ⟨fun z => absurd z (m1_ne (c := 43) (by omega)), fun _ => m_hereF h8 hf ⟨fun _ => k, fun z => absurd z (m1_ne (c := 45) (by omega))⟩⟩
theorem ML_both (hn : n ≤ 50) (hbn : base + n ≤ 264) (hb : ∀ i, i < n → bs i ≤ 255) (hp : PB n sub) (hs : ML base n u bs O (P_X12_compared g) sub) : ML base n u bs O (P_X12_both g) (oqP bs n 2 sub) := by
  refine ML_loop (Lp := fun Q v1 M2 => B_X12_both_5 g Q v1 M2) hn hp (fun Q v1 M2 H => ?_) hs
  unfold B_X12_both_5
  intro X hX
  refine H X ⟨fun v1 M1 q hq m1 hl k => ?_, fun v1 M1 q hq m1 hl k => ?_, fun v1 M1 f hf h8 k => ?_⟩
  · apply hX
    rw [show (38 : Int32) = nI 38 from rfl]
    refine m_takes m1 hn hbn (by omega) hb (by omega) (fun _ e => ⟨fun z => absurd z (by decide), fun _ => ?_⟩) (fun z => absurd ⟨hq, l2_c.mp hl⟩ z)
    rw [e] at k
    have e2 : (fun v8 M9 => X (cjoin (nI 38) v1 v8) M9) = (fun (v6 : Int32) (M7 : Mem) => ((v1 = 0 → X 0 M7) ∧ (¬ v1 = 0 → ((v6 = 0 → X 0 M7) ∧ (¬ v6 = 0 → X 1 M7))))) := by
      funext v8 M9
      apply propext
      have e3 : cjoin (nI 38) v1 v8 = if v1 = 0 then 0 else if v8 = 0 then 0 else 1 := rfl
      rw [e3]
      by_cases z : v1 = 0
      · rw [if_pos z]
        exact ⟨fun h => ⟨fun _ => h, fun z2 => absurd z z2⟩, fun h => h.1 z⟩
      · rw [if_neg z]
        by_cases z3 : v8 = 0
        · rw [if_pos z3]
          exact ⟨fun h => ⟨fun z2 => absurd z2 z, fun _ => ⟨fun _ => h, fun z2 => absurd z3 z2⟩⟩, fun h => (h.2 z).1 z3⟩
        · rw [if_neg z3]
          exact ⟨fun h => ⟨fun z2 => absurd z2 z, fun _ => ⟨fun z2 => absurd z2 z3, fun _ => h⟩⟩, fun h => (h.2 z).2 z3⟩
    rw [← e2]
    exact k
  · apply hX
    rw [show (38 : Int32) = nI 38 from rfl]
    exact m_takes m1 hn hbn (by omega) hb (by omega) (fun h e => absurd (l2_c.mpr e) (hl h)) (fun _ => ⟨fun _ => k, fun z => absurd rfl z⟩)
  · apply hX
    rw [show (38 : Int32) = nI 38 from rfl]
    exact m_takesF h8 hf (by omega) ⟨fun _ => k, fun z => absurd rfl z⟩
theorem ML_either (hn : n ≤ 50) (hbn : base + n ≤ 264) (hb : ∀ i, i < n → bs i ≤ 255) (hp : PB n sub) (hs : ML base n u bs O (P_X12_both g) sub) : ML base n u bs O (P_X12_either g) (oqP bs n 1 sub) := by
  refine ML_loop (Lp := fun Q v1 M2 => B_X12_either_5 g Q v1 M2) hn hp (fun Q v1 M2 H => ?_) hs
  unfold B_X12_either_5
  intro X hX
  refine H X ⟨fun v1 M1 q hq m1 hl k => ?_, fun v1 M1 q hq m1 hl k => ?_, fun v1 M1 f hf h8 k => ?_⟩
  · apply hX
    rw [show (124 : Int32) = nI 124 from rfl]
    refine m_takes m1 hn hbn (by omega) hb (by omega) (fun _ e => ⟨fun z => absurd z (by decide), fun _ => ?_⟩) (fun z => absurd ⟨hq, l1_c.mp hl⟩ z)
    rw [e] at k
    have e2 : (fun v8 M9 => X (cjoin (nI 124) v1 v8) M9) = (fun (v6 : Int32) (M7 : Mem) => ((¬ v1 = 0 → X 1 M7) ∧ (v1 = 0 → ((v6 = 0 → X 0 M7) ∧ (¬ v6 = 0 → X 1 M7))))) := by
      funext v8 M9
      apply propext
      have e3 : cjoin (nI 124) v1 v8 = if v1 = 0 then (if v8 = 0 then 0 else 1) else 1 := rfl
      rw [e3]
      by_cases z : v1 = 0
      · rw [if_pos z]
        by_cases z3 : v8 = 0
        · rw [if_pos z3]
          exact ⟨fun h => ⟨fun z2 => absurd z z2, fun _ => ⟨fun _ => h, fun z2 => absurd z3 z2⟩⟩, fun h => (h.2 z).1 z3⟩
        · rw [if_neg z3]
          exact ⟨fun h => ⟨fun z2 => absurd z z2, fun _ => ⟨fun z2 => absurd z2 z3, fun _ => h⟩⟩, fun h => (h.2 z).2 z3⟩
      · rw [if_neg z]
        exact ⟨fun h => ⟨fun _ => h, fun z2 => absurd z2 z⟩, fun h => h.1 z⟩
    rw [← e2]
    exact k
  · apply hX
    rw [show (124 : Int32) = nI 124 from rfl]
    exact m_takes m1 hn hbn (by omega) hb (by omega) (fun h e => absurd (l1_c.mpr e) (hl h)) (fun _ => ⟨fun _ => k, fun z => absurd rfl z⟩)
  · apply hX
    rw [show (124 : Int32) = nI 124 from rfl]
    exact m_takesF h8 hf (by omega) ⟨fun _ => k, fun z => absurd rfl z⟩
theorem ML_compared (hn : n ≤ 50) (hbn : base + n ≤ 264) (hb : ∀ i, i < n → bs i ≤ 255) (hp : PB n sub) (hs : ML base n u bs O (P_X12_sum g) sub) : ML base n u bs O (P_X12_compared g) (cmP bs n sub) := by
  intro p M Q hpn ms
  have noF : ∀ v1 M2 f, f ≤ 50 → M2 0 8 = nI f → Q v1 M2 → P_X12_here M2 (fun v3 => ((v3 = 60 → B_X12_compared_30 g Q v1 v3 M2) ∧ (¬ v3 = 60 → ((v3 = 61 → B_X12_compared_30 g Q v1 v3 M2) ∧ (¬ v3 = 61 → ((v3 = 62 → B_X12_compared_30 g Q v1 v3 M2) ∧ (¬ v3 = 62 → Q v1 M2))))))) := fun v1 M2 f hf h8 k => m_hereF h8 hf ⟨fun z => absurd z (m1_ne (c := 60) (by omega)), fun _ => ⟨fun z => absurd z (m1_ne (c := 61) (by omega)), fun _ => ⟨fun z => absurd z (m1_ne (c := 62) (by omega)), fun _ => k⟩⟩⟩
  unfold cmP P_X12_compared
  rcases ex_r (sub p) with ⟨e, he⟩ | ⟨v, q, he⟩
  · rw [he, bnd_n]
    have be := (hp p hpn).2 e he
    refine ⟨fun f hf k => ?_, fun w q2 he2 => sn_ne he2⟩
    have := nn_e hf
    subst this
    exact (hs p M _ hpn ms).1 e he (fun M' w f' h8 => noF w M' e (by omega) h8 (k M' w f' h8))
  · rw [he, bnd_s]
    have b := (hp p hpn).1 v q he
    by_cases c : q < n ∧ lvl (bs q) = 3
    · rw [if_pos c]
      have c3 := l3_c.mp c.2
      have step : ∀ v1 M2, MS base n u bs q O M2 → P_X12_sum g (sf M2 0 6 (nI (q + 1))) (fun v7 M8 => Q (cjoin (nI (bs q)) v1 v7) M8) → P_X12_here M2 (fun v3 => ((v3 = 60 → B_X12_compared_30 g Q v1 v3 M2) ∧ (¬ v3 = 60 → ((v3 = 61 → B_X12_compared_30 g Q v1 v3 M2) ∧ (¬ v3 = 61 → ((v3 = 62 → B_X12_compared_30 g Q v1 v3 M2) ∧ (¬ v3 = 62 → Q v1 M2))))))) := fun v1 M2 m2 k => by
        refine m_here m2 hn hbn (by omega) ?_
        have e : hvB n bs q = nI (bs q) := if_pos c.1
        rw [e]
        have body : B_X12_compared_30 g Q v1 (nI (bs q)) M2 := by
          unfold B_X12_compared_30
          rw [m2.1.2.1]
          rintro _ rfl _ rfl
          rw [nI_1]
          rcases c3 with e | e | e
          · rw [e] at k ⊢
            have e2 : (fun v7 M8 => Q (cjoin (nI 60) v1 v7) M8) = (fun (v7 : Int32) (M8 : Mem) => ((¬ nI 60 = 60 → ((¬ nI 60 = 61 → ((v1 ≤ v7 → Q 0 M8) ∧ (¬ v1 ≤ v7 → Q 1 M8))) ∧ (nI 60 = 61 → ((¬ v1 = v7 → Q 0 M8) ∧ (v1 = v7 → Q 1 M8))))) ∧ (nI 60 = 60 → ((v7 ≤ v1 → Q 0 M8) ∧ (¬ v7 ≤ v1 → Q 1 M8))))) := by
              funext v7 M8
              apply propext
              have e3 : cjoin (nI 60) v1 v7 = if v7 ≤ v1 then 0 else 1 := rfl
              rw [e3]
              by_cases z : v7 ≤ v1
              · rw [if_pos z]
                exact ⟨fun h => ⟨fun z2 => absurd rfl z2, fun _ => ⟨fun _ => h, fun z2 => absurd z z2⟩⟩, fun h => (h.2 rfl).1 z⟩
              · rw [if_neg z]
                exact ⟨fun h => ⟨fun z2 => absurd rfl z2, fun _ => ⟨fun z2 => absurd z2 z, fun _ => h⟩⟩, fun h => (h.2 rfl).2 z⟩
            rw [← e2]
            exact k
          · rw [e] at k ⊢
            have e2 : (fun v7 M8 => Q (cjoin (nI 61) v1 v7) M8) = (fun (v7 : Int32) (M8 : Mem) => ((¬ nI 61 = 60 → ((¬ nI 61 = 61 → ((v1 ≤ v7 → Q 0 M8) ∧ (¬ v1 ≤ v7 → Q 1 M8))) ∧ (nI 61 = 61 → ((¬ v1 = v7 → Q 0 M8) ∧ (v1 = v7 → Q 1 M8))))) ∧ (nI 61 = 60 → ((v7 ≤ v1 → Q 0 M8) ∧ (¬ v7 ≤ v1 → Q 1 M8))))) := by
              funext v7 M8
              apply propext
              have e3 : cjoin (nI 61) v1 v7 = if v1 = v7 then 1 else 0 := rfl
              rw [e3]
              by_cases z : v1 = v7
              · rw [if_pos z]
                exact ⟨fun h => ⟨fun _ => ⟨fun z2 => absurd rfl z2, fun _ => ⟨fun z2 => absurd z z2, fun _ => h⟩⟩, fun z2 => absurd z2 (by decide)⟩, fun h => ((h.1 (by decide)).2 rfl).2 z⟩
              · rw [if_neg z]
                exact ⟨fun h => ⟨fun _ => ⟨fun z2 => absurd rfl z2, fun _ => ⟨fun _ => h, fun z2 => absurd z2 z⟩⟩, fun z2 => absurd z2 (by decide)⟩, fun h => ((h.1 (by decide)).2 rfl).1 z⟩
            rw [← e2]
            exact k
          · rw [e] at k ⊢
            have e2 : (fun v7 M8 => Q (cjoin (nI 62) v1 v7) M8) = (fun (v7 : Int32) (M8 : Mem) => ((¬ nI 62 = 60 → ((¬ nI 62 = 61 → ((v1 ≤ v7 → Q 0 M8) ∧ (¬ v1 ≤ v7 → Q 1 M8))) ∧ (nI 62 = 61 → ((¬ v1 = v7 → Q 0 M8) ∧ (v1 = v7 → Q 1 M8))))) ∧ (nI 62 = 60 → ((v7 ≤ v1 → Q 0 M8) ∧ (¬ v7 ≤ v1 → Q 1 M8))))) := by
              funext v7 M8
              apply propext
              have e3 : cjoin (nI 62) v1 v7 = if v1 ≤ v7 then 0 else 1 := rfl
              rw [e3]
              by_cases z : v1 ≤ v7
              · rw [if_pos z]
                exact ⟨fun h => ⟨fun _ => ⟨fun _ => ⟨fun _ => h, fun z2 => absurd z z2⟩, fun z2 => absurd z2 (by decide)⟩, fun z2 => absurd z2 (by decide)⟩, fun h => ((h.1 (by decide)).1 (by decide)).1 z⟩
              · rw [if_neg z]
                exact ⟨fun h => ⟨fun _ => ⟨fun _ => ⟨fun z2 => absurd z2 z, fun _ => h⟩, fun z2 => absurd z2 (by decide)⟩, fun z2 => absurd z2 (by decide)⟩, fun h => ((h.1 (by decide)).1 (by decide)).2 z⟩
            rw [← e2]
            exact k
        refine ⟨fun _ => body, fun n60 => ⟨fun _ => body, fun n61 => ⟨fun _ => body, fun n62 => ?_⟩⟩⟩
        rcases c3 with e | e | e
        · exact absurd (by rw [e]; rfl) n60
        · exact absurd (by rw [e]; rfl) n61
        · exact absurd (by rw [e]; rfl) n62
      rcases ex_r (sub (q + 1)) with ⟨e, he2⟩ | ⟨w, q', he2⟩
      · rw [he2, bnd_n]
        refine ⟨fun f hf k => ?_, fun w q2 he2 => sn_ne he2⟩
        have := nn_e hf
        subst this
        exact (hs p M _ hpn ms).2 v q he (fun M' f' m' => step _ M' m' ((hs (q + 1) _ _ (by omega) (m'.at (q + 1))).1 e he2 (fun M'' w f'' h8 => k M'' _ ((f'.tr (Fm.sf (by omega))).tr f'') h8)))
      · rw [he2, bnd_s]
        refine ⟨fun f hf => ns_ne hf, fun w2 q2 he3 k => ?_⟩
        obtain ⟨rfl, rfl⟩ := ss_e he3
        refine (hs p M _ hpn ms).2 v q he (fun M' f' m' => step _ M' m' ((hs (q + 1) _ _ (by omega) (m'.at (q + 1))).2 w q' he2 (fun M'' f'' m'' => ?_)))
        have e5 : sf M' 0 6 (nI (q + 1)) 5 = M 5 := (f'.tr (Fm.sf (by omega))).1 5 (by omega)
        rw [e5]
        exact k M'' ((f'.tr (Fm.sf (by omega))).tr f'') m''
    · rw [if_neg c]
      refine ⟨fun f hf => ns_ne hf, fun w2 q2 he3 k => ?_⟩
      obtain ⟨rfl, rfl⟩ := ss_e he3
      refine (hs p M _ hpn ms).2 v q he (fun M' f' m' => m_here m' hn hbn (by omega) ?_)
      have no : ∀ x, lvl x = 3 → ¬ (q < n ∧ bs q = x) := fun x hx z => c ⟨z.1, by rw [z.2]; exact hx⟩
      rw [show (60 : Int32) = nI 60 from rfl, show (61 : Int32) = nI 61 from rfl, show (62 : Int32) = nI 62 from rfl]
      exact ⟨fun z => absurd ((hv_e hb (by omega)).mp z) (no 60 (by decide)), fun _ => ⟨fun z => absurd ((hv_e hb (by omega)).mp z) (no 61 (by decide)), fun _ => ⟨fun z => absurd ((hv_e hb (by omega)).mp z) (no 62 (by decide)), fun _ => k M' f' m'⟩⟩⟩
theorem ML_ei (hn : n ≤ 50) (hbn : base + n ≤ 264) (hb : ∀ i, i < n → bs i ≤ 255) (hp : PB n sub) (hs : ML base n u bs O g sub) : ML base n u bs O (P_X12_either g) (eiP bs n sub) :=
  ML_either hn hbn hb (oqP_b (cmP_b (oqP_b (oqP_b hp)))) (ML_both hn hbn hb (cmP_b (oqP_b (oqP_b hp))) (ML_compared hn hbn hb (oqP_b (oqP_b hp)) (ML_sum hn hbn hb (oqP_b hp) (ML_product hn hbn hb hp hs))))
end MR2
