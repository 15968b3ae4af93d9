/-! ===== the model goes through the standings ===== -/
/-- the best so far: how many standings, its pulls (one more; 0: none yet), how many are content, its row -/
abbrev TS : Type := Nat × Nat × Nat × (Nat → Nat)
def BR (N : Nat) (T : TS) (M : Mem) : Prop := M 0 16 = nI T.1 ∧ M 0 18 = cI T.2.1 ∧ M 0 17 = nI T.2.2.1 ∧ ∀ k, k < N → M 10 k = nI (T.2.2.2 k)
def SS (a : Nat → Nat) (N : Nat) (r l : Nat → Nat) (w : Nat) (T : TS) (M : Mem) : Prop := MR M a ∧ (∀ k, k < w → M 6 k = nI (r k)) ∧ (∀ c, c < 5 → M 8 c = nI (l c)) ∧ (∀ k, k < N → M 7 k = nI (a (12 + 4 * k + 1))) ∧ (∀ c, c < 5 → M 9 c = cI (la a c N)) ∧ BR N T M
def Gf (M M' : Mem) : Prop := (∀ k, k ≠ 0 → k ≠ 1 → k ≠ 5 → k ≠ 6 → k ≠ 8 → k ≠ 10 → M' k = M k) ∧ ∀ j, (j < 5 ∨ (10 < j ∧ j ≠ 16 ∧ j ≠ 17 ∧ j ≠ 18)) → M' 0 j = M 0 j
theorem Gf.rf {M : Mem} : Gf M M := ⟨fun _ _ _ _ _ _ _ => rfl, fun _ _ => rfl⟩
theorem Gf.tr {M M' M'' : Mem} (h : Gf M M') (h' : Gf M' M'') : Gf M M'' := ⟨fun k h0 h1 h2 h3 h4 h5 => (h'.1 k h0 h1 h2 h3 h4 h5).trans (h.1 k h0 h1 h2 h3 h4 h5), fun j hj => (h'.2 j hj).trans (h.2 j hj)⟩
def Nf (w c : Nat) (M M' : Mem) : Prop := (∀ k, k ≠ 6 → k ≠ 8 → M' k = M k) ∧ (∀ j, j ≠ w → M' 6 j = M 6 j) ∧ ∀ j, j ≠ c → M' 8 j = M 8 j
theorem Nf.g {w c : Nat} {M M' : Mem} (h : Nf w c M M') : Gf M M' := ⟨fun k _ _ _ h6 h8 _ => h.1 k h6 h8, fun j _ => by rw [h.1 0 (by omega) (by omega)]⟩
theorem g_sf6 {M : Mem} {j : Nat} {v : Int32} : Gf M (sf M 6 j v) := ⟨fun k _ _ _ h6 _ _ => sf_ne h6, fun i _ => by rw [sf_ne (by omega)]⟩
theorem add_m1 (w : Nat) : nI w + (-1) = cI w := by
  unfold cI
  rw [Int32.sub_eq_add_neg]
theorem m_isLoose {w : Nat} {M : Mem} {a : Nat → Nat} {Q : Int32 → Prop} (h : MR M a) (d : DOK a) (hw : w < a 0) (hQ : Q (bI (ls a w))) : P_X12_isLoose M (nI w) Q := by
  have d0 := d.1.1
  have d1 := d.1.2.1
  have b := d.2.2.1 w hw
  unfold P_X12_isLoose
  rw [show (2 : Int32) = nI 2 from rfl, show (3 : Int32) = nI 3 from rfl, m_its h (by omega), m_its h (by omega)]
  by_cases q : a (12 + 4 * w + 2) = 0
  · have e : ls a w = false := by
      cases z : ls a w with
      | false => rfl
      | true => have := (ls_t.mp z).1; omega
    rw [e] at hQ
    rw [q]
    exact br_t (by decide) hQ
  · refine br_f (nI_nle (by omega) (by omega)) ?_
    by_cases q2 : a (12 + 4 * w + 3) = 0
    · have e : ls a w = true := ls_t.mpr ⟨by omega, q2⟩
      rw [e] at hQ
      rw [q2]
      exact ⟨fun z => absurd rfl z, fun _ => hQ⟩
    · have e : ls a w = false := by
        cases z : ls a w with
        | false => rfl
        | true => exact absurd (ls_t.mp z).2 q2
      rw [e] at hQ
      exact ⟨fun _ => hQ, fun z => absurd z (nI_ne0 (by omega) (by omega))⟩
theorem m_B144 {w c L v : Nat} {M : Mem} {Q : Int32 → Mem → Prop} (hw : w < 9) (hc : c < 5) (hL : L ≤ 1000) (hv : v ≤ 1000) (e8 : M 8 c = nI L) :
    (v ≤ L → (∀ M', Nf w c M M' → M' 6 w = nI v → M' 8 c = nI (L - v) → Q (nI 1) M') → B_X12_nextOf_126 Q (nI w) (nI c) (nI v) 1 M) ∧
    ((∀ M', Nf w c M M' → M' 6 w = -1 → M' 8 c = nI L → Q (nI 0) M') → B_X12_nextOf_126 Q (nI w) (nI c) (nI v) 0 M) := by
  constructor
  · intro hvL k
    unfold B_X12_nextOf_126 B_X12_nextOf_144
    refine ⟨fun z => absurd z (by decide), fun _ => ⟨vp_in_nI (by omega) (by omega), ?_⟩⟩
    rw [cl_nI (by omega), cl_nI (by omega)]
    rintro _ rfl
    refine ⟨vp_in_nI (by omega) (by omega), fun z => absurd z (by decide), fun _ => ⟨vp_in_nI (by omega) (by omega), ?_⟩⟩
    rw [sf_ne (by omega), e8, sb_nI hvL]
    rintro _ rfl
    exact ⟨Or.inr rfl, k _ ⟨fun k h6 h8 => by rw [sf_ne h8, sf_ne h6], fun j hj => by rw [sf_ne (by omega), sf_j hj], fun j hj => by rw [sf_j hj, sf_ne (by omega)]⟩ (by rw [sf_ne (by omega), sf_e rfl rfl]) (sf_e rfl rfl)⟩
  · intro k
    unfold B_X12_nextOf_126 B_X12_nextOf_144
    refine ⟨fun _ => ⟨vp_in_nI (by omega) (by omega), ?_⟩, fun z => absurd rfl z⟩
    rw [cl_nI (by omega), cl_nI (by omega)]
    rintro _ rfl
    refine ⟨vp_in_nI (by omega) (by omega), fun _ => ⟨vp_in_nI (by omega) (by omega), ?_⟩, fun z => absurd rfl z⟩
    rw [sf_ne (by omega), e8, show nI L - 0 = nI L from sb_nI (b := 0) (Nat.zero_le _)]
    rintro _ rfl
    exact ⟨Or.inl rfl, k _ ⟨fun k h6 h8 => by rw [sf_ne h8, sf_ne h6], fun j hj => by rw [sf_ne (by omega), sf_j hj], fun j hj => by rw [sf_j hj, sf_ne (by omega)]⟩ (by rw [sf_ne (by omega), sf_e rfl rfl]) (sf_e rfl rfl)⟩
theorem m_B101 {w c L v : Nat} {M : Mem} {Q : Int32 → Mem → Prop} (hw : w < 9) (hc : c < 5) (hL : L ≤ 1000) (hv : v ≤ 1000) (e8 : M 8 c = nI L)
    (yes : v ≤ 9 → v ≤ L → ∀ M', Nf w c M M' → M' 6 w = nI v → M' 8 c = nI (L - v) → Q (nI 1) M') (no : ¬ (v ≤ 9 ∧ v ≤ L) → ∀ M', Nf w c M M' → M' 6 w = -1 → M' 8 c = nI L → Q (nI 0) M') : B_X12_nextOf_101 Q (nI w) (nI c) (nI v) M := by
  have h := m_B144 (w := w) (c := c) (L := L) (v := v) (M := M) (Q := Q) hw hc hL hv e8
  unfold B_X12_nextOf_101
  rw [cl_nI (by omega), e8, show (9 : Int32) = nI 9 from rfl, lt_nI (by omega) (by omega), lt_nI (by omega) (by omega)]
  exact ⟨fun q => h.2 (no (by omega)), fun q => ⟨vp_in_nI (by omega) (by omega), fun q2 => h.2 (no (by omega)), fun q2 => h.1 (by omega) (yes (by omega) (by omega))⟩⟩
theorem m_nextL {w c L v0 N : Nat} {M : Mem} {a : Nat → Nat} {Q : Int32 → Mem → Prop} (h : MR M a) (d : DOK a) (hN : N = a 0) (hw : w < N) (hl : ls a w = true) (hc : a (12 + 4 * w + 2) = c) (hL : L ≤ 1000) (hv : v0 ≤ 10) (hvL : v0 - 1 ≤ L) (e6 : M 6 w = cI v0) (e8 : M 8 c = nI (L - (v0 - 1))) (e9 : M 9 c = cI (la a c N))
    (yes : (if la a c N = w + 1 then (if v0 = 0 then L else 10) else v0) ≤ 9 → (if la a c N = w + 1 then (if v0 = 0 then L else 10) else v0) ≤ L → ∀ M', Nf w c M M' → M' 6 w = nI (if la a c N = w + 1 then (if v0 = 0 then L else 10) else v0) → M' 8 c = nI (L - (if la a c N = w + 1 then (if v0 = 0 then L else 10) else v0)) → Q (nI 1) M')
    (no : ¬ ((if la a c N = w + 1 then (if v0 = 0 then L else 10) else v0) ≤ 9 ∧ (if la a c N = w + 1 then (if v0 = 0 then L else 10) else v0) ≤ L) → ∀ M', Nf w c M M' → M' 6 w = -1 → M' 8 c = nI L → Q (nI 0) M') : P_X12_nextOf M (nI w) Q := by
  have d0 := d.1.1
  have d1 := d.1.2.1
  have b := (d.2.2.1 w (by omega)).2.2.1
  have c5 : c < 5 := by omega
  have hla := la_le a c N
  unfold P_X12_nextOf
  rw [show (2 : Int32) = nI 2 from rfl, m_its h (by omega), hc]
  refine ⟨vp_in_nI (by omega) (by omega), ?_⟩
  rw [cl_nI (by omega), e6]
  rintro _ rfl
  refine m_isLoose h d (by omega) ?_
  rw [hl, cl_nI (by omega), e8]
  have main : ∀ s3 : Int32, nI (L - (v0 - 1)) + s3 = nI L → B_X12_nextOf_68 Q (nI w) (nI c) (cI v0) (nI c) (nI (L - (v0 - 1))) s3 M := fun s3 hs3 => by
    unfold B_X12_nextOf_68
    rw [hs3, cl_nI (by omega)]
    refine ⟨vp_in_nI (by omega) (by omega), ?_⟩
    rintro _ rfl
    have ea : ∀ M', Nf w c (sf M 8 c (nI L)) M' → Nf w c M M' := fun M' n => ⟨fun k h6 h8 => by rw [n.1 k h6 h8, sf_ne h8], fun j hj => by rw [n.2.1 j hj, sf_ne (by omega)], fun j hj => by rw [n.2.2 j hj, sf_j hj]⟩
    have e8' : sf M 8 c (nI L) 8 c = nI L := sf_e rfl rfl
    refine ⟨vp_in_nI (by omega) (by omega), ?_⟩
    rw [sf_ne (by omega), e9]
    by_cases la1 : la a c N = w + 1
    · rw [if_pos la1] at yes no
      refine ⟨fun z => absurd (by rw [la1, cI_s]) z, fun _ => ?_⟩
      rw [show (0 : Int32) = nI 0 from rfl, cI_nn (by omega)]
      by_cases z0 : v0 = 0
      · rw [if_pos z0] at yes no
        refine ⟨fun z => absurd z (by omega), fun _ => ⟨vp_in_nI (by omega) (by omega), ?_⟩⟩
        rw [e8']
        exact m_B101 (by omega) c5 hL hL e8' (fun q1 q2 M' n => yes q1 q2 M' (ea M' n)) (fun q M' n => no q M' (ea M' n))
      · rw [if_neg z0] at yes no
        refine ⟨fun _ => ?_, fun z => absurd (by omega) z⟩
        exact m_B101 (v := 10) (by omega) c5 hL (by omega) e8' (fun q1 q2 M' n => yes q1 q2 M' (ea M' n)) (fun q M' n => no q M' (ea M' n))
    · rw [if_neg la1] at yes no
      refine ⟨fun _ => ?_, fun z => absurd ((cI_eqn (by omega) (by omega)).mp z) la1⟩
      have e : cI v0 + 1 = nI v0 := by
        unfold cI
        exact Int32.sub_add_cancel _ _
      rw [e]
      exact m_B101 (by omega) c5 hL (by omega) e8' (fun q1 q2 M' n => yes q1 q2 M' (ea M' n)) (fun q M' n => no q M' (ea M' n))
  refine ⟨fun _ => ⟨vp_in_nI (by omega) (by omega), ?_⟩, fun z => absurd z (by decide)⟩
  rw [show (0 : Int32) = nI 0 from rfl, cI_nn (by omega)]
  refine ⟨fun q => main _ ?_, fun q => main _ ?_⟩
  · obtain ⟨x, rfl⟩ : ∃ x, v0 = x + 1 := ⟨v0 - 1, by omega⟩
    rw [cI_s, nI_add]
    congr 1
    omega
  · obtain rfl : v0 = 0 := by omega
    rw [nI_add]
    rfl
theorem m_nextN {w v0 : Nat} {M : Mem} {a : Nat → Nat} {Q : Int32 → Mem → Prop} (h : MR M a) (d : DOK a) (hw : w < a 0) (hl : ls a w = false) (hv : v0 ≤ 10) (e6 : M 6 w = cI v0) (e7 : M 7 w = nI (a (12 + 4 * w + 1)))
    (yes : v0 = 0 → ∀ M', Nf w 9 M M' → M' 8 = M 8 → M' 6 w = nI (a (12 + 4 * w + 1)) → Q (nI 1) M') (no : v0 ≠ 0 → ∀ M', Nf w 9 M M' → M' 8 = M 8 → M' 6 w = -1 → Q (nI 0) M') : P_X12_nextOf M (nI w) Q := by
  have d0 := d.1.1
  have d1 := d.1.2.1
  unfold P_X12_nextOf
  rw [show (2 : Int32) = nI 2 from rfl, m_its h (by omega)]
  refine ⟨vp_in_nI (by omega) (by omega), ?_⟩
  rw [cl_nI (by omega), e6]
  rintro _ rfl
  refine m_isLoose h d (by omega) ?_
  rw [hl, show (0 : Int32) = nI 0 from rfl, cI_nn (by omega)]
  have ea : ∀ x : Int32, Nf w 9 M (sf M 6 w x) := fun x => ⟨fun k h6 h8 => sf_ne h6, fun j hj => sf_j hj, fun j hj => by rw [sf_ne (by omega)]⟩
  refine ⟨fun z => absurd rfl z, fun _ => ⟨fun q => ?_, fun q => ⟨vp_in_nI (by omega) (by omega), ?_⟩⟩⟩
  · unfold B_X12_nextOf_41
    rw [cl_nI (by omega)]
    refine ⟨vp_in_nI (by omega) (by omega), ?_⟩
    rintro _ rfl
    rw [show (0 : Int32) = nI 0 from rfl, cI_nn (by omega)]
    exact ⟨fun _ => no (by omega) _ (ea _) (sf_ne (by omega)) (sf_e rfl rfl), fun z => absurd q z⟩
  · unfold B_X12_nextOf_41
    rw [cl_nI (by omega), e7]
    refine ⟨vp_in_nI (by omega) (by omega), ?_⟩
    rintro _ rfl
    rw [show (0 : Int32) = nI 0 from rfl, cI_nn (by omega)]
    exact ⟨fun z => absurd z q, fun _ => yes (by omega) _ (ea _) (sf_ne (by omega)) (sf_e rfl rfl)⟩
theorem SS.nf {a r l : Nat → Nat} {N w c : Nat} {T : TS} {M M' : Mem} (h : SS a N r l w T M) (n : Nf w c M M') : MR M' a ∧ (∀ k, k < w → M' 6 k = nI (r k)) ∧ (∀ k, k < N → M' 7 k = nI (a (12 + 4 * k + 1))) ∧ (∀ c, c < 5 → M' 9 c = cI (la a c N)) ∧ BR N T M' := by
  refine ⟨fun k hk => by rw [n.1 1 (by omega) (by omega)]; exact h.1 k hk, fun k hk => by rw [n.2.1 k (by omega)]; exact h.2.1 k hk, fun k hk => by rw [n.1 7 (by omega) (by omega)]; exact h.2.2.2.1 k hk, fun c hc => by rw [n.1 9 (by omega) (by omega)]; exact h.2.2.2.2.1 c hc, ?_⟩
  unfold BR
  rw [n.1 0 (by omega) (by omega), n.1 10 (by omega) (by omega)]
  exact h.2.2.2.2.2
section GT
variable {a : Nat → Nat} {N : Nat} {X : Int32 → Mem → Prop} {Q : Mem → Prop} {x1 x2 : Int32} {lf : (Nat → Nat) → TS → TS}
def GX (Q : Mem → Prop) (x1 x2 : Int32) (X : Int32 → Mem → Prop) : Prop := ∀ (x3 : Int32) (M : Mem), (((x3 < 0 → Q M) ∧
    (¬ x3 < 0 → ((¬ x3 = (M 1 0) → P_X12_nextOf M x3 (fun v9 M10 => ((v9 = 0 → ∀ x3_12 : Int32, x3_12 = x3 + (-1) → X x3_12 M10) ∧
        (¬ v9 = 0 → ∀ x3_13 : Int32, x3_13 = x3 + 1 → vp_in x3_13 9 ∧ ∀ M14 : Mem, M14 = sf M10 6 x3_13.toNatClampNeg (-1) → X x3_13 M14)))) ∧
      (x3 = (M 1 0) → ∀ v16 : Int32, v16 = (M 0 16) + 1 → ∀ M17 : Mem, M17 = sf M 0 16 v16 → ((x1 = 0 → ∀ x3_19 : Int32, x3_19 = x3 + (-1) → X x3_19 M17) ∧
        (¬ x1 = 0 → P_X12_looksAt M17 x2 (fun M20 => ∀ x3_21 : Int32, x3_21 = x3 + (-1) → X x3_21 M20)))))))) → X x3 M
theorem gt_st {w : Nat} {M : Mem} (hX : GX Q x1 x2 X) (d0 : N ≤ 8) (hw : w < N) (e0 : M 1 0 = nI N) (k : P_X12_nextOf M (nI w) (fun v9 M10 => ((v9 = 0 → X (cI w) M10) ∧ (¬ v9 = 0 → X (nI (w + 1)) (sf M10 6 (w + 1) (-1)))))) : X (nI w) M := by
  apply hX
  rw [e0]
  refine br_f (nI_pos (by omega)) ⟨fun _ => ?_, fun z => absurd ((eq_nI (by omega) (by omega)).mp z) (by omega)⟩
  have e : (fun (v9 : Int32) (M10 : Mem) => ((v9 = 0 → ∀ x3_12 : Int32, x3_12 = nI w + (-1) → X x3_12 M10) ∧ (¬ v9 = 0 → ∀ x3_13 : Int32, x3_13 = nI w + 1 → vp_in x3_13 9 ∧ ∀ M14 : Mem, M14 = sf M10 6 x3_13.toNatClampNeg (-1) → X x3_13 M14))) = (fun v9 M10 => ((v9 = 0 → X (cI w) M10) ∧ (¬ v9 = 0 → X (nI (w + 1)) (sf M10 6 (w + 1) (-1))))) := by
    funext v9 M10
    apply propext
    rw [add_m1, nI_1]
    constructor
    · intro h
      refine ⟨fun z => h.1 z _ rfl, fun z => ?_⟩
      have := (h.2 z _ rfl).2 _ rfl
      rw [cl_nI (by omega)] at this
      exact this
    · intro h
      refine ⟨fun z x hx => by rw [hx]; exact h.1 z, fun z x hx => ?_⟩
      subst hx
      refine ⟨vp_in_nI (by omega) (by omega), fun M14 e14 => ?_⟩
      rw [e14, cl_nI (by omega)]
      exact h.2 z
  rw [e]
  exact k
theorem gt_ex (hX : GX Q x1 x2 X) (d : DOK a) (hN : N = a 0)
    (leaf : ∀ r l T M, SS a N r l N T M → (∀ k, k < N → r k ≤ 9) → (∀ M', Gf M M' → SS a N r l N (lf r T) M' → X (cI N) M') → X (nI N) M) :
    ∀ f r l T M, f ≤ N → SS a N r l (N - f) T M → M 6 (N - f) = -1 → (∀ k, k < N - f → r k ≤ 9) → (∀ c, c < 5 → l c ≤ 1000) → (∀ M', Gf M M' → SS a N r l (N - f) (go a N lf f r l T) M' → X (cI (N - f)) M') → X (nI (N - f)) M := by
  have d0 := d.1.1
  have d1 := d.1.2.1
  intro f
  induction f with
  | zero =>
    intro r l T M _ s e6 hr hl k
    exact leaf r l T M s hr k
  | succ f ih =>
    intro r l T M hf s e6 hr hl k
    have hw : N - (f + 1) < N := by omega
    have ew : N - f = N - (f + 1) + 1 := by omega
    have bw := d.2.2.1 (N - (f + 1)) (by omega)
    rw [go_s] at k
    rw [ew] at ih
    have hla := fun (hl : ls a (N - (f + 1)) = true) => la_last (a := a) (c := a (12 + 4 * (N - (f + 1)) + 2)) hf ⟨hl, rfl⟩
    generalize N - (f + 1) = w at *
    -- a deeper exploration, from w on
    have deep : ∀ r' l' T' M1, (∀ k, k < w → r' k = r k) → r' w ≤ 9 → (∀ c, c < 5 → l' c ≤ 1000) → MR M1 a → (∀ k, k < w → M1 6 k = nI (r k)) → M1 6 w = nI (r' w) → (∀ c, c < 5 → M1 8 c = nI (l' c)) → (∀ k, k < N → M1 7 k = nI (a (12 + 4 * k + 1))) → (∀ c, c < 5 → M1 9 c = cI (la a c N)) → BR N T' M1 → (∀ M', Gf M1 M' → SS a N r' l' (w + 1) (go a N lf f r' l' T') M' → X (nI w) M') → X (nI (w + 1)) (sf M1 6 (w + 1) (-1)) := fun r' l' T' M1 hrr hr9 hl' h1 h2 h2w h3 h4 h5 h6 kk => by
      refine ih r' l' T' _ (by omega) ⟨fun k hk => by rw [sf_ne (by omega)]; exact h1 k hk, fun k hk => ?_, fun c hc => by rw [sf_ne (by omega)]; exact h3 c hc, fun k hk => by rw [sf_ne (by omega)]; exact h4 k hk, fun c hc => by rw [sf_ne (by omega)]; exact h5 c hc, ?_⟩ (sf_e rfl rfl) (fun k hk => ?_) hl' (fun M' g s' => ?_)
      · rw [sf_j (by omega)]
        by_cases e : k = w
        · rw [e]; exact h2w
        · rw [hrr k (by omega)]; exact h2 k (by omega)
      · unfold BR
        rw [sf_ne (by omega), sf_ne (by omega)]
        exact h6
      · by_cases e : k = w
        · rw [e]; exact hr9
        · rw [hrr k (by omega)]; exact hr k (by omega)
      · rw [cI_s]
        exact kk M' (g_sf6.tr g) s'
    by_cases hlw : ls a w = true
    · rw [if_pos hlw] at k
      have hla := hla hlw
      have hcp := (ls_t.mp hlw).1
      generalize hc : a (12 + 4 * w + 2) = c at *
      have c5 : c < 5 := by omega
      have hLc := hl c c5
      have e8 := s.2.2.1 c c5
      have e9 := s.2.2.2.2.1 c c5
      by_cases z : ctL a c N f = 0
      · rw [if_pos z] at k
        have la1 := hla.mpr z
        refine gt_st hX (show N ≤ 8 by omega) hw (by rw [s.1 0 (by omega), hN]) (m_nextL (v0 := 0) (L := l c) s.1 d hN hw hlw hc hLc (by omega) (by omega) (by rw [e6, cI_0]) (by rw [e8]; rfl) e9 (fun q1 q2 M1 n e61 e81 => ?_) (fun q M1 n e61 e81 => ?_))
        · rw [if_pos la1, if_pos rfl] at q1 e61 e81
          rw [if_pos q1] at k
          refine ⟨fun z => absurd z (by decide), fun _ => ?_⟩
          obtain ⟨s1, s2, s3, s4, s5⟩ := s.nf n
          refine deep (updN r w (l c)) (updN l c 0) T M1 (fun k hk => updN_n (by omega)) (by rw [updN_s]; exact q1) (fun c' hc' => ?_) s1 s2 (by rw [updN_s]; exact e61) (fun c' hc' => ?_) s3 s4 s5 (fun M2 g2 t2 => ?_)
          · by_cases e : c' = c
            · rw [e, updN_s]; omega
            · rw [updN_n e]; exact hl c' hc'
          · by_cases e : c' = c
            · rw [e, updN_s, e81, Nat.sub_self]
            · rw [updN_n e, n.2.2 c' e]; exact s.2.2.1 c' hc'
          · have e62 := t2.2.1 w (by omega)
            rw [updN_s] at e62
            have e82 := t2.2.2.1 c c5
            rw [updN_s] at e82
            refine gt_st hX (show N ≤ 8 by omega) hw (by rw [t2.1 0 (by omega), hN]) (m_nextL (v0 := l c + 1) (L := l c) t2.1 d hN hw hlw hc hLc (by omega) (by omega) (by rw [e62, cI_s]) (by rw [e82]; congr 1; omega) (t2.2.2.2.2.1 c c5) (fun q1 => ?_) (fun q M3 n3 e63 e83 => ?_))
            · rw [if_pos la1, if_neg (by omega)] at q1
              omega
            · refine ⟨fun _ => k M3 ((n.g.tr g2).tr n3.g) ?_, fun z => absurd rfl z⟩
              have t3 := SS.nf (w := w) (r := r) (l := updN l c 0) (c := c) ⟨t2.1, fun k hk => by have := t2.2.1 k (by omega); rw [updN_n (by omega)] at this; exact this, t2.2.2⟩ n3
              refine ⟨t3.1, t3.2.1, fun c' hc' => ?_, t3.2.2⟩
              by_cases e : c' = c
              · rw [e]; exact e83
              · rw [n3.2.2 c' e, t2.2.2.1 c' hc', updN_n e]
        · rw [if_pos la1, if_pos rfl] at q
          rw [if_neg (by omega)] at k
          refine ⟨fun _ => k M1 n.g ?_, fun z => absurd rfl z⟩
          obtain ⟨s1, s2, s3, s4, s5⟩ := s.nf n
          refine ⟨s1, s2, fun c' hc' => ?_, s3, s4, s5⟩
          by_cases e : c' = c
          · rw [e]; exact e81
          · rw [n.2.2 c' e]; exact s.2.2.1 c' hc'
      · rw [if_neg z] at k
        have la1 : la a c N ≠ w + 1 := fun e => z (hla.mp e)
        have m9b := m9_le (l c)
        have inner : ∀ kk v T' M1, v + kk = m9 (l c) + 1 → Gf M M1 → MR M1 a → (∀ k, k < w → M1 6 k = nI (r k)) → M1 6 w = cI v → (∀ c', c' < 5 → c' ≠ c → M1 8 c' = nI (l c')) → M1 8 c = nI (l c - (v - 1)) → (∀ k, k < N → M1 7 k = nI (a (12 + 4 * k + 1))) → (∀ c, c < 5 → M1 9 c = cI (la a c N)) → BR N T' M1 →
            fvs (fun v s' => go a N lf f (updN r w v) (updN l c (l c - v)) s') kk v T' = fvs (fun v s' => go a N lf f (updN r w v) (updN l c (l c - v)) s') (m9 (l c) + 1) 0 T → X (nI w) M1 := by
          intro kk
          induction kk with
          | zero =>
            intro v T' M1 hv g1 h1 h2 h2w h3 h3c h4 h5 h6 e
            have e : T' = fvs (fun v s' => go a N lf f (updN r w v) (updN l c (l c - v)) s') (m9 (l c) + 1) 0 T := e
            refine gt_st hX (show N ≤ 8 by omega) hw (by rw [h1 0 (by omega), hN]) (m_nextL (v0 := v) (L := l c) h1 d hN hw hlw hc hLc (by omega) (by omega) h2w h3c (h5 c c5) (fun q1 q2 => ?_) (fun q M2 n e62 e82 => ?_))
            · rw [if_neg la1] at q1 q2
              exfalso
              unfold m9 at hv
              split at hv <;> omega
            · refine ⟨fun _ => k M2 (g1.tr n.g) ?_, fun z => absurd rfl z⟩
              rw [← e]
              refine ⟨fun k hk => by rw [n.1 1 (by omega) (by omega)]; exact h1 k hk, fun k hk => by rw [n.2.1 k (by omega)]; exact h2 k hk, fun c' hc' => ?_, fun k hk => by rw [n.1 7 (by omega) (by omega)]; exact h4 k hk, fun c' hc' => by rw [n.1 9 (by omega) (by omega)]; exact h5 c' hc', ?_⟩
              · by_cases e : c' = c
                · rw [e]; exact e82
                · rw [n.2.2 c' e]; exact h3 c' hc' e
              · unfold BR
                rw [n.1 0 (by omega) (by omega), n.1 10 (by omega) (by omega)]
                exact h6
          | succ kk ihk =>
            intro v T' M1 hv g1 h1 h2 h2w h3 h3c h4 h5 h6 e
            rw [fvs_s] at e
            refine gt_st hX (show N ≤ 8 by omega) hw (by rw [h1 0 (by omega), hN]) (m_nextL (v0 := v) (L := l c) h1 d hN hw hlw hc hLc (by omega) (by omega) h2w h3c (h5 c c5) (fun q1 q2 M2 n e62 e82 => ?_) (fun q => ?_))
            · rw [if_neg la1] at q1 q2 e62 e82
              refine ⟨fun z => absurd z (by decide), fun _ => ?_⟩
              refine deep (updN r w v) (updN l c (l c - v)) T' M2 (fun k hk => updN_n (by omega)) (by rw [updN_s]; exact q1) (fun c' hc' => ?_) (fun k hk => by rw [n.1 1 (by omega) (by omega)]; exact h1 k hk) (fun k hk => by rw [n.2.1 k (by omega)]; exact h2 k hk) (by rw [updN_s]; exact e62) (fun c' hc' => ?_) (fun k hk => by rw [n.1 7 (by omega) (by omega)]; exact h4 k hk) (fun c' hc' => by rw [n.1 9 (by omega) (by omega)]; exact h5 c' hc') ?_ (fun M3 g3 t3 => ?_)
              · by_cases e : c' = c
                · rw [e, updN_s]; omega
                · rw [updN_n e]; exact hl c' hc'
              · by_cases e : c' = c
                · rw [e, updN_s, e82]
                · rw [updN_n e, n.2.2 c' e]; exact h3 c' hc' e
              · unfold BR
                rw [n.1 0 (by omega) (by omega), n.1 10 (by omega) (by omega)]
                exact h6
              · have e63 := t3.2.1 w (by omega)
                rw [updN_s] at e63
                have e83 := t3.2.2.1 c c5
                rw [updN_s] at e83
                exact ihk (v + 1) _ M3 (by omega) ((g1.tr n.g).tr g3) t3.1 (fun k hk => by have := t3.2.1 k (by omega); rw [updN_n (by omega)] at this; exact this) (by rw [e63, cI_s]) (fun c' hc' hne => by rw [t3.2.2.1 c' hc', updN_n hne]) (by rw [e83]; congr 1) t3.2.2.2.1 t3.2.2.2.2.1 t3.2.2.2.2.2 e
            · rw [if_neg la1] at q
              exact absurd ⟨by omega, by omega⟩ q
        exact inner (m9 (l c) + 1) 0 T M (by omega) Gf.rf s.1 s.2.1 (by rw [e6, cI_0]) (fun c' hc' _ => s.2.2.1 c' hc') (by rw [e8]; rfl) s.2.2.2.1 s.2.2.2.2.1 s.2.2.2.2.2 rfl
    · rw [if_neg hlw] at k
      have hlf : ls a w = false := by
        cases z : ls a w with
        | false => rfl
        | true => exact absurd z hlw
      refine gt_st hX (show N ≤ 8 by omega) hw (by rw [s.1 0 (by omega), hN]) (m_nextN (v0 := 0) s.1 d (by omega) hlf (by omega) (by rw [e6, cI_0]) (s.2.2.2.1 w hw) (fun _ M1 n e8 e61 => ?_) (fun q => absurd rfl q))
      refine ⟨fun z => absurd z (by decide), fun _ => ?_⟩
      obtain ⟨s1, s2, s3, s4, s5⟩ := s.nf n
      refine deep (updN r w (a (12 + 4 * w + 1))) l T M1 (fun k hk => updN_n (by omega)) (by rw [updN_s]; exact bw.2.1) hl s1 s2 (by rw [updN_s]; exact e61) (fun c' hc' => by rw [e8]; exact s.2.2.1 c' hc') s3 s4 s5 (fun M2 g2 t2 => ?_)
      have e62 := t2.2.1 w (by omega)
      rw [updN_s] at e62
      refine gt_st hX (show N ≤ 8 by omega) hw (by rw [t2.1 0 (by omega), hN]) (m_nextN (v0 := a (12 + 4 * w + 1) + 1) t2.1 d (by omega) hlf (by omega) (by rw [e62, cI_s]) (t2.2.2.2.1 w hw) (fun q => absurd q (by omega)) (fun _ M3 n3 e83 e63 => ?_))
      refine ⟨fun _ => k M3 ((n.g.tr g2).tr n3.g) ?_, fun z => absurd rfl z⟩
      have t3 := SS.nf (w := w) (r := r) (l := l) ⟨t2.1, fun k hk => by have := t2.2.1 k (by omega); rw [updN_n (by omega)] at this; exact this, t2.2.2⟩ n3
      exact ⟨t3.1, t3.2.1, fun c' hc' => by rw [e83]; exact t2.2.2.1 c' hc', t3.2.2⟩
end GT
