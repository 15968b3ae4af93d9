/-! ===== the class's reader keeps to the grammar ===== -/
theorem cn_mono {K r : Nat} {M : Mem} {R1 R2 : Mem → Prop} (f : ∀ M, R1 M → R2 M) (h : P_X10_closeNots K M r R1) : P_X10_closeNots K M r R2 := fun X hX => h X (fun M body => hX M ⟨fun z => f _ (body.1 z), fun z => ⟨(body.2 z).1, fun y => f _ ((body.2 z).2.1 y), (body.2 z).2.2⟩⟩)
theorem c_join {K r l c : Nat} {M : Mem} {R : Int32 → Mem → Prop} {G : Mem → Prop} (hc : c ≤ 255) (hl : lvl c = l) (l0 : l ≠ 0) (l3 : l ≠ 3) (h : ∀ Z : Mem → Prop, (∀ M4, G M4 → Z M4) → P_X10_settleDownTo K M r (nI l) Z) (h2 : ∀ M4, G M4 → P_X10_push K M4 r (nI c) (fun v6 M7 => (v6 = 0 ∨ v6 = 1) ∧ R v6 M7)) : P_X10_joins K M r (nI c) R := by
  have hl5 := lvl_le c
  unfold P_X10_joins
  rw [lv_e, lv_n c (by omega), hl]
  refine ⟨fun _ => ⟨fun _ => ?_, fun z => absurd ((eq_nI (b := 3) (by omega) (by omega)).mp z) l3⟩, fun z => absurd ((eq_nI (b := 0) (by omega) (by omega)).mp z) l0⟩
  unfold B_X10_joins_22
  exact h _ (fun M4 g => ⟨fun _ => h2 M4 g, fun z => absurd ((eq_nI (b := 3) (by omega) (by omega)).mp z) l3⟩)
theorem c_join3 {K r c : Nat} {M : Mem} {R : Int32 → Mem → Prop} {G : Mem → Prop} (hc : c ≤ 255) (hl : lvl c = 3) (h : ∀ Z : Mem → Prop, (∀ M4, G M4 → Z M4) → P_X10_settleDownTo K M r (nI 4) Z) (h2 : ∀ M4, G M4 → ∃ T, M4 r 5 = nI T ∧ T ≤ 50 ∧ ((TOK r 3 T M4 ∧ P_X10_push K M4 r (nI c) (fun v6 M7 => (v6 = 0 ∨ v6 = 1) ∧ R v6 M7)) ∨ (∃ T1 c1, T = T1 + 1 ∧ M4 (r + 2) T1 = nI c1 ∧ c1 ≤ 255 ∧ lvl c1 = 3 ∧ R (nI 0) M4))) : P_X10_joins K M r (nI c) R := by
  unfold P_X10_joins
  rw [lv_e, lv_n c (by omega), hl]
  refine ⟨fun _ => ⟨fun z => absurd rfl z, fun _ => ?_⟩, fun z => absurd z (by decide)⟩
  unfold B_X10_joins_22
  refine h _ (fun M4 g => ⟨fun z => absurd rfl z, fun _ => ?_⟩)
  obtain ⟨T, e5, hT, q⟩ := h2 M4 g
  rw [e5]
  rcases q with ⟨tok, p⟩ | ⟨T1, c1, rfl, e, c2, c3, rr⟩
  · by_cases t0 : T = 0
    · subst t0
      exact br_t (by decide) p
    · rcases tok with t | ⟨c4, d1, d2, d3, _⟩
      · exact absurd t t0
      · obtain ⟨T, rfl⟩ : ∃ T', T = T' + 1 := ⟨T - 1, by omega⟩
        have d2 : M4 (r + 2) T = nI c4 := d2
        rw [nI_pred, cl_nI (by omega), lv_e, d2, lv_n c4 (by omega)]
        exact br_f (nI_nle (by omega) (by omega)) ⟨vp_in_nI (by omega) (by omega), fun _ => p, fun z => absurd ((eq_nI (b := 3) (by omega) (by omega)).mp z) (by omega)⟩
  · rw [nI_pred, cl_nI (by omega), lv_e, e, lv_n c1 (by omega), c3]
    exact br_f (nI_nle (by omega) (by omega)) ⟨vp_in_nI (by omega) (by omega), fun z => absurd rfl z, fun _ => rr⟩
theorem c_join0 {K r c : Nat} {M : Mem} {R : Int32 → Mem → Prop} (hc : c ≤ 255) (hl : lvl c = 0) (h : R (nI 0) M) : P_X10_joins K M r (nI c) R := by
  unfold P_X10_joins
  rw [lv_e, lv_n c (by omega), hl]
  exact ⟨fun z => absurd rfl z, fun _ => h⟩
def NXc (K r n : Nat) (bs : Nat → Nat) (m q : Nat) (M : Mem) : Prop := q < n → lvl (bs q) < m ∨ (m ≤ 3 ∧ lvl (bs q) = 3 ∧ PCc K r M)
def CL (K r n : Nat) (bs : Nat → Nat) (Q : Int32 → Mem → Prop) (X : Int32 → Int32 → Mem → Prop) (m O : Nat) (sub : Nat → Option V3 × Nat) : Prop := ∀ p M L T, p ≤ n → TPc n bs M → At r L T O M → L + T ≤ p → TOK r m T M →
  (∀ f, sub p = (none, f) → (∀ M', Fr r M M' → Q (nI f) M') → X (nI 1) (nI p) M) ∧
  (∀ v q, sub p = (some v, q) → (∀ M', Sm r L T M M' → M' r 6 = nI O → PD K r m T L v q O M' → NXc K r n bs m q M' → X (nI 0) (nI q) M') → X (nI 1) (nI p) M)
def CU (K r n : Nat) (bs : Nat → Nat) (Q : Int32 → Mem → Prop) (X : Int32 → Int32 → Mem → Prop) (O : Nat) (sub : Nat → Option V3 × Nat) : Prop := ∀ p M L T, p ≤ n → TPc n bs M → At r L T O M → L + T ≤ p →
  (∀ f, sub p = (none, f) → (∀ M', Fr r M M' → Q (nI f) M') → X (nI 1) (nI p) M) ∧
  (∀ v q, sub p = (some v, q) → (∀ M' L', Sm r L T M M' → At r L' T O M' → L' + T ≤ q → Seg (M' (r + 1)) L L' v → P_X10_closeNots K M' r (fun M2 => X (nI 0) (nI q) M2)) → X (nI 1) (nI p) M)
theorem ns_ne {v : V3} {q e : Nat} {A : Prop} (h : ((some v, q) : Option V3 × Nat) = (none, e)) : A := by
  injection h with h1 _
  exact absurd h1 (by simp)
theorem sn_ne {v : V3} {q e : Nat} {A : Prop} (h : ((none, e) : Option V3 × Nat) = (some v, q)) : A := by
  injection h with h1 _
  exact absurd h1 (by simp)
theorem ss_e {v w : V3} {q e : Nat} (h : ((some v, q) : Option V3 × Nat) = (some w, e)) : v = w ∧ q = e := by
  injection h with h1 h2
  injection h1 with h3
  exact ⟨h3, h2⟩
theorem nn_e {q e : Nat} (h : ((none, q) : Option V3 × Nat) = (none, e)) : q = e := by
  injection h with h1 h2
section RD2
variable {K r n u O : Nat} {bs : Nat → Nat} {Q : Int32 → Mem → Prop} {X : Int32 → Int32 → Mem → Prop} {sub : Nat → Option V3 × Nat}
/-- an operator that is read behind a value -/
theorem op_step {l T L q c : Nat} {v : V3} {M1 : Mem} (hX : RX K r u Q X) (hn : n ≤ 50) (tp : TPc n bs M1) (hq : q < n) (hc : bs q = c) (hb : c ≤ 255) (hl : lvl c = l) (l0 : l ≠ 0) (pd : PD K r (if l = 3 then 4 else l) T L v q O M1) (h3 : l = 3 → TOK r 3 T M1)
    (k : ∀ M3 L2, Sm r L T M1 M3 → At r L2 (T + 1) O M3 → L2 + T ≤ q → L ≤ L2 → Seg (M3 (r + 1)) L L2 v → M3 (r + 2) T = nI c → X (nI 1) (nI (q + 1)) M3) : X (nI 0) (nI q) M1 := by
  have h41 : c ≠ 41 := fun e => by rw [e] at hl; exact l0 (by rw [← hl]; decide)
  have pu : ∀ M4 L2, Sm r L T M1 M4 → At r L2 T O M4 → L2 + T ≤ q → Seg (M4 (r + 1)) L L2 v → P_X10_push K M4 r (nI c) (fun v6 M7 => (v6 = 0 ∨ v6 = 1) ∧ ((¬ v6 = 0 → X 1 (nI (q + 1)) M7) ∧ (v6 = 0 → Q (nI q) M7))) := fun M4 L2 s a hb2 sg => by
    refine c_push a.2.1 (by omega) ⟨Or.inr rfl, fun _ => ?_, fun z => absurd z (by decide)⟩
    have hs := sg.1
    refine k _ L2 (s.tr (L' := L) (T' := T) ⟨⟨fun k k0 k1 k2 => by rw [sf_ne k0, sf_ne k2], by rw [sf_j (by omega), sf_ne (by omega)]⟩, fun k hk => by rw [sf_ne (by omega), sf_ne (by omega)], fun k hk => by rw [sf_ne (by omega), sf_j (by omega)]⟩ (Nat.le_refl _) (Nat.le_refl _)) ⟨by rw [sf_j (by omega), sf_ne (by omega)]; exact a.1, sf_e rfl rfl, by rw [sf_j (by omega), sf_ne (by omega)]; exact a.2.2⟩ hb2 (by omega) (sg.cg (fun k k1 k2 => by rw [sf_ne (by omega), sf_ne (by omega)])) (by rw [sf_ne (by omega), sf_e rfl rfl])
  refine rb_in hX tp hn hq (fun z => absurd rfl z) (fun _ => ⟨fun _ => ?_, fun z => absurd ((eq_nI (b := 41) (by omega) (by omega)).mp z) (by rw [hc]; exact h41)⟩)
  rw [hc]
  by_cases e3 : l = 3
  · rw [if_pos e3] at pd
    refine c_join3 (G := fun M4 => ∃ L2, Sm r L T M1 M4 ∧ At r L2 T O M4 ∧ L2 + T ≤ q ∧ Seg (M4 (r + 1)) L L2 v) hb (by rw [hl]; exact e3) (fun Z hZ => pd Z (fun M' L' s a hb2 sg => hZ M' ⟨L', s, a, hb2, sg⟩)) (fun M4 g => ?_)
    obtain ⟨L2, s, a, hb2, sg⟩ := g
    exact ⟨T, a.2.1, by omega, Or.inl ⟨(h3 e3).sm s, pu M4 L2 s a hb2 sg⟩⟩
  · rw [if_neg e3] at pd
    refine c_join (G := fun M4 => ∃ L2, Sm r L T M1 M4 ∧ At r L2 T O M4 ∧ L2 + T ≤ q ∧ Seg (M4 (r + 1)) L L2 v) hb hl l0 e3 (fun Z hZ => pd Z (fun M' L' s a hb2 sg => hZ M' ⟨L', s, a, hb2, sg⟩)) (fun M4 g => ?_)
    obtain ⟨L2, s, a, hb2, sg⟩ := g
    exact pu M4 L2 s a hb2 sg
theorem CL_op {l : Nat} (hl : l = 1 ∨ l = 2 ∨ l = 4 ∨ l = 5) (hX : RX K r u Q X) (hr : 69 ≤ r) (hn : n ≤ 50) (hb : ∀ i, i < n → bs i ≤ 255) (hp : PB n sub) (hs : CL K r n bs Q X (l + 1) O sub) : CL K r n bs Q X l O (oqP bs n l sub) := by
  intro p M L T hpn tp a hLT tok
  have tok1 : TOK r (l + 1) T M := by
    rcases tok with t | ⟨c, c1, c2, c3, c4⟩
    · exact Or.inl t
    · exact Or.inr ⟨c, c1, c2, by omega, c4⟩
  have LP : ∀ f v q M1, n ≤ q + f → q ≤ n → Sm r L T M M1 → M1 r 6 = nI O → PD K r l T L v q O M1 → NXc K r n bs (l + 1) q M1 →
     (∀ e, lpP bs n l sub f v q = (none, e) → (∀ M', Fr r M M' → Q (nI e) M') → X (nI 0) (nI q) M1) ∧
     (∀ w q2, lpP bs n l sub f v q = (some w, q2) → (∀ M', Sm r L T M M' → M' r 6 = nI O → PD K r l T L w q2 O M' → NXc K r n bs l q2 M' → X (nI 0) (nI q2) M') → X (nI 0) (nI q) M1) := by
    intro f
    induction f with
    | zero =>
      intro v q M1 hf hq s o pd nx
      refine ⟨fun e he => ns_ne he, fun w q2 he k => ?_⟩
      obtain ⟨rfl, rfl⟩ := ss_e he
      exact k M1 s o pd (fun h => absurd h (by omega))
    | succ f ih =>
      intro v q M1 hf hq s o pd nx
      rw [lpP_s]
      by_cases c : q < n ∧ lvl (bs q) = l
      · rw [if_pos c]
        have tp1 := tp.fr hr s.1
        have tokM1 := tok.sm s
        have st : (∀ M3 L2, Sm r L T M1 M3 → At r L2 (T + 1) O M3 → L2 + T ≤ q → L ≤ L2 → Seg (M3 (r + 1)) L L2 v → M3 (r + 2) T = nI (bs q) → X (nI 1) (nI (q + 1)) M3) → X (nI 0) (nI q) M1 := fun k => op_step hX hn tp1 c.1 rfl (hb q c.1) c.2 (by omega) (by rw [if_neg (by omega)]; exact pd) (fun e => absurd e (by omega)) k
        have tk3 : ∀ M3 : Mem, M3 (r + 2) T = nI (bs q) → TOK r (l + 1) (T + 1) M3 := fun M3 e => Or.inr ⟨bs q, hb q c.1, e, by omega, fun e33 => by rw [e33] at c; exact absurd c.2 (by rw [show lvl 33 = 0 by decide]; omega)⟩
        rcases ex_r (sub (q + 1)) with ⟨e, he⟩ | ⟨w, q', he⟩
        · rw [he, bnd_n]
          refine ⟨fun e2 he2 k => ?_, fun w q2 he2 => sn_ne he2⟩
          have := nn_e he2
          subst this
          exact st (fun M3 L2 s3 a3 h3 h4 sg e3 => (hs (q + 1) M3 L2 (T + 1) (by omega) (tp1.fr hr s3.1) a3 (by omega) (tk3 M3 e3)).1 e he (fun M' f' => k M' ((s.1.tr s3.1).tr f')))
        · rw [he, bnd_s]
          have b := (hp (q + 1) (by omega)).1 w q' he
          have nxt : ∀ M3 L2 M4, Sm r L T M1 M3 → L2 + T ≤ q → L ≤ L2 → Seg (M3 (r + 1)) L L2 v → M3 (r + 2) T = nI (bs q) → Sm r L2 (T + 1) M3 M4 → PD K r (l + 1) (T + 1) L2 w q' O M4 → Sm r L T M M4 ∧ PD K r l T L (jn (bs q) v w) q' O M4 := fun M3 L2 M4 s3 h3 h4 sg e3 s4 pd4 => by
            have s14 : Sm r L T M M4 := (s.tr s3 (Nat.le_refl _) (Nat.le_refl _)).tr s4 h4 (by omega)
            exact ⟨s14, pd4.jo (hb q c.1) (by rw [s4.2.2 T (by omega)]; exact e3) (by omega) (by omega) (by omega) (by omega) (by omega) h4 (sg.cg (fun k k1 k2 => s4.2.1 k k2)) (tok.sm s14)⟩
          refine ⟨fun e2 he2 k => ?_, fun w2 q2 he2 k => ?_⟩
          · exact st (fun M3 L2 s3 a3 h3 h4 sg e3 => (hs (q + 1) M3 L2 (T + 1) (by omega) (tp1.fr hr s3.1) a3 (by omega) (tk3 M3 e3)).2 w q' he (fun M4 s4 o4 pd4 nx4 => by
              obtain ⟨s14, pd5⟩ := nxt M3 L2 M4 s3 h3 h4 sg e3 s4 pd4
              exact (ih (jn (bs q) v w) q' M4 (by omega) b.2 s14 o4 pd5 nx4).1 e2 he2 k))
          · exact st (fun M3 L2 s3 a3 h3 h4 sg e3 => (hs (q + 1) M3 L2 (T + 1) (by omega) (tp1.fr hr s3.1) a3 (by omega) (tk3 M3 e3)).2 w q' he (fun M4 s4 o4 pd4 nx4 => by
              obtain ⟨s14, pd5⟩ := nxt M3 L2 M4 s3 h3 h4 sg e3 s4 pd4
              exact (ih (jn (bs q) v w) q' M4 (by omega) b.2 s14 o4 pd5 nx4).2 w2 q2 he2 k))
      · rw [if_neg c]
        refine ⟨fun e he => ns_ne he, fun w q2 he k => ?_⟩
        obtain ⟨rfl, rfl⟩ := ss_e he
        refine k M1 s o pd (fun h => ?_)
        rcases nx h with z | ⟨z1, z2, z3⟩
        · exact Or.inl (by
            have : lvl (bs q) ≠ l := fun e => c ⟨h, e⟩
            omega)
        · exact Or.inr ⟨by omega, z2, z3⟩
  unfold oqP
  rcases ex_r (sub p) with ⟨e, he⟩ | ⟨v, q, he⟩
  · rw [he, bnd_n]
    refine ⟨fun f hf k => ?_, fun w q2 he2 => sn_ne he2⟩
    have := nn_e hf
    subst this
    exact (hs p M L T hpn tp a hLT tok1).1 e he k
  · rw [he, bnd_s]
    have b := (hp p hpn).1 v q he
    have go := (hs p M L T hpn tp a hLT tok1).2 v q he
    refine ⟨fun f hf k => go (fun M' s o pd nx => ?_), fun w q2 he2 k => go (fun M' s o pd nx => ?_)⟩
    · exact (LP (n - q) v q M' (by omega) b.2 s o (pd.weak (by omega) (by omega) (by omega) (tok.sm s)) nx).1 f hf k
    · exact (LP (n - q) v q M' (by omega) b.2 s o (pd.weak (by omega) (by omega) (by omega) (tok.sm s)) nx).2 w q2 he2 k
theorem CL_cm (hX : RX K r u Q X) (hr : 69 ≤ r) (hn : n ≤ 50) (hb : ∀ i, i < n → bs i ≤ 255) (hp : PB n sub) (hs : CL K r n bs Q X 4 O sub) : CL K r n bs Q X 3 O (cmP bs n sub) := by
  intro p M L T hpn tp a hLT tok
  have tok1 : TOK r 4 T M := by
    rcases tok with t | ⟨c, c1, c2, c3, c4⟩
    · exact Or.inl t
    · exact Or.inr ⟨c, c1, c2, by omega, c4⟩
  unfold cmP
  rcases ex_r (sub p) with ⟨e, he⟩ | ⟨v, q, he⟩
  · rw [he, bnd_n]
    refine ⟨fun f hf k => ?_, fun w q2 he2 => sn_ne he2⟩
    have := nn_e hf
    subst this
    exact (hs p M L T hpn tp a hLT tok1).1 e he k
  · rw [he, bnd_s]
    have b := (hp p hpn).1 v q he
    have go := (hs p M L T hpn tp a hLT tok1).2 v q he
    by_cases c : q < n ∧ lvl (bs q) = 3
    · rw [if_pos c]
      have st : ∀ M1, Sm r L T M M1 → PD K r 4 T L v q O M1 → (∀ M3 L2, Sm r L T M1 M3 → At r L2 (T + 1) O M3 → L2 + T ≤ q → L ≤ L2 → Seg (M3 (r + 1)) L L2 v → M3 (r + 2) T = nI (bs q) → X (nI 1) (nI (q + 1)) M3) → X (nI 0) (nI q) M1 := fun M1 s pd k => op_step hX hn (tp.fr hr s.1) c.1 rfl (hb q c.1) c.2 (by omega) (by rw [if_pos rfl]; exact pd) (fun _ => tok.sm s) k
      have tk3 : ∀ M3 : Mem, M3 (r + 2) T = nI (bs q) → TOK r 4 (T + 1) M3 := fun M3 e => Or.inr ⟨bs q, hb q c.1, e, by omega, fun e33 => by rw [e33] at c; exact absurd c.2 (by decide)⟩
      rcases ex_r (sub (q + 1)) with ⟨e, he2⟩ | ⟨w, q', he2⟩
      · rw [he2, bnd_n]
        refine ⟨fun e3 he3 k => go (fun M1 s o pd nx => st M1 s pd (fun M3 L2 s3 a3 h3 h4 sg e3 => ?_)), fun w q2 he2 => sn_ne he2⟩
        have := nn_e he3
        subst this
        exact (hs (q + 1) M3 L2 (T + 1) (by omega) ((tp.fr hr s.1).fr hr s3.1) a3 (by omega) (tk3 M3 e3)).1 e he2 (fun M' f' => k M' ((s.1.tr s3.1).tr f'))
      · rw [he2, bnd_s]
        have b2 := (hp (q + 1) (by omega)).1 w q' he2
        refine ⟨fun e he => ns_ne he, fun w2 q2 he3 k => go (fun M1 s o pd nx => st M1 s pd (fun M3 L2 s3 a3 h3 h4 sg e3 => ?_))⟩
        obtain ⟨rfl, rfl⟩ := ss_e he3
        refine (hs (q + 1) M3 L2 (T + 1) (by omega) ((tp.fr hr s.1).fr hr s3.1) a3 (by omega) (tk3 M3 e3)).2 w q' he2 (fun M4 s4 o4 pd4 nx4 => ?_)
        have s14 : Sm r L T M M4 := (s.tr s3 (Nat.le_refl _) (Nat.le_refl _)).tr s4 h4 (by omega)
        refine k M4 s14 o4 (pd4.jo (hb q c.1) (by rw [s4.2.2 T (by omega)]; exact e3) (by omega) (by omega) (by omega) (by omega) (by omega) h4 (sg.cg (fun k k1 k2 => s4.2.1 k k2)) (tok.sm s14)) (fun h => ?_)
        rcases nx4 h with z | ⟨z1, _⟩
        · by_cases z3 : lvl (bs q') = 3
          · exact Or.inr ⟨Nat.le_refl _, z3, fun Q' hQ' => pd4 Q' (fun M' L' s' a' hb' sg' => hQ' M' T (bs q) s'.1 a'.2.1 (by omega) (by rw [s'.2.2 T (by omega), s4.2.2 T (by omega)]; exact e3) c.2 (hb q c.1))⟩
          · exact Or.inl (by omega)
        · omega
    · rw [if_neg c]
      refine ⟨fun e he => ns_ne he, fun w2 q2 he3 k => go (fun M1 s o pd nx => ?_)⟩
      obtain ⟨rfl, rfl⟩ := ss_e he3
      refine k M1 s o (pd.weak (by omega) (by omega) (by omega) (tok.sm s)) (fun h => ?_)
      rcases nx h with z | ⟨z1, _⟩
      · exact Or.inl (by
          have : lvl (bs q) ≠ 3 := fun e => c ⟨h, e⟩
          omega)
      · omega
theorem CL_6 (hn : n ≤ 50) (hp : PB n sub) (hs : CU K r n bs Q X O sub) : CL K r n bs Q X 6 O sub := by
  intro p M L T hpn tp a hLT tok
  refine ⟨(hs p M L T hpn tp a hLT).1, fun v q he k => (hs p M L T hpn tp a hLT).2 v q he (fun M' L' s a' hb' sg => ?_)⟩
  have b := (hp p hpn).1 v q he
  refine cn_end a'.2.1 (by omega) ?_ (k M' s a'.2.2 (PD.base a' hb' (by omega) (Nat.le_refl _) sg (tok.sm s)) (fun h => Or.inl (by have := lvl_le (bs q); omega)))
  rcases tok.sm s with t | ⟨c, c1, c2, c3, c4⟩
  · exact Or.inl t
  · exact Or.inr ⟨c, c1, c2, c4⟩
theorem CL_ei (hX : RX K r u Q X) (hr : 69 ≤ r) (hn : n ≤ 50) (hb : ∀ i, i < n → bs i ≤ 255) (hp : PB n sub) (hs : CU K r n bs Q X O sub) : CL K r n bs Q X 1 O (eiP bs n sub) :=
  have h5 := CL_op (Or.inr (Or.inr (Or.inr rfl))) hX hr hn hb hp (CL_6 hn hp hs)
  have h4 := CL_op (Or.inr (Or.inr (Or.inl rfl))) hX hr hn hb (oqP_b hp) h5
  have h3 := CL_cm hX hr hn hb (oqP_b (oqP_b hp)) h4
  have h2 := CL_op (Or.inr (Or.inl rfl)) hX hr hn hb (cmP_b (oqP_b (oqP_b hp))) h3
  CL_op (Or.inl rfl) hX hr hn hb (oqP_b (cmP_b (oqP_b (oqP_b hp)))) h2
/-- behind a whole value no sign but one that closes goes on -/
theorem stuck {q : Nat} {M : Mem} (hX : RX K r u Q X) (hn : n ≤ 50) (hb : ∀ i, i < n → bs i ≤ 255) (tp : TPc n bs M) (hq : q < n) (h41 : bs q ≠ 41) (nx : NXc K r n bs 1 q M) (k : ∀ M', Fr r M M' → Q (nI q) M') : X (nI 0) (nI q) M := by
  have hbq := hb q hq
  refine rb_in hX tp hn hq (fun z => absurd rfl z) (fun _ => ⟨fun _ => ?_, fun z => absurd ((eq_nI (b := 41) (by omega) (by omega)).mp z) h41⟩)
  rcases nx hq with z | ⟨_, z2, z3⟩
  · exact c_join0 hbq (by omega) ⟨fun z => absurd rfl z, fun _ => k M Fr.rf⟩
  · refine c_join3 (G := fun M1 => ∃ T1 c, Fr r M M1 ∧ M1 r 5 = nI (T1 + 1) ∧ T1 < 50 ∧ M1 (r + 2) T1 = nI c ∧ lvl c = 3 ∧ c ≤ 255) hbq z2 (fun Z hZ => z3 Z (fun M1 T1 c f h5 hT e hl hc => hZ M1 ⟨T1, c, f, h5, hT, e, hl, hc⟩)) (fun M4 g => ?_)
    obtain ⟨T1, c, f, h5, hT, e, hl, hc⟩ := g
    exact ⟨T1 + 1, h5, by omega, Or.inr ⟨T1, c, rfl, e, hc, hl, fun z => absurd rfl z, fun _ => k M4 f⟩⟩
end RD2
