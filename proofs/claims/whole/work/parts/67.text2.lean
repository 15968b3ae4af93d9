/-! ===== a text comes into its place ===== -/
theorem TC.k3 {K t t' : Nat} {F F' : Ft} {M M' : Mem} {r : Nat} {v : V3} (h : TC K t F M r v) (ht : t ≤ t') (hF : ∀ i, i ≤ t → F' i = F i) (hk : ∀ k, 69 ≤ k → k < 69 + K → (∀ j, k ≠ 71 + 3 * j) → M' k = M k) : TC (K + 3) t' F' M' r v := by
  obtain ⟨j, i, h1, h2, h3, h4, h5, ⟨len, h6, h7, h8⟩, h9⟩ := h
  refine ⟨j, i, h1, by omega, h3, by omega, ?_, ⟨len, h6, ?_, ?_⟩, fun o n hh q1 q2 => ?_⟩
  · rw [hk r (by omega) (by omega) (fun j => by omega)]; exact h5
  · rw [hk r (by omega) (by omega) (fun j => by omega)]; exact h7
  · rw [hk (r + 1) (by omega) (by omega) (fun j => by omega)]; exact h8
  · rw [hF i h4]
    exact h9 o n hh q1 q2
theorem TR.k3 {g K t t' : Nat} {F F' : Ft} {M M' : Mem} {a : Nat → Nat} {V : Vt} (h : TR g K t F M a V) (ht : t ≤ t') (hF : ∀ i, i ≤ t → F' i = F i) (h0 : M' (g + 12) = M (g + 12)) (hk : ∀ k, 69 ≤ k → k < 69 + K → (∀ j, k ≠ 71 + 3 * j) → M' k = M k) : TR g (K + 3) t' F' M' a V := fun u hu => by
  rw [h0]
  rcases h u hu with q | ⟨q, r, e, z⟩
  · exact Or.inl q
  · exact Or.inr ⟨q, r, e, z.k3 ht hF hk⟩
theorem HB.k3 {g K t t' : Nat} {F F' : Ft} {M M' : Mem} {a : Nat → Nat} {V : Vt} (h : HB K t F g M a V) (ht : t ≤ t') (hF : ∀ i, i ≤ t → F' i = F i) (h0 : ∀ k, g ≤ k → k ≤ g + 12 → M' k = M k) (hk : ∀ k, 69 ≤ k → k < 69 + K → (∀ j, k ≠ 71 + 3 * j) → M' k = M k) : HB (K + 3) t' F' g M' a V :=
  ⟨h.1.keep (fun k k1 k2 => h0 k k1 (by omega)), h.2.1.k3 ht hF (h0 _ (by omega) (by omega)) hk, fun l hl => by rw [h0 (g + 5) (by omega) (by omega)]; exact h.2.2 l hl⟩
theorem R43.k3 {K : Nat} {M M' : Mem} (h : R43 K M) (e1 : M' 48 = M 48) (e2 : M' 55 = M 55) : R43 (K + 3) M' := by
  unfold R43
  rw [e1, e2]
  exact ⟨fun j hj => by have := h.1 j hj; omega, fun j hj => by have := h.2 j hj; omega⟩
theorem R56.k3 {K : Nat} {M M' : Mem} (h : R56 K M) (e1 : M' 61 = M 61) (e2 : M' 68 = M 68) : R56 (K + 3) M' := by
  unfold R56
  rw [e1, e2]
  exact ⟨fun j hj => by have := h.1 j hj; omega, fun j hj => by have := h.2 j hj; omega⟩
theorem Iv1.k3 {K t t' im : Nat} {F F' : Ft} {Mc Mm Mc' Mm' : Mem} {b : Nat → Nat} {W : Vt} (h : Iv1 K t F Mc Mm b W im) (ht : t ≤ t') (hF : ∀ i, i ≤ t → F' i = F i) (h0 : ∀ k, 43 ≤ k → k < 69 + K → (∀ j, k ≠ 71 + 3 * j) → Mc' k = Mc k) (e2 : Mm' 2 = Mm 2) : Iv1 (K + 3) t' F' Mc' Mm' b W im := by
  refine ⟨h.1.k3 (h0 _ (by omega) (by omega) (fun j => by omega)) (h0 _ (by omega) (by omega) (fun j => by omega)), ?_⟩
  rcases h.2 with ⟨z, r⟩ | ⟨h1, h2, h3, h4⟩
  · exact Or.inl ⟨z, r.k3 (h0 _ (by omega) (by omega) (fun j => by omega)) (h0 _ (by omega) (by omega) (fun j => by omega))⟩
  · exact Or.inr ⟨h1.k3 ht hF (fun k k1 k2 => h0 k (by omega) (by omega) (fun j => by omega)) (fun k k1 k2 k3 => h0 k (by omega) k2 k3), fun k hk => by rw [e2]; exact h2 k hk, h3, h4⟩
/-- the tape's bytes come to a use's place -/
def cpA (a : Nat → Nat) (u n w : Nat) : Nat → Nat := fun k => if k = 9 then 0 else if k = 90 + u then n else if 112 + 50 * u ≤ k ∧ k < 112 + 50 * u + w then a (212 + (k - (112 + 50 * u))) else a k
theorem cpA_n {a : Nat → Nat} {u n w k : Nat} (hu : u < 2) (hw : w ≤ 50) (h9 : k ≠ 9) (h90 : k ≠ 90 + u) (h : k < 112 + 50 * u ∨ 112 + 50 * u + w ≤ k) : cpA a u n w k = a k := by
  unfold cpA
  rw [if_neg h9, if_neg h90, if_neg (by omega)]
theorem cpA_b {a : Nat → Nat} {u n w i : Nat} (hu : u < 2) (hi : i < w) : cpA a u n w (112 + 50 * u + i) = a (212 + i) := by
  unfold cpA
  rw [if_neg (by omega), if_neg (by omega), if_pos (by omega), show 112 + 50 * u + i - (112 + 50 * u) = i by omega]
theorem cpA_ok {a : Nat → Nat} {u n w : Nat} (d : DOK a) (hu : u < 2) (hn : n ≤ 50) (hw : w ≤ 50) : DOK (cpA a u n w) := by
  have d0 := d.1.1
  have d2 := d.1.2.2
  have dt := d.2.2.2.2.1
  have e90 : ∀ x, x < 2 → cpA a u n w (90 + x) ≤ 50 := fun x hx => by
    by_cases q : x = u
    · have : cpA a u n w (90 + x) = n := by
        unfold cpA
        rw [if_neg (by omega), if_pos (by omega)]
      omega
    · rw [cpA_n hu hw (by omega) (by omega) (by omega)]
      rcases (show x = 0 ∨ x = 1 by omega) with rfl | rfl
      · exact dt.2.2.1
      · exact dt.2.2.2
  unfold DOK
  rw [cpA_n (k := 0) hu hw (by omega) (by omega) (by omega), cpA_n (k := 1) hu hw (by omega) (by omega) (by omega), cpA_n (k := 2) hu hw (by omega) (by omega) (by omega), cpA_n (k := 3) hu hw (by omega) (by omega) (by omega), cpA_n (k := 4) hu hw (by omega) (by omega) (by omega), cpA_n (k := 5) hu hw (by omega) (by omega) (by omega), cpA_n (k := 6) hu hw (by omega) (by omega) (by omega), cpA_n (k := 7) hu hw (by omega) (by omega) (by omega), cpA_n (k := 10) hu hw (by omega) (by omega) (by omega)]
  refine ⟨d.1, d.2.1, fun x hx => ?_, fun l hl => ?_, ⟨by show 0 ≤ 50; omega, dt.2.1, e90 0 (by omega), e90 1 (by omega)⟩, fun i hi => ?_, fun i hi => ?_, fun c c1 c2 => ?_⟩
  · rw [cpA_n (k := 12 + 4 * x) hu hw (by omega) (by omega) (by omega), cpA_n (k := 12 + 4 * x + 1) hu hw (by omega) (by omega) (by omega), cpA_n (k := 12 + 4 * x + 2) hu hw (by omega) (by omega) (by omega), cpA_n (k := 12 + 4 * x + 3) hu hw (by omega) (by omega) (by omega)]
    exact d.2.2.1 x hx
  · rw [cpA_n (k := 44 + 3 * l) hu hw (by omega) (by omega) (by omega), cpA_n (k := 44 + 3 * l + 1) hu hw (by omega) (by omega) (by omega), cpA_n (k := 44 + 3 * l + 2) hu hw (by omega) (by omega) (by omega)]
    exact d.2.2.2.1 l hl
  · rw [cpA_n hu hw (by omega) (by omega) (by omega)]
    exact d.2.2.2.2.2.1 i hi
  · by_cases q : 112 + 50 * u ≤ 112 + i ∧ 112 + i < 112 + 50 * u + w
    · have : cpA a u n w (112 + i) = a (212 + (112 + i - (112 + 50 * u))) := by
        unfold cpA
        rw [if_neg (by omega), if_neg (by omega), if_pos q]
      rw [this]
      exact d.2.2.2.2.2.1 _ (by omega)
    · rw [cpA_n hu hw (by omega) (by omega) (by omega)]
      exact d.2.2.2.2.2.2.1 i hi
  · rw [cntC_eq (b := a) _ (fun i hi => cpA_n hu hw (by omega) (by omega) (by omega))]
    exact d.2.2.2.2.2.2.2 c c1 c2
/-- a house whose tape is empty, and whose texts may be others -/
theorem HR.tx {g : Nat} {M M' : Mem} {a a' : Nat → Nat} (h : HR g M a) (d : DOK a) (hM : ∀ k, g ≤ k → k < g + 12 → k ≠ g + 8 → M' k = M k) (h8 : M' (g + 8) 1 = nI 0) (e9 : a' 9 = 0) (ha : ∀ k, k ≠ 9 → k < 90 ∨ (92 ≤ k ∧ k < 112) → a' k = a k) : HR g M' a' := by
  have d0 := d.1.1
  have d2 := d.1.2.2
  have dt := d.2.2.2.2.1
  unfold HR
  rw [e9, ha 0 (by omega) (by omega), ha 1 (by omega) (by omega), ha 2 (by omega) (by omega), ha 3 (by omega) (by omega), ha 4 (by omega) (by omega), ha 5 (by omega) (by omega), ha 6 (by omega) (by omega), ha 7 (by omega) (by omega), ha 8 (by omega) (by omega), ha 10 (by omega) (by omega)]
  rw [hM g (by omega) (by omega) (by omega), hM (g + 1) (by omega) (by omega) (by omega), hM (g + 2) (by omega) (by omega) (by omega), hM (g + 3) (by omega) (by omega) (by omega), hM (g + 4) (by omega) (by omega) (by omega), hM (g + 5) (by omega) (by omega) (by omega), hM (g + 6) (by omega) (by omega) (by omega), hM (g + 7) (by omega) (by omega) (by omega), hM (g + 10) (by omega) (by omega) (by omega), hM (g + 11) (by omega) (by omega) (by omega)]
  refine ⟨h.1, h.2.1, fun w hw => ?_, fun l hl => ?_, ⟨h8, fun i hi => absurd hi (by omega)⟩, h.2.2.2.2.2.1, fun i hi => ?_⟩
  · rw [ha (12 + 4 * w) (by omega) (by omega), ha (12 + 4 * w + 1) (by omega) (by omega), ha (12 + 4 * w + 2) (by omega) (by omega), ha (12 + 4 * w + 3) (by omega) (by omega)]
    exact h.2.2.1 w hw
  · rw [ha (44 + 3 * l) (by omega) (by omega), ha (44 + 3 * l + 1) (by omega) (by omega), ha (44 + 3 * l + 2) (by omega) (by omega)]
    exact h.2.2.2.1 l hl
  · rw [ha (92 + i) (by omega) (by omega)]
    exact h.2.2.2.2.2.2 i hi
theorem m_copyT {M : Mem} {a : Nat → Nat} {u n : Nat} {Q : Int32 → Mem → Prop} (hu : u < 2) (hn : n ≤ 50) (h : MR M (cpA a u n 0)) (hQ : ∀ M', (∀ k, k ≠ 1 → M' k = M k) → MR M' (cpA a u n n) → Q (nI 1) M') : B_X12_text_70 Q (nI u) (nI n) (nI 0) M := by
  unfold B_X12_text_70
  intro X hX
  have key : ∀ f i (M1 : Mem), i + f = n → (∀ k, k ≠ 1 → M1 k = M k) → MR M1 (cpA a u n i) → X (nI i) M1 := by
    intro f
    induction f with
    | zero =>
      intro i M1 hi k1 h1
      obtain rfl : i = n := by omega
      apply hX
      exact br_t (nI_le (Nat.le_refl _) (by omega)) (hQ M1 k1 h1)
    | succ f ih =>
      intro i M1 hi k1 h1
      apply hX
      have e1 : (212 : Int32) + nI i = nI (212 + i) := nI_add 212 i
      have e2 : (112 : Int32) + 50 * nI u + nI i = nI (112 + 50 * u + i) := by
        rw [show (50 : Int32) = nI 50 from rfl, pk_mul, show (112 : Int32) = nI 112 from rfl, nI_add, nI_add]
      rw [e1, e2, cl_nI (by omega), cl_nI (by omega), h1 (212 + i) (by omega), cpA_n hu (by omega) (by omega) (by omega) (by omega)]
      refine br_f (nI_ge (by omega) (by omega)) ⟨vp_in_nI (by omega) (by omega), vp_in_nI (by omega) (by omega), ?_⟩
      rintro _ rfl _ rfl
      rw [nI_1]
      refine ih (i + 1) _ (by omega) (fun k k3 => by rw [sf_ne k3]; exact k1 k k3) (fun k hk => ?_)
      by_cases q : k = 112 + 50 * u + i
      · subst q
        rw [sf_e rfl rfl, cpA_b hu (by omega)]
      · rw [sf_j q, h1 k hk]
        congr 1
        unfold cpA
        by_cases z1 : k = 9
        · rw [if_pos z1, if_pos z1]
        · rw [if_neg z1, if_neg z1]
          by_cases z2 : k = 90 + u
          · rw [if_pos z2, if_pos z2]
          · rw [if_neg z2, if_neg z2]
            by_cases z3 : 112 + 50 * u ≤ k ∧ k < 112 + 50 * u + i
            · rw [if_pos z3, if_pos (by omega)]
            · rw [if_neg z3, if_neg (by omega)]
  exact key n 0 M (by omega) (fun _ _ => rfl) h
set_option maxHeartbeats 4000000 in
theorem lo_17 {n K : Nat} {Mc Mm : Mem} (a1 a2 a3 a4 a5 : Int32) (hn : n < 512) (hI : Inv n K Mc Mm) : LO_17 Inv n K Mc Mm a1 a2 a3 a4 a5 := by
  have hE := hI.er hn
  have hU := hI.up hn
  obtain ⟨a, b, V, W, F, t, im, hb, mo, ⟨hB, mr, d, v⟩, i1, i2⟩ := hI
  have h := hB.1
  have tr := hB.2.1
  have kd := hB.2.2
  have c := hb.cx mo
  have d0 := d.1.1
  have d1 := d.1.2.1
  have d2 := d.1.2.2
  have dh := d.2.1
  have dt := d.2.2.2.2.1
  have f0 : Mc 30 0 = nI (a 0) := h.1.1
  have f1 : Mc 30 1 = nI (a 1) := h.1.2.1
  have f2 : Mc 30 2 = nI (a 2) := h.1.2.2
  have g0 : Mm 1 0 = nI (a 0) := mr 0 (by omega)
  have g1 : Mm 1 1 = nI (a 1) := mr 1 (by omega)
  have g2 : Mm 1 2 = nI (a 2) := mr 2 (by omega)
  unfold LO_17
  rcases rng a1 1 (by omega) with ⟨u, hu, rfl⟩ | xu | xu
  · have isu : ∀ {R : Int32 → Prop}, R 1 → P_X11_isUse (nI u) R := fun hq => by
      rcases (show u = 0 ∨ u = 1 by omega) with rfl | rfl
      · exact ⟨fun _ => hq, fun z => absurd rfl z⟩
      · exact ⟨fun z => absurd z (by decide), fun _ => ⟨fun z => absurd rfl z, fun _ => hq⟩⟩
    have hK := c.2.2.1
    have hK3 := hb.2.2.2.1
    have hu2 : u < 2 := by omega
    have f9 : Mc 38 1 = nI (a 9) := h.2.2.2.2.1.1
    have g9 : Mm 1 9 = nI (a 9) := mr 9 (by omega)
    obtain ⟨j1, j2, j3, j4, j5, j6⟩ := i2
    have hbs : ∀ i, i < a 9 → a (212 + i) ≤ 255 := fun i hi => d.2.2.2.2.2.1 i (by omega)
    have rok : refOK K Mc := by
      refine ⟨hK3, fun g hg => ?_⟩
      rcases hg with rfl | rfl | rfl
      · exact ⟨fun j hj => kdb (kd j hj), fun j hj => trb c tr hj⟩
      · exact i1.1
      · rcases i1.2 with ⟨_, r56⟩ | ⟨hW, _⟩
        · exact r56
        · exact ⟨fun j hj => kdb (hW.2.2 j hj), fun j hj => trb c hW.2.1 hj⟩
    have tn : ∀ k, k < 69 + K → tnew K Mc (Mc 0 10 + 1) k = Mc k := fun k hk => by
      unfold tnew
      rw [if_neg (by omega), if_neg (by omega)]
    have tnr : tnew K Mc (Mc 0 10 + 1) (69 + K) = fun j => if j = 0 then Mc 0 10 + 1 else 0 := if_pos rfl
    have mr0 : MR (sf Mm 1 9 (nI 0)) (updN a 9 0) := mr.up 9 0
    unfold P_X11_text
    refine isu ⟨fun _ => ⟨vp_in_nI (by omega) (by omega), rok, cl_nI (by omega), ?_⟩, fun z => absurd z (by decide)⟩
    refine c_read (n := a 9) (bs := fun i => a (212 + i)) (by omega) (by omega) hbs hu2 ⟨by rw [tn 38 (by omega)]; exact f9, fun i hi => by rw [tn 39 (by omega)]; exact h.2.2.2.2.1.2 i hi⟩ ⟨by rw [tnr]; rfl, by rw [tnr]; rfl, by rw [tnr]; rfl⟩ (fun f hf M1 fr => ?_) (fun v' q hv M1 L fr hL e3 sg => ?_)
    · have hfl := txP_le hf
      rintro _ rfl
      refine ⟨fun z => absurd z (nI_pos (by omega)), fun _ => ?_⟩
      have mk : ∀ k, k < 69 + K → k ≠ 38 → sf M1 38 1 0 k = Mc k := fun k h1 h2 => by rw [sf_ne h2, fr.1 k (by omega) (by omega) (by omega), tn k h1]
      have e38 : sf M1 38 1 0 38 1 = nI 0 := sf_e rfl rfl
      generalize sf M1 38 1 0 = M2 at *
      simp (disch := omega) only [i_lit, l_0, l_1, l_2, l_3, l_5, l_6, l_8, l_9, l_23, l_24, l_48, l_57, l_69, l_100, in_e, ci_e, lt_t, lt_f, le_t, le_f, eq_t, eq_f, nI_add, Nat.add_zero, xl_t, xl_f, xg_t, xg_f, xle_t, xle_f, xge_t, xge_f, xe_f, ci_t, ci_f, cx_t, cx_f, cn_t, cn_f, cp_t, cp_f, vi_t, cl_nI, c_er, m_er, eq_self, true_and, and_true, true_implies, false_implies, implies_true, not_true_eq_false, not_false_eq_true, true_or, or_true, forall_eq, P_X12_text, g9]
      refine m_worked (bs := fun i => a (212 + i)) (by omega) (by omega) hbs hu2 (fun i hi => by rw [mr0 (212 + i) (by omega), updN_n (by omega)]) (fun f2 hf2 M3 w s3 h8 => ?_) (fun v2 q2 hv2 => sn_ne (hf.symm.trans hv2))
      have e2 := nn_e (hf.symm.trans hf2)
      subst e2
      rw [h8]
      refine ⟨fun z => absurd z (nI_pos (by omega)), fun _ => ⟨rfl, ?_⟩⟩
      have mm : ∀ k, k ≠ 0 → k ≠ 1 → k ≠ 5 → M3 k = Mm k := fun k h0 h1 h5 => by rw [s3.1 k h0 h5, sf_ne h1]
      refine ⟨updN a 9 0, b, V, W, F, t, im, ⟨by omega, by have := hb.2.1; omega, by have := hb.2.2.1; omega, by omega, by have := hb.2.2.2.2; omega⟩, mo.keep (mk 2 (by omega) (by omega)), ⟨⟨?_, ?_, ?_⟩, mr0.ms s3, ?_, v.ab d (fun k k1 k2 => updN_n (by omega))⟩, i1.k3 (Nat.le_refl _) (fun _ _ => rfl) (fun k k1 k2 k3 => mk k k2 (by omega)) (mm 2 (by omega) (by omega) (by omega)), ?_, ?_, ?_, fun i hi => ?_, ?_, fun s hs => (j6 s hs).keep (mk _ (by omega) (by omega)) (mk _ (by omega) (by omega)) (mm _ (by omega) (by omega) (by omega)) (mm _ (by omega) (by omega) (by omega)) (mm _ (by omega) (by omega) (by omega))⟩
      · exact h.tx d (fun k k1 k2 k3 => mk k (by omega) (by omega)) e38 (updN_e rfl) (fun k k1 k2 => updN_n k1)
      · exact (tr.k3 (Nat.le_refl _) (fun _ _ => rfl) (mk _ (by omega) (by omega)) (fun k k1 k2 k3 => mk k k2 (by omega))).ab (updN_n (by omega)) (updN_n (by omega))
      · exact fun l hl => by rw [mk (30 + 5) (by omega) (by omega)]; exact kd l hl
      · have d' := cpA_ok (u := u) (n := a (90 + u)) (w := 0) d hu2 (by rcases (show u = 0 ∨ u = 1 by omega) with rfl | rfl; exact dt.2.2.1; exact dt.2.2.2) (by omega)
        have e : cpA a u (a (90 + u)) 0 = updN a 9 0 := funext fun k => by
          unfold cpA updN
          by_cases z : k = 9
          · rw [if_pos z, if_pos z]
          · rw [if_neg z, if_neg z]
            by_cases z2 : k = 90 + u
            · rw [if_pos z2, z2]
            · rw [if_neg z2, if_neg (by omega)]
        rw [← e]
        exact d'
      · rw [mk 0 (by omega) (by omega)]; exact j1
      · rw [s3.2 3 (by omega), sf_ne (by omega)]; exact j2
      · rw [mk 0 (by omega) (by omega)]; exact j3
      · rw [mk 4 (by omega) (by omega), mm 4 (by omega) (by omega) (by omega)]; exact j4 i hi
      · unfold Tc
        rw [mk 5 (by omega) (by omega), mk 6 (by omega) (by omega), s3.2 23 (by omega), sf_ne (by omega), mm 11 (by omega) (by omega) (by omega)]
        exact j5
    · have hpos := txP_pos hv
      have htm : TM (fun i => a (212 + i)) (a 9) u v' := TM_of (by omega) hbs hu2 hv
      have mk : ∀ k, k < 69 + K → M1 k = Mc k := fun k h1 => by rw [fr.1 k (by omega) (by omega) (by omega), tn k h1]
      have er0 : M1 (69 + K) 0 = nI (t + 1) := by rw [fr.2, tnr, ← nI_1, ← j3]; rfl
      rintro _ rfl
      refine ⟨fun _ => ?_, fun z => absurd (by decide) z⟩
      rintro _ rfl
      rw [cl_nI (by omega)]
      rintro _ rfl
      have mk2 : ∀ k, k < 69 + K → k ≠ 0 → k ≠ 38 → k ≠ 42 → sf (sf (sf M1 38 1 0) 0 10 (sf M1 38 1 0 0 10 + 1)) 42 u (nI (69 + K)) k = Mc k := fun k h1 h2 h3 h4 => by rw [sf_ne h4, sf_ne h2, sf_ne h3, mk k h1]
      have nw : ∀ k, 69 + K ≤ k → sf (sf (sf M1 38 1 0) 0 10 (sf M1 38 1 0 0 10 + 1)) 42 u (nI (69 + K)) k = M1 k := fun k h1 => by rw [sf_ne (by omega), sf_ne (by omega), sf_ne (by omega)]
      have e38 : sf (sf (sf M1 38 1 0) 0 10 (sf M1 38 1 0 0 10 + 1)) 42 u (nI (69 + K)) 38 1 = nI 0 := by rw [sf_ne (by omega), sf_ne (by omega)]; exact sf_e rfl rfl
      have e010 : sf (sf (sf M1 38 1 0) 0 10 (sf M1 38 1 0 0 10 + 1)) 42 u (nI (69 + K)) 0 10 = nI (t + 1) := by rw [sf_ne (by omega), sf_e rfl rfl, sf_ne (by omega), mk 0 (by omega), j3, nI_1]
      have e0j : ∀ j, j ≠ 10 → sf (sf (sf M1 38 1 0) 0 10 (sf M1 38 1 0 0 10 + 1)) 42 u (nI (69 + K)) 0 j = Mc 0 j := fun j hj => by rw [sf_ne (by omega), sf_j hj, sf_ne (by omega), mk 0 (by omega)]
      have e42u : sf (sf (sf M1 38 1 0) 0 10 (sf M1 38 1 0 0 10 + 1)) 42 u (nI (69 + K)) 42 u = nI (69 + K) := sf_e rfl rfl
      have e42 : ∀ x, x ≠ u → sf (sf (sf M1 38 1 0) 0 10 (sf M1 38 1 0 0 10 + 1)) 42 u (nI (69 + K)) 42 x = Mc 42 x := fun x hx => by rw [sf_j hx, sf_ne (by omega), sf_ne (by omega), mk 42 (by omega)]
      generalize sf (sf (sf M1 38 1 0) 0 10 (sf M1 38 1 0 0 10 + 1)) 42 u (nI (69 + K)) = M5 at *
      simp (disch := omega) only [i_lit, l_0, l_1, l_2, l_3, l_5, l_6, l_8, l_9, l_23, l_24, l_48, l_57, l_69, l_100, in_e, ci_e, lt_t, lt_f, le_t, le_f, eq_t, eq_f, nI_add, Nat.add_zero, xl_t, xl_f, xg_t, xg_f, xle_t, xle_f, xge_t, xge_f, xe_f, ci_t, ci_f, cx_t, cx_f, cn_t, cn_f, cp_t, cp_f, vi_t, cl_nI, c_er, m_er, eq_self, true_and, and_true, true_implies, false_implies, implies_true, not_true_eq_false, not_false_eq_true, true_or, or_true, forall_eq, P_X12_text, g9]
      refine m_worked (bs := fun i => a (212 + i)) (by omega) (by omega) hbs hu2 (fun i hi => by rw [mr0 (212 + i) (by omega), updN_n (by omega)]) (fun f2 hf2 => ns_ne (hv.symm.trans hf2)) (fun v2 q2 hv2 M3 s3 h8 => ?_)
      rw [h8]
      refine ⟨fun _ => ?_, fun z => absurd (by decide) z⟩
      have mr4 : MR (sf M3 1 (90 + u) (nI (a 9))) (cpA a u (a 9) 0) := by
        have := (mr0.ms s3).up (90 + u) (a 9)
        have e : updN (updN a 9 0) (90 + u) (a 9) = cpA a u (a 9) 0 := funext fun k => by
          unfold cpA updN
          by_cases z : k = 9
          · rw [if_pos z, if_pos z, if_neg (by omega)]
          · rw [if_neg z, if_neg z]
            by_cases z2 : k = 90 + u
            · rw [if_pos z2, if_pos z2]
            · rw [if_neg z2, if_neg z2, if_neg (by omega)]
        rw [e] at this
        exact this
      refine m_copyT hu2 (by omega) mr4 (fun M6 k6 mr6 => ⟨rfl, ?_⟩)
      have mm : ∀ k, k ≠ 0 → k ≠ 1 → k ≠ 5 → M6 k = Mm k := fun k h0 h1 h5 => by rw [k6 k h1, sf_ne h1, s3.1 k h0 h5, sf_ne h1]
      have m0j : ∀ j, (j < 5 ∨ 10 < j) → M6 0 j = Mm 0 j := fun j hj => by rw [k6 0 (by omega), sf_ne (by omega), s3.2 j hj, sf_ne (by omega)]
      have hF : ∀ i, i ≤ t → (fun i o n h => if i = t + 1 then hA (v' (nI o) (nI n) (nI h)) else F i o n h : Ft) i = F i := fun i hi => by
        funext o n h
        show (if i = t + 1 then _ else _) = _
        rw [if_neg (by omega)]
      have ht := hb.2.1
      have d' := cpA_ok (u := u) (n := a 9) (w := a 9) d hu2 (by omega) (by omega)
      have hk5 : ∀ k, 69 ≤ k → k < 69 + K → (∀ j, k ≠ 71 + 3 * j) → M5 k = Mc k := fun k k1 k2 _ => mk2 k k2 (by omega) (by omega) (by omega)
      refine ⟨cpA a u (a 9) (a 9), b, fun x => if x = u then v' else V x, W, (fun i o n h => if i = t + 1 then hA (v' (nI o) (nI n) (nI h)) else F i o n h : Ft), t + 1, im, ⟨by omega, by omega, by have := hb.2.2.1; omega, by omega, by have := hb.2.2.2.2; omega⟩, ?_, ⟨⟨?_, ?_, ?_⟩, mr6, d', ?_⟩, i1.k3 (by omega) hF (fun k k1 k2 k3 => mk2 k k2 (by omega) (by omega) (by omega)) (mm 2 (by omega) (by omega) (by omega)), ?_, ?_, e010, fun i hi => ?_, ?_, fun s hs => (j6 s hs).keep (mk2 _ (by omega) (by omega) (by omega) (by omega)) (mk2 _ (by omega) (by omega) (by omega) (by omega)) (mm _ (by omega) (by omega) (by omega)) (mm _ (by omega) (by omega) (by omega)) (mm _ (by omega) (by omega) (by omega))⟩
      · intro p hp
        obtain ⟨w, w1, w2, w3, w4⟩ := mo p hp
        refine ⟨w, by rw [mk2 2 (by omega) (by omega) (by omega) (by omega)]; exact w1, w2, by omega, fun h24 o n q1 q2 => ?_⟩
        show _ = (if w / 128 / 24 = t + 1 then _ else _)
        rw [if_neg (by omega)]
        exact w4 h24 o n q1 q2
      · exact h.tx d (fun k k1 k2 k3 => mk2 k (by omega) (by omega) (by omega) (by omega)) e38 rfl (fun k k1 k2 => cpA_n hu2 (by omega) k1 (by omega) (by omega))
      · intro x hx
        by_cases ex : x = u
        · subst ex
          refine Or.inr ⟨?_, 69 + K, e42u, K / 3, t + 1, by omega, by omega, by omega, Nat.le_refl _, ?_, ⟨L, hL, ?_, fun y1 y2 y3 f0 => ?_⟩, fun o n hh q1 q2 => ?_⟩
          · show 0 < cpA a x (a 9) (a 9) (90 + x)
            have : cpA a x (a 9) (a 9) (90 + x) = a 9 := by
              unfold cpA
              rw [if_neg (by omega), if_pos rfl]
            omega
          · rw [nw _ (Nat.le_refl _)]; exact er0
          · rw [nw _ (Nat.le_refl _)]; exact e3
          · rw [nw _ (by omega)]
            show _ = (if x = x then v' else V x) y1 y2 y3
            rw [if_pos rfl]
            exact sg.val hL y1 y2 y3 f0
          · show (if t + 1 = t + 1 then _ else _) = hA ((if x = x then v' else V x) _ _ _)
            rw [if_pos rfl, if_pos rfl]
        · show (cpA a u (a 9) (a 9) (90 + x) = 0 ∧ M5 42 x = 0) ∨ _
          rw [cpA_n hu2 (by omega) (by omega) (by omega) (by omega), e42 x ex]
          show _ ∨ (0 < a (90 + x) ∧ ∃ r, Mc 42 x = nI r ∧ TC (K + 3) (t + 1) _ M5 r (if x = u then v' else V x))
          rw [if_neg ex]
          rcases tr x hx with q | ⟨q, r, e, z⟩
          · exact Or.inl q
          · exact Or.inr ⟨q, r, e, z.k3 (by omega) hF hk5⟩
      · exact fun l hl => by rw [mk2 (30 + 5) (by omega) (by omega) (by omega) (by omega)]; exact kd l hl
      · intro x hx hp
        by_cases ex : x = u
        · subst ex
          have e9 : cpA a x (a 9) (a 9) (90 + x) = a 9 := by
            unfold cpA
            rw [if_neg (by omega), if_pos rfl]
          show TM _ _ x (if x = x then v' else V x)
          rw [if_pos rfl, e9]
          exact htm.cg (fun i hi => cpA_b hu2 hi)
        · have e9 : cpA a u (a 9) (a 9) (90 + x) = a (90 + x) := cpA_n hu2 (by omega) (by omega) (by omega) (by omega)
          show TM _ _ x (if x = u then v' else V x)
          rw [if_neg ex, e9]
          rw [e9] at hp
          have hl : a (90 + x) ≤ 50 := by
            rcases (show x = 0 ∨ x = 1 by omega) with rfl | rfl
            · exact dt.2.2.1
            · exact dt.2.2.2
          exact (v x hx hp).cg (fun i hi => cpA_n hu2 (by omega) (by omega) (by omega) (by omega))
      · rw [e0j 9 (by omega)]; exact j1
      · rw [m0j 3 (by omega)]; exact j2
      · rw [mk2 4 (by omega) (by omega) (by omega) (by omega), mm 4 (by omega) (by omega) (by omega)]; exact j4 i hi
      · unfold Tc
        rw [mk2 5 (by omega) (by omega) (by omega) (by omega), mk2 6 (by omega) (by omega) (by omega) (by omega), m0j 23 (by omega), mm 11 (by omega) (by omega) (by omega)]
        exact j5
  · unfold P_X11_text
    have isu : ∀ {R : Int32 → Prop}, R 0 → P_X11_isUse a1 R := fun hq => ⟨fun z => absurd z (by intro z; rw [z] at xu; exact absurd xu (by decide)), fun _ => ⟨fun _ => hq, fun z => absurd z (by intro z; rw [z] at xu; exact absurd xu (by decide))⟩⟩
    refine isu ⟨fun z => absurd rfl z, fun _ => ?_⟩
    simp (disch := omega) only [i_lit, l_0, l_1, l_2, l_3, l_5, l_6, l_8, l_9, l_23, l_24, l_48, l_57, l_69, l_100, in_e, ci_e, lt_t, lt_f, le_t, le_f, eq_t, eq_f, nI_add, Nat.add_zero, xl_t, xl_f, xg_t, xg_f, xle_t, xle_f, xge_t, xge_f, xe_f, ci_t, ci_f, cx_t, cx_f, cn_t, cn_f, cp_t, cp_f, vi_t, cl_nI, c_er, m_er, eq_self, true_and, and_true, true_implies, false_implies, implies_true, not_true_eq_false, not_false_eq_true, true_or, or_true, forall_eq, P_X12_text]
    exact hE 1 (by omega)
  · unfold P_X11_text
    have isu : ∀ {R : Int32 → Prop}, R 0 → P_X11_isUse a1 R := fun hq => ⟨fun z => absurd z (by intro z; rw [z] at xu; exact absurd xu (by decide)), fun _ => ⟨fun _ => hq, fun z => absurd z (by intro z; rw [z] at xu; exact absurd xu (by decide))⟩⟩
    refine isu ⟨fun z => absurd rfl z, fun _ => ?_⟩
    simp (disch := omega) only [i_lit, l_0, l_1, l_2, l_3, l_5, l_6, l_8, l_9, l_23, l_24, l_48, l_57, l_69, l_100, in_e, ci_e, lt_t, lt_f, le_t, le_f, eq_t, eq_f, nI_add, Nat.add_zero, xl_t, xl_f, xg_t, xg_f, xle_t, xle_f, xge_t, xge_f, xe_f, ci_t, ci_f, cx_t, cx_f, cn_t, cn_f, cp_t, cp_f, vi_t, cl_nI, c_er, m_er, eq_self, true_and, and_true, true_implies, false_implies, implies_true, not_true_eq_false, not_false_eq_true, true_or, or_true, forall_eq, P_X12_text]
    exact hE 1 (by omega)
