/-! ===== the model's reader: numbers, names, ! and (, a whole text ===== -/
section MR3
variable {base n u : Nat} {bs : Nat → Nat}
theorem m_nameOf {c O p : Nat} {M : Mem} {R : Int32 → Prop} (h : MS base n u bs p O M) (hu : u < 2) (hc : c ≤ 255) (k : R (cI (nm u c))) : P_X12_nameOf M (nI c) R := by
  unfold P_X12_nameOf
  rw [h.1.2.2.2.2.2]
  unfold nm at k
  rcases (show u = 0 ∨ u = 1 by omega) with rfl | rfl
  · rw [if_pos rfl] at k
    refine ⟨fun _ => ?_, fun z => absurd rfl z⟩
    by_cases e1 : c = 111
    · subst e1
      exact ⟨fun z => absurd rfl z, fun _ => k⟩
    · rw [if_neg e1] at k
      refine ⟨fun _ => ?_, fun z => absurd ((eq_nI (b := 111) (by omega) (by omega)).mp z) e1⟩
      by_cases e2 : c = 110
      · subst e2
        exact ⟨fun z => absurd rfl z, fun _ => k⟩
      · rw [if_neg e2] at k
        refine ⟨fun _ => ?_, fun z => absurd ((eq_nI (b := 110) (by omega) (by omega)).mp z) e2⟩
        by_cases e3 : c = 104
        · subst e3
          exact ⟨fun z => absurd rfl z, fun _ => k⟩
        · rw [if_neg e3] at k
          exact ⟨fun _ => k, fun z => absurd ((eq_nI (b := 104) (by omega) (by omega)).mp z) e3⟩
  · rw [if_neg (by omega)] at k
    refine ⟨fun z => absurd z (by decide), fun _ => ?_⟩
    by_cases e1 : c = 99
    · subst e1
      exact ⟨fun z => absurd rfl z, fun _ => k⟩
    · rw [if_neg e1] at k
      refine ⟨fun _ => ?_, fun z => absurd ((eq_nI (b := 99) (by omega) (by omega)).mp z) e1⟩
      by_cases e2 : c = 104
      · subst e2
        exact ⟨fun z => absurd rfl z, fun _ => k⟩
      · rw [if_neg e2] at k
        refine ⟨fun _ => ?_, fun z => absurd ((eq_nI (b := 104) (by omega) (by omega)).mp z) e2⟩
        by_cases e3 : c = 112
        · subst e3
          exact ⟨fun z => absurd rfl z, fun _ => k⟩
        · rw [if_neg e3] at k
          exact ⟨fun _ => k, fun z => absurd ((eq_nI (b := 112) (by omega) (by omega)).mp z) e3⟩
theorem m_nameN {M : Mem} {R : Int32 → Prop} (k : R (-1)) : P_X12_nameOf M (-1) R := by
  unfold P_X12_nameOf
  exact ⟨fun _ => ⟨fun _ => ⟨fun _ => ⟨fun _ => k, fun z => absurd z (by decide)⟩, fun z => absurd z (by decide)⟩, fun z => absurd z (by decide)⟩, fun _ => ⟨fun _ => ⟨fun _ => ⟨fun _ => k, fun z => absurd z (by decide)⟩, fun z => absurd z (by decide)⟩, fun z => absurd z (by decide)⟩⟩
theorem m_dig {O p : Nat} {w : Mem → (Int32 → Mem → Prop) → Prop} {M : Mem} {Q : Int32 → Mem → Prop} (hn : n ≤ 50) (hbn : base + n ≤ 264) (hb : ∀ i, i < n → bs i ≤ 255) (hpn : p ≤ n) (h : MS base n u bs p O M)
    (kf : dgE bs n 4 p = p → Q 0 (sf M 0 8 (nI p))) (kv : dgE bs n 4 p ≠ p → ∀ M', Fm M M' → MS base n u bs (dgE bs n 4 p) O M' → Q (nI (dgV bs n 4 p 0)) M') : B_X12_unit_150 w Q 0 0 M := by
  unfold B_X12_unit_150
  intro X hX
  have key : ∀ f i v (M1 : Mem), f ≤ 4 → i = p + (4 - f) → i ≤ n → Fm M M1 → MS base n u bs i O M1 → (f = 4 → M1 = M) → dgE bs n f i = dgE bs n 4 p → dgV bs n f i v = dgV bs n 4 p 0 → X (nI v) (nI (4 - f)) M1 := by
    intro f
    induction f with
    | zero =>
      intro i v M1 hf hi hin fm ms e4 e1 e2
      have e1 : i = dgE bs n 4 p := e1
      have e2 : v = dgV bs n 4 p 0 := e2
      apply hX
      refine br_t (by decide) ?_
      unfold B_X12_unit_202
      refine ⟨fun _ => ?_, fun z => absurd z (by decide)⟩
      rw [e2]
      exact kv (by omega) M1 fm (by rw [← e1]; exact ms)
    | succ f ih =>
      intro i v M1 hf hi hin fm ms e4 e1 e2
      have e1 : (if i < n ∧ 48 ≤ bs i ∧ bs i ≤ 57 then dgE bs n f (i + 1) else i) = dgE bs n 4 p := e1
      have e2 : (if i < n ∧ 48 ≤ bs i ∧ bs i ≤ 57 then dgV bs n f (i + 1) (10 * v + bs i - 48) else v) = dgV bs n 4 p 0 := e2
      apply hX
      refine br_f (by rw [show (4 : Int32) = nI 4 from rfl]; exact nI_ge (by omega) (by omega)) (m_here ms hn hbn (by omega) ?_)
      have stop : ¬ (i < n ∧ 48 ≤ bs i ∧ bs i ≤ 57) → B_X12_unit_202 w Q (nI v) (nI (4 - (f + 1))) M1 := fun c => by
        rw [if_neg c] at e1 e2
        unfold B_X12_unit_202
        by_cases z : f + 1 = 4
        · have eM := e4 z
          subst eM
          have ip : i = p := by omega
          rw [z]
          refine ⟨fun z2 => absurd rfl z2, fun _ => m_wrong h (kf (by omega))⟩
        · refine ⟨fun _ => ?_, fun z2 => absurd z2 (nI_ne0 (by omega) (by omega))⟩
          rw [e2]
          exact kv (by omega) M1 fm (by rw [← e1]; exact ms)
      rw [l_48, l_57, in_e]
      by_cases q : i < n
      · have hbi := hb i q
        have eh : hvB n bs i = nI (bs i) := if_pos q
        rw [eh]
        by_cases q2 : 48 ≤ bs i ∧ bs i ≤ 57
        · have c : i < n ∧ 48 ≤ bs i ∧ bs i ≤ 57 := ⟨q, q2⟩
          rw [if_pos c] at e1 e2
          refine br_f (nI_nlt (by omega) (by omega)) (br_f (nI_nlt (by omega) (by omega)) ⟨fun z => absurd z (by decide), fun _ => m_here ms hn hbn (by omega) ?_⟩)
          rw [eh, ms.1.2.1]
          rintro _ rfl _ rfl _ rfl _ rfl
          rw [nI_1, nI_1, show (10 : Int32) = nI 10 from rfl, pk_mul, nI_add, show (48 : Int32) = nI 48 from rfl, sb_nI (by omega), show 4 - (f + 1) + 1 = 4 - f by omega]
          exact ih (i + 1) _ _ (by omega) (by omega) (by omega) (fm.tr (Fm.sf (by omega))) (ms.at (i + 1)) (fun z => absurd z (by omega)) e1 e2
        · have c : ¬ (i < n ∧ 48 ≤ bs i ∧ bs i ≤ 57) := fun z => q2 z.2
          by_cases q3 : bs i < 48
          · exact br_t (nI_lt q3 (by omega)) ⟨fun _ => stop c, fun z => absurd rfl z⟩
          · exact br_f (nI_nlt (by omega) (by omega)) (br_t (nI_lt (by omega) (by omega)) ⟨fun _ => stop c, fun z => absurd rfl z⟩)
      · have eh : hvB n bs i = -1 := if_neg q
        rw [eh]
        exact br_t (by decide) ⟨fun _ => stop (fun z => q z.1), fun z => absurd rfl z⟩
  exact key 4 p 0 M (Nat.le_refl _) (by omega) hpn Fm.rf h (fun _ => rfl) rfl rfl
theorem nmV_m {k : Nat} {M : Mem} (hk : k = 1 ∨ k = 2 ∨ k = 3) : M 5 (cI k).toNatClampNeg = nmV k (M 5 0) (M 5 1) (M 5 2) := by
  rcases hk with rfl | rfl | rfl <;> rfl
theorem m_atom {O p : Nat} {w : Mem → (Int32 → Mem → Prop) → Prop} {M : Mem} {Q : Int32 → Mem → Prop} (hn : n ≤ 50) (hbn : base + n ≤ 264) (hb : ∀ i, i < n → bs i ≤ 255) (hu : u < 2) (hpn : p ≤ n) (h : MS base n u bs p O M) (hno : ¬ (p < n ∧ (bs p = 33 ∨ bs p = 40))) :
    (∀ f, atP bs n u p = (none, f) → (∀ M' v, Fm M M' → M' 0 8 = nI f → Q v M') → Pb_X12_unit w M Q) ∧
    (∀ v q, atP bs n u p = (some v, q) → (∀ M', Fm M M' → MS base n u bs q O M' → Q (v (M 5 0) (M 5 1) (M 5 2)) M') → Pb_X12_unit w M Q) := by
  have dig : ∀ {A : Prop}, (p < n → nm u (bs p) = 0) → (B_X12_unit_150 w Q 0 0 M → A) → (B_X12_unit_150 w Q 0 0 M → Pb_X12_unit w M Q) := fun {A} hz _ body => by
    unfold Pb_X12_unit
    refine m_here h hn hbn (by omega) ?_
    rw [show (33 : Int32) = nI 33 from rfl, show (40 : Int32) = nI 40 from rfl]
    refine ⟨fun z => absurd ((hv_e hb (by omega)).mp z) (fun y => hno ⟨y.1, Or.inl y.2⟩), fun _ => ⟨fun _ => ?_, fun z => absurd ((hv_e hb (by omega)).mp z) (fun y => hno ⟨y.1, Or.inr y.2⟩)⟩⟩
    by_cases q : p < n
    · have eh : hvB n bs p = nI (bs p) := if_pos q
      rw [eh]
      refine m_nameOf h hu (hb p q) ?_
      rw [hz q]
      exact br_t (by decide) body
    · have eh : hvB n bs p = -1 := if_neg q
      rw [eh]
      exact m_nameN (br_t (by decide) body)
  unfold atP
  by_cases c : p < n ∧ nm u (bs p) ≠ 0
  · rw [if_pos c]
    refine ⟨fun f hf => ns_ne hf, fun v q he k => ?_⟩
    obtain ⟨rfl, rfl⟩ := ss_e he
    unfold Pb_X12_unit
    refine m_here h hn hbn (by omega) ?_
    rw [show (33 : Int32) = nI 33 from rfl, show (40 : Int32) = nI 40 from rfl]
    refine ⟨fun z => absurd ((hv_e hb (by omega)).mp z) (fun y => hno ⟨y.1, Or.inl y.2⟩), fun _ => ⟨fun _ => ?_, fun z => absurd ((hv_e hb (by omega)).mp z) (fun y => hno ⟨y.1, Or.inr y.2⟩)⟩⟩
    have eh : hvB n bs p = nI (bs p) := if_pos c.1
    rw [eh]
    refine m_nameOf h hu (hb p c.1) ?_
    have hm := nm_le u (bs p)
    have hk : nm u (bs p) = 1 ∨ nm u (bs p) = 2 ∨ nm u (bs p) = 3 := by omega
    refine br_f ?_ ?_
    · show ¬ cI (nm u (bs p)) < nI 0
      rw [cI_neg (by omega)]
      exact c.2
    · rw [h.1.2.1]
      rintro _ rfl _ rfl
      rw [nI_1, sf_ne (by omega), nmV_m (M := M) hk]
      refine ⟨?_, k _ (Fm.sf (by omega)) (h.at (p + 1))⟩
      rcases hk with e | e | e <;> rw [e]
      · exact vp_in_nI (n := 0) (by omega) (by omega)
      · exact vp_in_nI (n := 1) (by omega) (by omega)
      · exact vp_in_nI (n := 2) (by omega) (by omega)
  · rw [if_neg c]
    have hz : p < n → nm u (bs p) = 0 := fun q => by
      by_cases e : nm u (bs p) = 0
      · exact e
      · exact absurd ⟨q, e⟩ c
    by_cases c2 : dgE bs n 4 p = p
    · rw [if_pos c2]
      refine ⟨fun f hf k => ?_, fun v q he => sn_ne he⟩
      have := nn_e hf
      subst this
      exact dig (A := True) hz (fun _ => trivial) (m_dig hn hbn hb hpn h (fun _ => k _ _ (Fm.sf (by omega)) (sf_e rfl rfl)) (fun z => absurd c2 z))
    · rw [if_neg c2]
      refine ⟨fun f hf => ns_ne hf, fun v q he k => ?_⟩
      obtain ⟨rfl, rfl⟩ := ss_e he
      exact dig (A := True) hz (fun _ => trivial) (m_dig hn hbn hb hpn h (fun z => absurd z c2) (fun _ => k))
theorem ML_un (hn : n ≤ 50) (hbn : base + n ≤ 264) (hb : ∀ i, i < n → bs i ≤ 255) (hu : u < 2) : ∀ d O, O + d = 5 → ML base n u bs O (P_X12_unit (d + 1)) (unP bs n u d) := by
  intro d
  induction d with
  | zero =>
    intro O hO p M Q hpn h
    obtain rfl : O = 5 := by omega
    show (∀ f, unP bs n u 0 p = (none, f) → _ → Pb_X12_unit (P_X12_unit 0) M Q) ∧ (∀ v q, unP bs n u 0 p = (some v, q) → _ → Pb_X12_unit (P_X12_unit 0) M Q)
    rw [unP_0]
    by_cases c : p < n ∧ (bs p = 33 ∨ bs p = 40)
    · rw [if_pos c]
      refine ⟨fun f hf k => ?_, fun v q he => sn_ne he⟩
      have := nn_e hf
      subst this
      have eh : hvB n bs p = nI (bs p) := if_pos c.1
      have body : ∀ x1, B_X12_unit_17 (P_X12_unit 0) Q x1 M := fun x1 => by
        unfold B_X12_unit_17
        rw [h.1.2.2.2.2.1]
        exact ⟨fun z => absurd rfl z, fun _ => m_wrong h (k _ _ (Fm.sf (by omega)) (sf_e rfl rfl))⟩
      unfold Pb_X12_unit
      refine m_here h hn hbn (by omega) ?_
      rw [eh]
      rcases c.2 with e | e
      · exact ⟨fun _ => body _, fun z => absurd (by rw [e]; rfl) z⟩
      · exact ⟨fun _ => body _, fun _ => ⟨fun z => absurd (by rw [e]; rfl) z, fun _ => body _⟩⟩
    · rw [if_neg c]
      exact m_atom hn hbn hb hu hpn h c
  | succ d ih =>
    intro O hO p M Q hpn h
    show (∀ f, unP bs n u (d + 1) p = (none, f) → _ → Pb_X12_unit (P_X12_unit (d + 1)) M Q) ∧ (∀ v q, unP bs n u (d + 1) p = (some v, q) → _ → Pb_X12_unit (P_X12_unit (d + 1)) M Q)
    rw [unP_s]
    by_cases c : p < n ∧ (bs p = 33 ∨ bs p = 40)
    · rw [if_pos c]
      have iu := ih (O + 1) (by omega)
      have eh : hvB n bs p = nI (bs p) := if_pos c.1
      have m2 : MS base n u bs (p + 1) (O + 1) (sf (sf M 0 9 (nI (O + 1))) 0 6 (nI (p + 1))) := (h.op (O + 1)).at (p + 1)
      have fm2 : Fm M (sf (sf M 0 9 (nI (O + 1))) 0 6 (nI (p + 1))) := (Fm.sf (by omega)).tr (Fm.sf (by omega))
      have hO5 : ¬ nI O = 5 := fun z => absurd ((eq_nI (b := 5) (by omega) (by omega)).mp z) (by omega)
      have ent : ∀ x1, ((¬ x1 = 40 → P_X12_unit (d + 1) (sf (sf M 0 9 (nI (O + 1))) 0 6 (nI (p + 1))) (fun v9 M10 => B_X12_unit_67 (P_X12_unit (d + 1)) Q x1 v9 M10)) ∧ (x1 = 40 → P_X12_either (P_X12_unit (d + 1)) (sf (sf M 0 9 (nI (O + 1))) 0 6 (nI (p + 1))) (fun v21 M22 => B_X12_unit_67 (P_X12_unit (d + 1)) Q x1 v21 M22))) → B_X12_unit_17 (P_X12_unit (d + 1)) Q x1 M := fun x1 k => by
        unfold B_X12_unit_17
        rw [h.1.2.2.2.2.1]
        refine ⟨fun _ => ?_, fun z => absurd z hO5⟩
        rintro _ rfl _ rfl
        rw [nI_1, sf_j (by omega), h.1.2.1]
        rintro _ rfl _ rfl
        rw [nI_1]
        exact k
      by_cases c40 : bs p = 40
      · rw [if_pos c40]
        have eb : nI (bs p) = 40 := by rw [c40]; rfl
        have hE := ML_ei hn hbn hb (unP_b d) iu
        have go : P_X12_either (P_X12_unit (d + 1)) (sf (sf M 0 9 (nI (O + 1))) 0 6 (nI (p + 1))) (fun v21 M22 => B_X12_unit_67 (P_X12_unit (d + 1)) Q 40 v21 M22) → Pb_X12_unit (P_X12_unit (d + 1)) M Q := fun k => by
          unfold Pb_X12_unit
          refine m_here h hn hbn (by omega) ?_
          rw [eh, eb]
          exact ⟨fun z => absurd z (by decide), fun _ => ⟨fun z => absurd rfl z, fun _ => ent 40 ⟨fun z => absurd rfl z, fun _ => k⟩⟩⟩
        rcases ex_r (eiP bs n (unP bs n u d) (p + 1)) with ⟨e, he⟩ | ⟨v, q, he⟩
        · rw [he, bnd_n]
          have be := (eiP_b (bs := bs) (unP_b (bs := bs) (n := n) (u := u) d) (p + 1) (by omega)).2 e he
          refine ⟨fun f hf k => go ((hE (p + 1) _ _ (by omega) m2).1 e he (fun M' w f' h8 => ?_)), fun v q he2 => sn_ne he2⟩
          have := nn_e hf
          subst this
          unfold B_X12_unit_67
          refine ⟨fun z => absurd rfl z, fun _ => m_takesF (c := 41) h8 (by omega) (by omega) ⟨fun z => absurd rfl z, fun _ => m_wrongF h8 (by omega) (fun M'' f'' h8' => k M'' _ ((fm2.tr f').tr f'') h8')⟩⟩
        · rw [he, bnd_s]
          have b := (eiP_b (bs := bs) (unP_b (bs := bs) (n := n) (u := u) d) (p + 1) (by omega)).1 v q he
          by_cases c41 : q < n ∧ bs q = 41
          · rw [if_pos c41]
            refine ⟨fun f hf => ns_ne hf, fun v2 q2 he2 k => go ((hE (p + 1) _ _ (by omega) m2).2 v q he (fun M' f' m' => ?_))⟩
            obtain ⟨rfl, rfl⟩ := ss_e he2
            have e5 : sf (sf M 0 9 (nI (O + 1))) 0 6 (nI (p + 1)) 5 = M 5 := fm2.1 5 (by omega)
            rw [e5]
            unfold B_X12_unit_67
            refine ⟨fun z => absurd rfl z, fun _ => m_takes (c := 41) m' hn hbn (by omega) hb (by omega) (fun _ _ => ⟨fun _ => ?_, fun z => absurd z (by decide)⟩) (fun z => absurd c41 z)⟩
            unfold B_X12_unit_88
            have m3 := m'.at (q + 1)
            rw [m3.1.2.2.2.2.1, nI_pred]
            rintro _ rfl _ rfl
            exact ⟨fun z => absurd rfl z, fun _ => k _ ((fm2.tr f').tr ((Fm.sf (by omega)).tr (Fm.sf (by omega)))) (m3.op O)⟩
          · rw [if_neg c41]
            refine ⟨fun f hf k => go ((hE (p + 1) _ _ (by omega) m2).2 v q he (fun M' f' m' => ?_)), fun v q he2 => sn_ne he2⟩
            have := nn_e hf
            subst this
            unfold B_X12_unit_67
            exact ⟨fun z => absurd rfl z, fun _ => m_takes (c := 41) m' hn hbn (by omega) hb (by omega) (fun z1 z2 => absurd ⟨z1, z2⟩ c41) (fun _ => ⟨fun z => absurd rfl z, fun _ => m_wrong m' (k _ _ ((fm2.tr f').tr (Fm.sf (by omega))) (sf_e rfl rfl))⟩)⟩
      · rw [if_neg c40]
        have c33 : bs p = 33 := by omega
        have eb : nI (bs p) = 33 := by rw [c33]; rfl
        have go : P_X12_unit (d + 1) (sf (sf M 0 9 (nI (O + 1))) 0 6 (nI (p + 1))) (fun v9 M10 => B_X12_unit_67 (P_X12_unit (d + 1)) Q 33 v9 M10) → Pb_X12_unit (P_X12_unit (d + 1)) M Q := fun k => by
          unfold Pb_X12_unit
          refine m_here h hn hbn (by omega) ?_
          rw [eh, eb]
          exact ⟨fun _ => ent 33 ⟨fun _ => k, fun z => absurd z (by decide)⟩, fun z => absurd rfl z⟩
        rcases ex_r (unP bs n u d (p + 1)) with ⟨e, he⟩ | ⟨v, q, he⟩
        · rw [he, bnd_n]
          refine ⟨fun f hf k => go ((iu (p + 1) _ _ (by omega) m2).1 e he (fun M' w f' h8 => ?_)), fun v q he2 => sn_ne he2⟩
          have := nn_e hf
          subst this
          unfold B_X12_unit_67 B_X12_unit_88
          have h8' : ∀ x, sf M' 0 9 x 0 8 = nI e := fun x => by rw [sf_j (by omega)]; exact h8
          have ff : ∀ x, Fm M (sf M' 0 9 x) := fun x => (fm2.tr f').tr (Fm.sf (by omega))
          refine ⟨fun _ => ?_, fun z => absurd z (by decide)⟩
          rintro _ rfl _ rfl
          exact ⟨fun _ => ⟨fun _ => k _ _ (ff _) (h8' _), fun _ => k _ _ (ff _) (h8' _)⟩, fun z => absurd z (by decide)⟩
        · rw [he, bnd_s]
          refine ⟨fun f hf => ns_ne hf, fun v2 q2 he2 k => go ((iu (p + 1) _ _ (by omega) m2).2 v q he (fun M' f' m' => ?_))⟩
          obtain ⟨rfl, rfl⟩ := ss_e he2
          have e5 : sf (sf M 0 9 (nI (O + 1))) 0 6 (nI (p + 1)) 5 = M 5 := fm2.1 5 (by omega)
          rw [e5]
          unfold B_X12_unit_67 B_X12_unit_88
          refine ⟨fun _ => ?_, fun z => absurd z (by decide)⟩
          rw [m'.1.2.2.2.2.1, nI_pred]
          rintro _ rfl _ rfl
          have kk := k _ ((fm2.tr f').tr (Fm.sf (M := M') (j := 9) (v := nI O) (by omega))) (m'.op O)
          unfold nt at kk
          refine ⟨fun _ => ⟨fun z => ?_, fun z => ?_⟩, fun z => absurd z (by decide)⟩
          · rw [if_neg z] at kk
            exact kk
          · rw [if_pos z] at kk
            exact kk
    · rw [if_neg c]
      exact m_atom hn hbn hb hu hpn h c
theorem m_worked {M : Mem} {Q : Int32 → Mem → Prop} (hn : n ≤ 50) (hbn : base + n ≤ 264) (hb : ∀ i, i < n → bs i ≤ 255) (hu : u < 2) (hbs : ∀ i, i < n → M 1 (base + i) = nI (bs i))
    (kf : ∀ f, txP bs n u = (none, f) → ∀ M' w, Ms M M' → M' 0 8 = nI f → Q w M') (kv : ∀ v q, txP bs n u = (some v, q) → ∀ M', Ms M M' → M' 0 8 = -1 → Q (v (M 5 0) (M 5 1) (M 5 2)) M') : P_X12_worked M (nI base) (nI n) (nI u) Q := by
  unfold P_X12_worked
  rintro _ rfl _ rfl _ rfl _ rfl _ rfl
  have main : B_X12_worked_36 Q (nI u) (sf (sf (sf (sf (sf M 0 5 (nI base)) 0 6 0) 0 7 (nI n)) 0 8 (-1)) 0 9 0) := by
    unfold B_X12_worked_36
    refine ⟨?_, ?_⟩
    · rcases (show u = 0 ∨ u = 1 by omega) with rfl | rfl
      · exact Or.inl rfl
      · exact Or.inr rfl
    rintro _ rfl
    have ms : MS base n u bs 0 0 (sf (sf (sf (sf (sf (sf M 0 5 (nI base)) 0 6 0) 0 7 (nI n)) 0 8 (-1)) 0 9 0) 0 10 (nI u)) := by
      refine ⟨⟨?_, ?_, ?_, ?_, ?_, sf_e rfl rfl⟩, fun i hi => ?_⟩
      · rw [sf_j (by omega), sf_j (by omega), sf_j (by omega), sf_j (by omega), sf_j (by omega), sf_e rfl rfl]
      · rw [sf_j (by omega), sf_j (by omega), sf_j (by omega), sf_j (by omega), sf_e rfl rfl]
        rfl
      · rw [sf_j (by omega), sf_j (by omega), sf_j (by omega), sf_e rfl rfl]
      · rw [sf_j (by omega), sf_j (by omega), sf_e rfl rfl]
      · rw [sf_j (by omega), sf_e rfl rfl]
        rfl
      · rw [sf_ne (by omega), sf_ne (by omega), sf_ne (by omega), sf_ne (by omega), sf_ne (by omega), sf_ne (by omega)]
        exact hbs i hi
    have s0 : Ms M (sf (sf (sf (sf (sf (sf M 0 5 (nI base)) 0 6 0) 0 7 (nI n)) 0 8 (-1)) 0 9 0) 0 10 (nI u)) := ⟨fun k k0 k5 => by rw [sf_ne k0, sf_ne k0, sf_ne k0, sf_ne k0, sf_ne k0, sf_ne k0], fun j hj => by rw [sf_j (by omega), sf_j (by omega), sf_j (by omega), sf_j (by omega), sf_j (by omega), sf_j (by omega)]⟩
    have e5 : sf (sf (sf (sf (sf (sf M 0 5 (nI base)) 0 6 0) 0 7 (nI n)) 0 8 (-1)) 0 9 0) 0 10 (nI u) 5 = M 5 := by rw [sf_ne (by omega), sf_ne (by omega), sf_ne (by omega), sf_ne (by omega), sf_ne (by omega), sf_ne (by omega)]
    generalize sf (sf (sf (sf (sf (sf M 0 5 (nI base)) 0 6 0) 0 7 (nI n)) 0 8 (-1)) 0 9 0) 0 10 (nI u) = M1 at *
    have fs : ∀ {M' : Mem}, Fm M1 M' → Ms M M' := fun f => s0.tr ⟨fun k k0 _ => f.1 k k0, fun j hj => f.2 j (by omega) (by omega) (by omega)⟩
    have hE := ML_ei hn hbn hb (unP_b 5) (ML_un hn hbn hb hu 5 0 (by omega)) 0 M1 (fun v9 M10 => ((0 ≤ (M10 0 8) → Q v9 M10) ∧ (¬ 0 ≤ (M10 0 8) → (((M10 0 7) ≤ (M10 0 6) → Q v9 M10) ∧ (¬ (M10 0 7) ≤ (M10 0 6) → P_X12_wrong M10 (fun v13 M14 => Q v13 M14)))))) (by omega) ms
    unfold txP at kf kv
    rcases ex_r (eiP bs n (unP bs n u 5) 0) with ⟨e, he⟩ | ⟨v, q, he⟩
    · rw [he, bnd_n] at kf
      have be := (eiP_b (bs := bs) (unP_b (bs := bs) (n := n) (u := u) 5) 0 (by omega)).2 e he
      refine hE.1 e he (fun M' w f' h8 => ?_)
      rw [h8]
      exact br_t (nI_pos' (by omega)) (kf e rfl M' w (fs f') h8)
    · rw [he, bnd_s] at kf kv
      have b := (eiP_b (bs := bs) (unP_b (bs := bs) (n := n) (u := u) 5) 0 (by omega)).1 v q he
      refine hE.2 v q he (fun M' f' m' => ?_)
      rw [e5, m'.1.2.2.2.1, m'.1.2.1, m'.1.2.2.1]
      by_cases hq : q < n
      · rw [if_pos hq] at kf
        exact br_f (by decide) (br_f (nI_ge hq (by omega)) (m_wrong m' (kf q rfl _ _ (fs (f'.tr (Fm.sf (by omega)))) (sf_e rfl rfl))))
      · rw [if_neg hq] at kv
        exact br_f (by decide) (br_t (nI_le (by omega) (by omega)) (kv v q rfl M' (fs f') m'.1.2.2.2.1))
  rcases (show u = 0 ∨ u = 1 by omega) with rfl | rfl
  · exact ⟨fun _ => main, fun z => absurd z (by decide)⟩
  · exact ⟨fun z => absurd rfl z, fun _ => main⟩
theorem TM_of {v : V3} {q : Nat} (hn : n ≤ 50) (hb : ∀ i, i < n → bs i ≤ 255) (hu : u < 2) (h : txP bs n u = (some v, q)) : TM bs n u v := fun M base Q hbn hbs hQ => m_worked hn hbn hb hu hbs (fun f hf => ns_ne (h.symm.trans hf)) (fun v2 q2 he M' s _ => by
  obtain ⟨rfl, rfl⟩ := ss_e (h.symm.trans he)
  exact hQ M' s)
end MR3
theorem txP_pos {bs : Nat → Nat} {n u q : Nat} {v : V3} (h : txP bs n u = (some v, q)) : 0 < n := by
  unfold txP at h
  rcases ex_r (eiP bs n (unP bs n u 5) 0) with ⟨e, he⟩ | ⟨w, q', he⟩
  · rw [he, bnd_n] at h
    exact sn_ne h
  · rw [he, bnd_s] at h
    have b := (eiP_b (bs := bs) (unP_b (bs := bs) (n := n) (u := u) 5) 0 (by omega)).1 w q' he
    omega
theorem txP_le {bs : Nat → Nat} {n u e : Nat} (h : txP bs n u = (none, e)) : e ≤ n := by
  unfold txP at h
  rcases ex_r (eiP bs n (unP bs n u 5) 0) with ⟨e, he⟩ | ⟨w, q', he⟩
  · rw [he, bnd_n] at h
    have := nn_e h
    have b := (eiP_b (bs := bs) (unP_b (bs := bs) (n := n) (u := u) 5) 0 (by omega)).2 e he
    omega
  · rw [he, bnd_s] at h
    have b := (eiP_b (bs := bs) (unP_b (bs := bs) (n := n) (u := u) 5) 0 (by omega)).1 w q' he
    by_cases c : q' < n
    · rw [if_pos c] at h
      have := nn_e h
      omega
    · rw [if_neg c] at h
      exact ns_ne h
