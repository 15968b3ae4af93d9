/-! ===== fewest, most ===== -/
theorem Gx.fc {K : Nat} {M M' : Mem} (g : Gx M M') : FC K M M' := ⟨fun k h1 h2 => g k (by omega) (by omega) h2, fun r => r.keep (g _ (by omega) (by omega) (fun j => by omega)) (g _ (by omega) (by omega) (fun j => by omega))⟩
theorem Gx.hb {K t : Nat} {F : Ft} {a : Nat → Nat} {V : Vt} {M M' : Mem} (g : Gx M M') (hB : HB K t F 30 M a V) : HB K t F 30 M' a V := hB.keep (fun k k1 k2 => g k (by omega) (by omega) (fun j => by omega)) (fun k k1 k2 => g k (by omega) (by omega) k2)
theorem mdl {n K t im : Nat} {F : Ft} {Mc Mm M5 : Mem} {a b : Nat → Nat} {V W : Vt} {x2 : Int32} {S0 : CS} {D : PS → Prop} {QQ : Mem → Prop} (hb : Ivb n K t im) (i1 : Iv1 K t F Mc Mm b W im) (i2 : Iv2 Mc Mm t im) (hB : HB K t F 30 Mc a V) (mr : MR Mm a) (d : DOK a) (v : VOK a V) (g5 : Gx Mc M5) (c5 : CX K t F M5) (b5 : BS a (go a (a 0) (lfC a V) (a 0) (fun _ => 0) (l0f a) S0) M5) (hD : ∀ r0, D (go a (a 0) (lfP a V x2) (a 0) (fun _ => 0) (l0f a) (S0, (0, 0, 0, r0)))) (fin : ∀ M2 p, Inv n K M5 M2 → D p → BS a p.1 M5 → BR (a 0) p.2 M2 → QQ M2) : P_X12_goThrough Mm 1 x2 QQ := by
  refine m_goThrough (lf := lfM a V x2) mr d (leaf_look d v) (fun M' r0 g' mr' br => ?_)
  have pr := go_pr (a := a) (V := V) (x2 := x2) (f := a 0) (r := fun _ => 0) (l := l0f a) (s := S0) (T := (0, 0, 0, r0))
  exact fin M' _ ⟨a, b, V, W, F, t, im, hb, c5.1, ⟨g5.hb hB, mr', d, v⟩, i1.keep g5.fc (g'.fm.1 2 (by omega)), i2.keep (g5.fc (K := K)) g'.fm⟩ (hD r0) (by rw [pr.1]; exact b5) (by rw [pr.2]; exact br)
theorem m_isW {M : Mem} {w N : Nat} {Q : Int32 → Prop} (g0 : M 1 0 = nI N) (hw : w < N) (hN : N ≤ 8) (hQ : Q 1) : P_X12_isWindow M (nI w) Q := by
  unfold P_X12_isWindow
  rw [g0, l_0, in_e]
  refine ⟨fun z => absurd z (nI_nlt (Nat.zero_le _) (by omega)), fun _ => ⟨fun z => ?_, fun _ => ⟨Or.inr rfl, hQ⟩⟩⟩
  have z : cI N < nI w := z
  rw [ci_f hw (by omega)] at z
  exact absurd z id
theorem m_isWn {M : Mem} {x : Int32} {N : Nat} {Q : Int32 → Prop} (g0 : M 1 0 = nI N) (hN : N ≤ 8) (h : x.toInt < 0 ∨ (N : Int) ≤ x.toInt) (hQ : Q 0) : P_X12_isWindow M x Q := by
  unfold P_X12_isWindow
  rw [g0, l_0, in_e]
  rcases h with h | h
  · have z : x < nI 0 := by
      rw [xl_t (by omega) (by omega)]
      trivial
    exact ⟨fun _ => ⟨Or.inl rfl, hQ⟩, fun y => absurd z y⟩
  · have z : cI N < x := by
      rw [cx_t h (by omega)]
      trivial
    exact ⟨fun _ => ⟨Or.inl rfl, hQ⟩, fun _ => ⟨fun _ => ⟨Or.inl rfl, hQ⟩, fun y => absurd z y⟩⟩
theorem tm1 : (-1 : Int32).toInt = -1 := by decide
theorem tm2 : (-2 : Int32).toInt = -2 := by decide
theorem lo_27 {n K : Nat} {Mc Mm : Mem} (a1 a2 a3 a4 a5 : Int32) (hn : n < 512) (hI : Inv n K Mc Mm) : LO_27 Inv n K Mc Mm a1 a2 a3 a4 a5 := by
  have hE := hI.er hn
  have hU := hI.up hn
  obtain ⟨a, b, V, W, F, t, im, hb, mo, ⟨hB, mr, d, v⟩, i1, i2⟩ := hI
  have h := hB.1
  have tr := hB.2.1
  have kd := hB.2.2
  have c := hb.cx mo
  have d0 := d.1.1
  have d1 := d.1.2.1
  have d2 := d.1.2.2
  have dh := d.2.1
  have dt := d.2.2.2.2.1
  have f0 : Mc 30 0 = nI (a 0) := h.1.1
  have f1 : Mc 30 1 = nI (a 1) := h.1.2.1
  have f2 : Mc 30 2 = nI (a 2) := h.1.2.2
  have g0 : Mm 1 0 = nI (a 0) := mr 0 (by omega)
  have g1 : Mm 1 1 = nI (a 1) := mr 1 (by omega)
  have g2 : Mm 1 2 = nI (a 2) := mr 2 (by omega)
  unfold LO_27
  have M5m : ∀ M5, Gx Mc M5 → CX K t F M5 → BS a (go a (a 0) (lfC a V) (a 0) (fun _ => 0) (l0f a) (s0 a V (a 2))) M5 → (a1 = -1 ∨ ∃ w, w < a 0 ∧ a1 = nI w) → ∀ QQ : Int32 → Mem → Prop, (∀ M2 p, Inv n K M5 M2 → DF a p → BS a p.1 M5 → BR (a 0) p.2 M2 → ((0 ≤ (M2 0 18) → ((0 ≤ a1 → vp_in a1 8 ∧ QQ (M2 10 a1.toNatClampNeg) M2) ∧ (¬ 0 ≤ a1 → QQ (M2 0 18) M2))) ∧ (¬ 0 ≤ (M2 0 18) → P_X12_finds M2 2 (fun v6 M7 => QQ v6 M7)))) → P_X12_fewest Mm a1 QQ := fun M5 g5 c5 b5 hx QQ fin => by
    have k : B_X12_fewest_19 QQ a1 Mm := by
      unfold B_X12_fewest_19
      exact mdl hb i1 i2 hB mr d v g5 c5 b5 (fun r0 => few_eq d) fin
    unfold P_X12_fewest
    rcases hx with e | ⟨w, hw, e⟩
    · exact ⟨fun _ => k, fun z => absurd e z⟩
    · refine ⟨fun _ => k, fun _ => ?_⟩
      rw [e] at k ⊢
      exact m_isW g0 hw d0 ⟨fun _ => k, fun z => absurd z (by decide)⟩
  unfold P_X11_fewest
  by_cases hx : a1 = -1 ∨ ∃ w, w < a 0 ∧ a1 = nI w
  · have ht : -1 ≤ a1.toInt ∧ a1.toInt < (a 0 : Int) := by
      rcases hx with e | ⟨w, hw, e⟩
      · rw [e, tm1]; omega
      · rw [e, nI_toInt (by omega)]; omega
    refine ⟨fun z => ?_, fun _ => ⟨fun _ => ?_, fun z => ?_⟩⟩
    · rw [Int32.lt_iff_toInt_lt, tm1] at z
      omega
    · rw [f2]
      refine c_find d2 hB d c (fun M5 g5 c5 b5 => ⟨fun q => ?_, fun q => ?_⟩)
      · have key : ∀ QQ : Int32 → Mem → Prop, (∀ M2 p, Inv n K M5 M2 → EqS a p → BS a p.1 M5 → BR (a 0) p.2 M2 → M2 0 18 = nI p.1.2.1 → M5 7 9 = nI p.1.2.1 → p.1.2.1 < 1000000 → ((0 ≤ a1 → vp_in a1 8 ∧ QQ (M2 10 a1.toNatClampNeg) M2) ∧ (¬ 0 ≤ a1 → QQ (M2 0 18) M2))) → P_X12_fewest Mm a1 QQ := fun QQ fin => M5m M5 g5 c5 b5 hx QQ (fun M2 p iv df bs br => by
          rcases df with df | df
          · have e18 : M2 0 18 = nI p.1.2.1 := by rw [br.2.1, df.1, cI_s]
            have fin := fin M2 p iv df bs br e18 bs.2.2.1 df.2.1
            have le : 0 ≤ M2 0 18 := by
              rw [e18]
              exact nI_le (Nat.zero_le _) (by have := df.2.1; omega)
            exact ⟨fun _ => fin, fun z => absurd le z⟩
          · rw [bs.2.2.1, df.1] at q
            exact absurd q (by decide))
        refine ⟨fun ne => ?_, fun e => ?_⟩
        · rcases hx with e | ⟨w, hw, e⟩
          · exact absurd e ne
          · refine ⟨by rw [e]; exact vp_in_nI (by omega) (by omega), key _ (fun M2 p iv df bs br e18 _ _ => ⟨fun _ => ⟨by rw [e]; exact vp_in_nI (by omega) (by omega), ?_, iv.up hn⟩, fun z => ?_⟩)⟩
            · rw [e, cl_nI (by omega), br.2.2.2 w hw, bs.2.2.2 w hw, df.2.2 w hw]
            · exact absurd (by rw [e]; exact nI_le (Nat.zero_le _) (by omega)) z
        · refine key _ (fun M2 p iv df bs br e18 e79 _ => ⟨fun z => ?_, fun _ => ⟨by rw [e18, e79], iv.up hn⟩⟩)
          rw [e] at z
          exact absurd z (by decide)
      · show P_X11_error K M5 (nI 2) _
        rw [c_er (by omega)]
        refine M5m M5 g5 c5 b5 hx _ (fun M2 p iv df bs br => ?_)
        rcases df with df | df
        · exfalso
          apply q
          rw [bs.2.2.1]
          exact nI_lt (b := 1000000) df.2.1 (by omega)
        · refine ⟨fun z => ?_, fun _ => ?_⟩
          · rw [br.2.1, df.2] at z
            exact absurd z (by decide)
          · show P_X12_finds M2 (nI 2) _
            rw [m_er (by omega)]
            exact ⟨rfl, iv.er hn 2 (by omega)⟩
    · refine absurd ?_ z
      rw [f0, xl_t ht.2 (by omega)]
      trivial
  · have ht : a1.toInt < -1 ∨ (a 0 : Int) ≤ a1.toInt := by
      rcases rngl a1 (a 0) (by omega) with ⟨w, hw, e⟩ | q | q
      · exact absurd (Or.inr ⟨w, hw, e⟩) hx
      · by_cases y : a1.toInt = -1
        · exact absurd (Or.inl (Int32.toInt_inj.mp (by rw [y, tm1]))) hx
        · omega
      · exact Or.inr q
    have me : P_X12_fewest Mm a1 (fun r2 Mm1 => -nI 1000000000 - nI 1 = r2 ∧ Inv (n + 1) K (sf Mc 4 1 (Mc 4 1 + nI 1)) Mm1) := by
      unfold P_X12_fewest
      refine ⟨fun e => absurd (Or.inl e) hx, fun _ => m_isWn g0 d0 (by omega) ⟨fun z => absurd rfl z, fun _ => ?_⟩⟩
      show P_X12_finds Mm (nI 1) _
      rw [m_er (by omega)]
      exact ⟨rfl, hE 1 (by omega)⟩
    have ce : P_X11_error K Mc 1 (fun v2 M3 => P_X12_fewest Mm a1 (fun r2 Mm1 => v2 = r2 ∧ Inv (n + 1) K M3 Mm1)) := by
      show P_X11_error K Mc (nI 1) _
      rw [c_er (by omega)]
      exact me
    refine ⟨fun _ => ce, fun z => ⟨fun y => ?_, fun _ => ce⟩⟩
    rw [Int32.lt_iff_toInt_lt, tm1] at z
    rw [f0, Int32.lt_iff_toInt_lt, nI_toInt (by omega)] at y
    omega
theorem lo_28 {n K : Nat} {Mc Mm : Mem} (a1 a2 a3 a4 a5 : Int32) (hn : n < 512) (hI : Inv n K Mc Mm) : LO_28 Inv n K Mc Mm a1 a2 a3 a4 a5 := by
  have hE := hI.er hn
  have hU := hI.up hn
  obtain ⟨a, b, V, W, F, t, im, hb, mo, ⟨hB, mr, d, v⟩, i1, i2⟩ := hI
  have h := hB.1
  have tr := hB.2.1
  have kd := hB.2.2
  have c := hb.cx mo
  have d0 := d.1.1
  have d1 := d.1.2.1
  have d2 := d.1.2.2
  have dh := d.2.1
  have dt := d.2.2.2.2.1
  have f0 : Mc 30 0 = nI (a 0) := h.1.1
  have f1 : Mc 30 1 = nI (a 1) := h.1.2.1
  have f2 : Mc 30 2 = nI (a 2) := h.1.2.2
  have g0 : Mm 1 0 = nI (a 0) := mr 0 (by omega)
  have g1 : Mm 1 1 = nI (a 1) := mr 1 (by omega)
  have g2 : Mm 1 2 = nI (a 2) := mr 2 (by omega)
  unfold LO_28
  have M5m : ∀ M5, Gx Mc M5 → CX K t F M5 → BS a (go a (a 0) (lfC a V) (a 0) (fun _ => 0) (l0f a) (s0 a V 0)) M5 → (a1 = -2 ∨ a1 = -1 ∨ ∃ w, w < a 0 ∧ a1 = nI w) → ∀ QQ : Int32 → Mem → Prop, (∀ M2 p, Inv n K M5 M2 → DM a p → BS a p.1 M5 → BR (a 0) p.2 M2 → ((¬ a1 = (-2) → ((¬ a1 = (-1) → vp_in a1 8 ∧ QQ (M2 10 a1.toNatClampNeg) M2) ∧ (a1 = (-1) → QQ (M2 0 18) M2))) ∧ (a1 = (-2) → QQ (M2 0 17) M2))) → P_X12_most Mm a1 QQ := fun M5 g5 c5 b5 hx QQ fin => by
    have k : B_X12_most_25 QQ a1 Mm := by
      unfold B_X12_most_25
      exact mdl hb i1 i2 hB mr d v g5 c5 b5 (fun r0 => most_eq d) fin
    unfold P_X12_most
    refine ⟨fun _ => k, fun z2 => ⟨fun _ => k, fun z1 => ?_⟩⟩
    rcases hx with e | e | ⟨w, hw, e⟩
    · exact absurd e z2
    · exact absurd e z1
    · rw [e] at k ⊢
      exact m_isW g0 hw d0 ⟨fun _ => k, fun z => absurd z (by decide)⟩
  unfold P_X11_most
  by_cases hx : a1 = -2 ∨ a1 = -1 ∨ ∃ w, w < a 0 ∧ a1 = nI w
  · have ht : -2 ≤ a1.toInt ∧ a1.toInt < (a 0 : Int) := by
      rcases hx with e | e | ⟨w, hw, e⟩
      · rw [e, tm2]; omega
      · rw [e, tm1]; omega
      · rw [e, nI_toInt (by omega)]; omega
    refine ⟨fun z => ?_, fun _ => ⟨fun _ => ?_, fun z => ?_⟩⟩
    · rw [Int32.lt_iff_toInt_lt, tm2] at z
      omega
    · refine c_find (x := 0) (by omega) hB d c (fun M5 g5 c5 b5 => ⟨fun ne2 => ⟨fun ne1 => ?_, fun e1 => ?_⟩, fun e2 => ?_⟩)
      · rcases hx with e | e | ⟨w, hw, e⟩
        · exact absurd e ne2
        · exact absurd e ne1
        · refine ⟨by rw [e]; exact vp_in_nI (by omega) (by omega), M5m M5 g5 c5 b5 (Or.inr (Or.inr ⟨w, hw, e⟩)) _ (fun M2 p iv dm bs br => ⟨fun _ => ⟨fun _ => ⟨by rw [e]; exact vp_in_nI (by omega) (by omega), ?_, iv.up hn⟩, fun z => absurd z ne1⟩, fun z => absurd z ne2⟩)⟩
          rw [e, cl_nI (by omega), br.2.2.2 w hw, bs.2.2.2 w hw, dm.1.2.2 w hw]
      · refine M5m M5 g5 c5 b5 (Or.inr (Or.inl e1)) _ (fun M2 p iv dm bs br => ⟨fun _ => ⟨fun z => absurd e1 z, fun _ => ⟨?_, iv.up hn⟩⟩, fun z => absurd z ne2⟩)
        rw [bs.2.2.1, br.2.1, dm.1.1, cI_s]
      · refine M5m M5 g5 c5 b5 (Or.inl e2) _ (fun M2 p iv dm bs br => ⟨fun z => absurd e2 z, fun _ => ⟨?_, iv.up hn⟩⟩)
        rw [bs.2.1, br.2.2.1, dm.2]
    · refine absurd ?_ z
      rw [f0, xl_t ht.2 (by omega)]
      trivial
  · have ht : a1.toInt < -2 ∨ (a 0 : Int) ≤ a1.toInt := by
      rcases rngl a1 (a 0) (by omega) with ⟨w, hw, e⟩ | q | q
      · exact absurd (Or.inr (Or.inr ⟨w, hw, e⟩)) hx
      · by_cases y : a1.toInt = -1
        · exact absurd (Or.inr (Or.inl (Int32.toInt_inj.mp (by rw [y, tm1])))) hx
        · by_cases y2 : a1.toInt = -2
          · exact absurd (Or.inl (Int32.toInt_inj.mp (by rw [y2, tm2]))) hx
          · omega
      · exact Or.inr q
    have me : P_X12_most Mm a1 (fun r2 Mm1 => -nI 1000000000 - nI 1 = r2 ∧ Inv (n + 1) K (sf Mc 4 1 (Mc 4 1 + nI 1)) Mm1) := by
      unfold P_X12_most
      refine ⟨fun e => absurd (Or.inl e) hx, fun _ => ⟨fun e => absurd (Or.inr (Or.inl e)) hx, fun _ => m_isWn g0 d0 (by omega) ⟨fun z => absurd rfl z, fun _ => ?_⟩⟩⟩
      show P_X12_finds Mm (nI 1) _
      rw [m_er (by omega)]
      exact ⟨rfl, hE 1 (by omega)⟩
    have ce : P_X11_error K Mc 1 (fun v2 M3 => P_X12_most Mm a1 (fun r2 Mm1 => v2 = r2 ∧ Inv (n + 1) K M3 Mm1)) := by
      show P_X11_error K Mc (nI 1) _
      rw [c_er (by omega)]
      exact me
    refine ⟨fun _ => ce, fun z => ⟨fun y => ?_, fun _ => ce⟩⟩
    rw [Int32.lt_iff_toInt_lt, tm2] at z
    rw [f0, Int32.lt_iff_toInt_lt, nI_toInt (by omega)] at y
    omega
