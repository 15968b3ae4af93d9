/-! ===== the class's search, whole ===== -/
theorem mx0 {x y : Nat} (hx : x < 1000) (hy : y < 1000) : (if 0 < nI x - nI y then nI x - nI y else 0) = nI (x - y) := by
  by_cases q : x < y
  · rw [if_neg (fun z => Int32.lt_irrefl (Int32.lt_trans z (pk_sneg (by omega) q))), Nat.sub_eq_zero_of_le (by omega)]
    rfl
  · rw [sb_nI (by omega)]
    by_cases q2 : x - y = 0
    · rw [q2]; rfl
    · exact if_pos (nI_lt (a := 0) (by omega) (by omega))
theorem mn9 {x : Nat} (hx : x < 1000) : (if nI x < 9 then nI x else 9) = nI (m9 x) := by
  unfold m9
  by_cases q : x < 9
  · rw [if_pos q]
    exact if_pos (nI_lt (b := 9) q (by omega))
  · rw [if_neg q]
    exact if_neg (nI_nlt (a := x) (b := 9) (by omega) (by omega))
section PL
variable {K t : Nat} {F : Ft} {V : Vt} {M0 : Mem} {a : Nat → Nat}
theorem pul_u {a r : Nat → Nat} {w v : Nat} : pul a (updN r w v) (w + 1) = pul a r w + (v - a (12 + 4 * w + 1)) := by
  have e : ∀ m, m ≤ w → pul a (updN r w v) m = pul a r m := by
    intro m
    induction m with
    | zero => intro _; rfl
    | succ m ihm =>
      intro hm
      show pul a (updN r w v) m + (updN r w v m - _) = pul a r m + (r m - _)
      rw [ihm (by omega), updN_n (by omega)]
  show pul a (updN r w v) w + (updN r w v w - _) = _
  rw [e w (Nat.le_refl _), updN_s]
theorem NI_n {f w : Nat} {r l : Nat → Nat} (d : DOK a) (hw : a 0 - (f + 1) = w) (hf : f + 1 ≤ a 0) (h : ls a w = false) (ni : NI a (f + 1) r l) : NI a f (updN r w (a (12 + 4 * w + 1))) l := by
  refine ⟨fun k hk => ?_, ?_⟩
  · by_cases q : k = w
    · rw [q, updN_s]; exact (d.2.2.1 w (by omega)).2.1
    · rw [updN_n q]; exact ni.1 k (by omega)
  · rw [SU_n hw hf h]; exact ni.2
theorem NI_v {f w c v : Nat} {r l : Nat → Nat} (hw : a 0 - (f + 1) = w) (hf : f + 1 ≤ a 0) (h : ls a w = true) (hc : a (12 + 4 * w + 2) = c) (c4 : c ≤ 4) (hv : v ≤ l c) (hlow : l c ≤ v + 9 * ctL a c (a 0) f) (h9 : v ≤ 9) (ni : NI a (f + 1) r l) : NI a f (updN r w v) (updN l c (l c - v)) := by
  refine ⟨fun k hk => ?_, ?_⟩
  · by_cases q : k = w
    · rw [q, updN_s]; exact h9
    · rw [updN_n q]; exact ni.1 k (by omega)
  · have e := SU_v (r := r) hw hf h hc c4 hv hlow g1
    have e := Nat.add_right_cancel (m := v * 1) e
    rw [e]
    exact ni.2
theorem pl_leaf (d : DOK a) {u : Mem → Int32 → Int32 → Int32 → Int32 → (Mem → Prop) → Prop} {r l : Nat → Nat} {s : CS} {M : Mem} {Q : Mem → Prop} {p x6 : Nat} (hB : HB K t F 30 M0 a V) (cp : CP K t F a M0 0 r l s M) (ni : NI a 0 r l) (hp' : p = hp a V (a 0) 0 r l) (hn : ¬ (hp a V (a 0) 0 r l < s.1 ∨ (hp a V (a 0) 0 r l = s.1 ∧ s.2.1 ≤ pul a r (a 0)))) (hQ : ∀ M', CP K t F a M0 0 r l (go a (a 0) (lfC a V) 0 r l s) M' → Q M') : B_X5_place_62 u K Q (nI (a 0)) (nI (pul a r (a 0))) (nI p) (nI x6) M := by
  have d0 := d.1.1
  have d2 := d.1.2.2
  have f0 : M 30 0 = nI (a 0) := (cp.1.hb hB).1.1.1
  have hpl := pul_le (a := a) (r := r) (a 0) (fun k hk => ni.1 k (by omega))
  have hc2 : hp a V (a 0) 0 r l ≤ a 2 := cnP_b _ _
  have eg : go a (a 0) (lfC a V) 0 r l s = (cnt a V r, pul a r (a 0), r) := by
    show lfC a V r s = _
    unfold lfC
    rw [cnt_e (l := l) d]
    exact if_pos (by omega)
  rw [eg] at hQ
  subst hp'
  unfold B_X5_place_62
  rw [f0]
  refine ⟨fun z => absurd z (nI_nlt (Nat.le_refl _) (by omega)), fun _ => ?_⟩
  rintro _ rfl _ rfl
  refine ⟨by decide, by decide, by decide, by decide, by decide, ?_⟩
  rintro _ rfl
  obtain ⟨gp, cx, h9, h10, h8, hs⟩ := cp
  refine hQ _ ⟨fun k h2 h7 h8 h9 h10 h11 h14 hj => ?_, ⟨cx.1.keep ?_, cx.2⟩, fun x hx => ?_, fun c hc => ?_, fun k hk => ?_, ⟨by rw [cnt_e (l := l) d]; omega, by show pul a r (a 0) ≤ 1000000; omega⟩, ?_, ?_, fun k hk => ?_⟩
  · rw [mu_at, if_neg h14, sf_ne h7, sf_ne h7]; exact gp k h2 h7 h8 h9 h10 h11 h14 hj
  · rw [mu_at, if_neg (by omega), sf_ne (by omega), sf_ne (by omega)]
  · rw [mu_at, if_neg (by omega), sf_ne (by omega), sf_ne (by omega)]; exact h9 x hx
  · rw [mu_at, if_neg (by omega), sf_ne (by omega), sf_ne (by omega), mu_at, if_neg (by omega), sf_ne (by omega), sf_ne (by omega)]; exact h10 c hc
  · rw [mu_at, if_neg (by omega), sf_ne (by omega), sf_ne (by omega)]; exact h8 k hk
  · rw [mu_at, if_neg (by omega), sf_j (by omega), sf_e rfl rfl, cnt_e (l := l) d]
  · rw [mu_at, if_neg (by omega), sf_e rfl rfl]
  · rw [mu_at, if_pos rfl]
    show va_cpy _ _ 0 0 8 k = _
    rw [cpy_at, if_pos (by omega), sf_ne (by omega), sf_ne (by omega)]
    exact h8 k (by omega)
set_option maxHeartbeats 4000000 in
theorem pl (hB : HB K t F 30 M0 a V) (d : DOK a) (h12 : H12 a M0) (h13 : H13 a M0) : ∀ f n r l s M (Q : Mem → Prop), f < n → f ≤ a 0 → CP K t F a M0 f r l s M → NI a f r l → (∀ M', CP K t F a M0 f r l (go a (a 0) (lfC a V) f r l s) M' → Q M') → P_X5_place K n M (nI (a 0 - f)) (nI (pul a r (a 0 - f))) (nI (cnP (fun i => decide (stP a (a 0) i (a 0) < a 0 - f) && con a V (a 0) f r l i) (a 2))) (nI (cnP (fun i => decide (a 0 - f ≤ stP a (a 0) i (a 0))) (a 2))) Q := by
  have d0 := d.1.1
  have d1 := d.1.2.1
  have d2 := d.1.2.2
  intro f
  induction f with
  | zero =>
    intro n r l s M Q hn hf cp ni hQ
    obtain ⟨n, rfl⟩ : ∃ x, n = x + 1 := ⟨n - 1, by omega⟩
    refine pl_pre hB d h13 hf cp ni (fun M' cp' e => hQ M' (by rw [e]; exact cp')) (fun M' cp' e => ?_)
    refine pl_leaf d hB cp' ni ?_ e hQ
    refine cnP_e (fun i hi => ?_)
    rw [decide_eq_true (show stP a (a 0) i (a 0) ≤ a 0 - 0 from st_le _ _ _ _)]
    rfl
  | succ f ih =>
    intro n r l s M Q hn hf cp ni hQ
    obtain ⟨n, rfl⟩ : ∃ x, n = x + 1 := ⟨n - 1, by omega⟩
    refine pl_pre hB d h13 hf cp ni (fun M' cp' e => hQ M' (by rw [e]; exact cp')) (fun M1 cp1 _ => ?_)
    clear cp
    obtain ⟨w, hw⟩ : ∃ w, a 0 - (f + 1) = w := ⟨_, rfl⟩
    have hf0 : w + 1 = a 0 - f := by omega
    have hpl := pul_le (a := a) (r := r) w (fun k hk => ni.1 k (by omega))
    have ih := fun r' l' s' M' Q' => ih n r' l' s' M' Q' (by omega) (by omega)
    rw [← hf0] at ih
    rw [hw]
    have hb := cp1.1.hb hB
    have h := hb.1
    have f0 : M1 30 0 = nI (a 0) := h.1.1
    have eo : M1 32 w = nI (a (12 + 4 * w + 1)) := (h.2.2.1 w (by omega)).2.1
    have b := d.2.2.1 w (by omega)
    unfold B_X5_place_62
    rw [f0, cl_nI (by omega), eo]
    refine ⟨fun _ => ⟨vp_in_nI (by omega) (by omega), ?_⟩, fun z => absurd (nI_lt (by omega) (by omega)) z⟩
    rintro _ rfl
    refine c_looseOn h d (by omega) ?_
    cases hl : ls a w with
    | false =>
      have el : lcd a w = 0 := if_neg (by rw [hl]; decide)
      rw [el]
      refine ⟨fun z => absurd ((cI_nn (m := 0) (by omega)).mp z) (by omega), fun _ => ⟨vp_in_nI (by omega) (by omega), ?_⟩⟩
      rintro _ rfl
      have eg : go a (a 0) (lfC a V) (f + 1) r l s = go a (a 0) (lfC a V) f (updN r w (a (12 + 4 * w + 1))) l s := by
        rw [go_s, hw, if_neg (by rw [hl]; decide)]
      have ec : ∀ i, con a V (a 0) f (updN r w (a (12 + 4 * w + 1))) l i = con a V (a 0) (f + 1) r l i := fun i => con_e (SU_n hw hf hl) (cg2 (SU_n hw hf hl) (SU_n hw hf hl))
      have ep : pul a (updN r w (a (12 + 4 * w + 1))) (w + 1) = pul a r w := by
        rw [pul_u, Nat.sub_self, Nat.add_zero]
      have ek : ∀ x, ctL a x (a 0) (f + 1) = ctL a x (a 0) f := fun x => ctL_n (fun z => by rw [hw, hl] at z; exact absurd z.1 (by decide))
      have ih := ih (updN r w (a (12 + 4 * w + 1))) l s (sf M1 8 w (nI (a (12 + 4 * w + 1)))) Q
      rw [ep] at ih
      obtain ⟨gp, cx, h9, h10, h8, hs⟩ := cp1
      rw [nI_1]
      have ei : (fun i => decide (stP a (a 0) i (a 0) < w + 1) && con a V (a 0) f (updN r w (a (12 + 4 * w + 1))) l i) = (fun i => decide (stP a (a 0) i (a 0) ≤ w) && con a V (a 0) (f + 1) r l i) := by
        funext i
        rw [ec i]
        congr 1
        exact decide_eq_decide.mpr (by omega)
      rw [ei] at ih
      refine ih ⟨fun k h2 h7 h8 h9 h10 h11 h14 hj => by rw [sf_ne h8]; exact gp k h2 h7 h8 h9 h10 h11 h14 hj, ⟨cx.1.keep (sf_ne (by omega)), cx.2⟩, fun x hx => ?_, fun c hc => ?_, fun k hk => ?_, hs.keep (sf_ne (by omega)) (sf_ne (by omega))⟩ (NI_n d hw hf hl ni) (fun M2 cp2 => ?_)
      · rw [sf_ne (by omega), h9 x hx]
        exact congrArg nI (SU_n hw hf hl).symm
      · rw [sf_ne (by omega), sf_ne (by omega), ← ek]
        exact h10 c hc
      · by_cases q : k = w
        · rw [q, sf_e rfl rfl, updN_s]
        · rw [sf_j q, updN_n q]; exact h8 k (by omega)
      · rw [← eg] at cp2
        obtain ⟨gp, cx, h9, h10, h8, hs⟩ := cp2
        refine hQ M2 ⟨gp, cx, fun x hx => ?_, fun c hc => ?_, fun k hk => ?_, hs⟩
        · rw [h9 x hx]
          exact congrArg nI (SU_n hw hf hl)
        · rw [ek]; exact h10 c hc
        · rw [h8 k (by omega), updN_n (by omega)]
    | true =>
      have hcp := (ls_t.mp hl).1
      obtain ⟨c, hc⟩ : ∃ c, a (12 + 4 * w + 2) = c + 1 := ⟨a (12 + 4 * w + 2) - 1, by omega⟩
      have el : lcd a w = c + 1 := by
        unfold lcd
        rw [if_pos hl, hc]
      rw [el, cI_s]
      have c4 : c < 4 := by omega
      have ek : ctL a (c + 1) (a 0) (f + 1) = 1 + ctL a (c + 1) (a 0) f := ctL_y (by rw [hw]; exact ⟨hl, hc⟩)
      have eko : ∀ x, x ≠ c + 1 → ctL a x (a 0) (f + 1) = ctL a x (a 0) f := fun x hx => ctL_n (fun z => by rw [hw, hc] at z; exact hx z.2.symm)
      have hkb := ctL_le a (c + 1) (a 0) f
      have lb : l (c + 1) ≤ 72 := Nat.le_trans (lc_le (by omega) (by omega) (by omega)) ni.2
      have hla : w < la a (c + 1) (a 0) := by
        have q := (la_ct (a := a) (c := c + 1) (N := a 0) (f + 1) hf).2 (by omega)
        omega
      have hla2 := la_le a (c + 1) (a 0)
      have eg := go_l (a := a) (N := a 0) (lf := lfC a V) (r := r) (l := l) (s := s) hw hl hc
      rw [eg] at hQ
      have m9b := m9_le (l (c + 1))
      have e10 : M1 10 c = nI (l (c + 1)) := (cp1.2.2.2.1 c c4).1
      have e11 : M1 11 c = nI (1 + ctL a (c + 1) (a 0) f) := by rw [← ek]; exact (cp1.2.2.2.1 c c4).2
      refine ⟨fun _ => ?_, fun z => absurd (nI_le (Nat.zero_le _) (by omega)) z⟩
      have vi : vp_in (nI c) 4 := vp_in_nI (by omega) (by omega)
      rw [cl_nI (k := c) (by omega), e10, e11]
      refine ⟨vi, vi, ?_⟩
      have e9 : (9 : Int32) * (nI (1 + ctL a (c + 1) (a 0) f) - 1) = nI (9 * ctL a (c + 1) (a 0) f) := by
        rw [show (1 : Int32) = nI 1 from rfl, sb_nI (by omega), show (9 : Int32) = nI 9 from rfl, pk_mul, Nat.add_sub_cancel_left]
      have elow := mx0 (x := l (c + 1)) (y := 9 * ctL a (c + 1) (a 0) f) (by omega) (by omega)
      rw [e9, elow]
      rintro _ rfl
      refine ⟨vi, ?_⟩
      have ehigh := mn9 (x := l (c + 1)) (by omega)
      rw [ehigh]
      rintro _ rfl
      unfold B_X5_place_188
      intro X hX
      have key : ∀ kk v s' M2, kk = m9 (l (c + 1)) + 1 - v → l (c + 1) - 9 * ctL a (c + 1) (a 0) f ≤ v → v ≤ 72 → CP K t F a M0 (f + 1) r l s' M2 → fvs (fun v s' => go a (a 0) (lfC a V) f (updN r w v) (updN l (c + 1) (l (c + 1) - v)) s') kk v s' = fvs (fun v s' => go a (a 0) (lfC a V) f (updN r w v) (updN l (c + 1) (l (c + 1) - v)) s') (m9 (l (c + 1)) + 1 - (l (c + 1) - 9 * ctL a (c + 1) (a 0) f)) (l (c + 1) - 9 * ctL a (c + 1) (a 0) f) s → X (nI v) M2 := by
        intro kk
        induction kk with
        | zero =>
          intro v s' M2 hkk hv0 hv72 cp2 es
          have es : s' = _ := es
          apply hX
          refine br_t (nI_lt (by omega) (by omega)) (hQ M2 ?_)
          rw [← es]
          exact cp2
        | succ kk ihk =>
          intro v s' M2 hkk hv0 hv72 cp2 es
          rw [fvs_s] at es
          apply hX
          refine br_f (nI_nlt (by omega) (by omega)) ⟨vp_in_nI (by omega) (by omega), ?_⟩
          rw [cl_nI (by omega)]
          rintro _ rfl
          have hv : v ≤ l (c + 1) := by omega
          have hlow : l (c + 1) ≤ v + 9 * ctL a (c + 1) (a 0) f := by omega
          have su := SU_v (r := r) hw hf hl hc (by omega) hv hlow
          have ep : pul a (updN r w v) (w + 1) = pul a r w + (v - a (12 + 4 * w + 1)) := pul_u
          have ei : cnP (fun i => decide (stP a (a 0) i (a 0) < w + 1) && con a V (a 0) f (updN r w v) (updN l (c + 1) (l (c + 1) - v)) i) (a 2) = cnP (fun i => decide (stP a (a 0) i (a 0) ≤ w) && con a V (a 0) (f + 1) r l i) (a 2) := cnP_e (fun i hi => by
            by_cases q : stP a (a 0) i (a 0) ≤ w
            · rw [decide_eq_true q, decide_eq_true (show stP a (a 0) i (a 0) < w + 1 by omega), con_v hw hf hl hc (by omega) hv hlow q]
            · rw [decide_eq_false q, decide_eq_false (show ¬ stP a (a 0) i (a 0) < w + 1 by omega), Bool.false_and, Bool.false_and])
          have hb2 := cp2.1.hb hB
          obtain ⟨gp, cx, h9, h10, h8, hs⟩ := cp2
          have e12 : M2 12 c = nI (la a (c + 1) (a 0) - 1) := by
            rw [gp 12 (by omega) (by omega) (by omega) (by omega) (by omega) (by omega) (by omega) (fun j => by omega)]
            exact h12 c c4 (by omega)
          have hr1 : HR 30 (sf M2 8 w (nI v)) a := hb2.1.keep (fun k k1 k2 => sf_ne (by omega))
          refine c_fl1 (R := RO a (a 0) (f + 1) r l) (R' := RO a (a 0) f (updN r w v) (updN l (c + 1) (l (c + 1) - v))) (lc := l (c + 1)) (k := ctL a (c + 1) (a 0) f) (v := v) (L := la a (c + 1) (a 0) - 1) hr1 d (by omega) c4 (by omega) (by rw [sf_ne (by omega)]; exact e12) (fun x => su (gx x)) (fun x hx => by rw [sf_ne (by omega)]; exact h9 x hx) (by rw [sf_ne (by omega)]; exact (h10 c c4).1) hv (by rw [sf_ne (by omega), ← ek]; exact (h10 c c4).2) (fun M3 g3 k9 k10 k10o k11 k11o => ?_)
          have e25 := mx0 (x := v) (y := a (12 + 4 * w + 1)) (by omega) (by omega)
          rw [e25]
          rintro _ rfl
          rw [nI_1, nI_add, ← ep, ← ei]
          refine ih (updN r w v) (updN l (c + 1) (l (c + 1) - v)) s' M3 _ ⟨fun k h2 h7 h8 h9 h10 h11 h14 hj => by rw [g3 k h9 h10 h11, sf_ne h8]; exact gp k h2 h7 h8 h9 h10 h11 h14 hj, ⟨cx.1.keep (by rw [g3 2 (by omega) (by omega) (by omega), sf_ne (by omega)]), cx.2⟩, k9, fun j hj => ?_, fun k hk => ?_, hs.keep (by rw [g3 7 (by omega) (by omega) (by omega), sf_ne (by omega)]) (by rw [g3 14 (by omega) (by omega) (by omega), sf_ne (by omega)])⟩ (NI_v hw hf hl hc (by omega) hv hlow (by omega) ni) (fun M4 cp4 => ?_)
          · by_cases q : j = c
            · rw [q, updN_s]
              exact ⟨k10, k11⟩
            · rw [updN_n (by omega), k10o j q, k11o j q, sf_ne (by omega), sf_ne (by omega), ← eko _ (by omega)]
              exact h10 j hj
          · rw [g3 8 (by omega) (by omega) (by omega)]
            by_cases q : k = w
            · rw [q, sf_e rfl rfl, updN_s]
            · rw [sf_j q, updN_n q]; exact h8 k (by omega)
          · have hb4 := cp4.1.hb hB
            obtain ⟨gp4, cx4, h94, h104, h84, hs4⟩ := cp4
            have e12 : M4 12 c = nI (la a (c + 1) (a 0) - 1) := by
              rw [gp4 12 (by omega) (by omega) (by omega) (by omega) (by omega) (by omega) (by omega) (fun j => by omega)]
              exact h12 c c4 (by omega)
            refine c_fl2 (R := RO a (a 0) (f + 1) r l) (R' := RO a (a 0) f (updN r w v) (updN l (c + 1) (l (c + 1) - v))) (lc := l (c + 1)) (k := ctL a (c + 1) (a 0) f) (v := v) (L := la a (c + 1) (a 0) - 1) hb4.1 d (by omega) c4 (by omega) e12 (fun x => su (gx x)) h94 (by rw [(h104 c c4).1, updN_s]) hv (h104 c c4).2 (fun M5 g5 k9 k10 k10o k11 k11o => ?_)
            rintro _ rfl
            rw [nI_1]
            refine ihk (v + 1) _ M5 (by omega) (by omega) (by omega) ⟨fun k h2 h7 h8 h9 h10 h11 h14 hj => by rw [g5 k h9 h10 h11]; exact gp4 k h2 h7 h8 h9 h10 h11 h14 hj, ⟨cx4.1.keep (g5 2 (by omega) (by omega) (by omega)), cx4.2⟩, k9, fun j hj => ?_, fun k hk => ?_, hs4.keep (g5 7 (by omega) (by omega) (by omega)) (g5 14 (by omega) (by omega) (by omega))⟩ es
            · by_cases q : j = c
              · rw [q, ek]
                exact ⟨k10, k11⟩
              · rw [k10o j q, k11o j q, eko _ (by omega), (h104 j hj).1, updN_n (by omega)]
                exact ⟨rfl, (h104 j hj).2⟩
            · rw [g5 8 (by omega) (by omega) (by omega), h84 k (by omega), updN_n (by omega)]
      exact key _ _ s M1 rfl (Nat.le_refl _) (by omega) cp1 rfl
end PL
