theorem dv {i j n : Nat} (hj : j < n) : (i * n + j) / n = i ∧ (i * n + j) % n = j := by
  rw [Nat.mul_comm i n]
  exact ⟨by rw [Nat.mul_add_div (by omega), Nat.div_eq_of_lt hj, Nat.add_zero], by rw [Nat.mul_add_mod, Nat.mod_eq_of_lt hj]⟩
def awN (r h : Nat) : Nat := if h ≤ r then r - h else h - r
theorem aw_nI {r h : Nat} (hr : r ≤ 8) (hh : h ≤ 8) : (if 0 ≤ nI r - nI h then nI r - nI h else 0 - (nI r - nI h)) = nI (awN r h) := by
  have e : (nI r - nI h).toInt = (r : Int) - h := pk_sub_toInt (by omega) (by omega)
  have e0 : (0 : Int32).toInt = 0 := rfl
  unfold awN
  by_cases q : h ≤ r
  · rw [if_pos (by rw [Int32.le_iff_toInt_le, e, e0]; omega), if_pos q, sb_nI q]
  · rw [if_neg (by rw [Int32.le_iff_toInt_le, e, e0]; omega), if_neg q]
    rw [show (0 : Int32) - (nI r - nI h) = nI h - nI r by rw [Int32.zero_sub, Int32.neg_sub], sb_nI (by omega)]
theorem aw_le {r h : Nat} (hr : r ≤ 8) (hh : h ≤ 8) : awN r h ≤ 8 := by
  unfold awN
  split <;> omega
theorem c_ofOne {b : Bool} {Q : Int32 → Prop} (hQ : Q (bI b)) : P_X2_ofOne (bI b) Q := by
  unfold P_X2_ofOne
  cases b with
  | true => exact br_f (by decide) hQ
  | false => exact br_t rfl hQ
theorem mv_nI {o o' : Nat} (p q : Bool) (h : o' + (if q = true then 1 else 0) = o + (if p = true then 1 else 0)) : nI o + (bI p - bI q) = nI o' := by
  cases p <;> cases q
  · rw [if_neg (by decide)] at h
    rw [show o' = o by omega, show bI false - bI false = nI 0 from rfl, nI_add, Nat.add_zero]
  · rw [if_pos rfl, if_neg (by decide)] at h
    rw [show o = o' + 1 by omega, show bI false - bI true = -1 from rfl, pk_m1]
  · rw [if_pos rfl, if_neg (by decide)] at h
    rw [show o' = o + 1 by omega, show bI true - bI false = nI 1 from rfl, nI_add]
  · rw [if_pos rfl] at h
    rw [show o' = o by omega, show bI true - bI true = nI 0 from rfl, nI_add, Nat.add_zero]
theorem or_one (r h : Nat) : (if r + 1 = h ∨ r + 1 = h + 2 then 1 else 0) = (if r + 1 = h then 1 else 0) + (if r + 1 = h + 2 then 1 else 0) := by
  by_cases u1 : r + 1 = h
  · rw [if_pos (Or.inl u1), if_pos u1, if_neg (by omega)]
  · rw [if_neg u1]
    by_cases u2 : r + 1 = h + 2
    · rw [if_pos (Or.inr u2), if_pos u2]
    · rw [if_neg u2, if_neg (fun c => by rcases c with c | c; exact u1 c; exact u2 c)]
theorem airR_pl {a : Nat → Nat} {V : Vt} {i j h : Nat} (hi : i < 8) (hj : j < 8) : airR (plA a i j) V h = airV a V (oin (plA a i j) (h + 1)) (oin (plA a i j) h + oin (plA a i j) (h + 2)) := by
  unfold airR
  generalize oin (plA a i j) (h + 1) = o
  generalize oin (plA a i j) h + oin (plA a i j) (h + 2) = n
  unfold airV
  rw [plA_hi hi hj (by omega), plA_lo (by omega)]
theorem conL_pl {a : Nat → Nat} {V : Vt} {i j l : Nat} (hi : i < 8) (hj : j < 8) : conL (plA a i j) V l = ctB (a (44 + 3 * l)) (a (44 + 3 * l + 1)) (a 3) (airR (plA a i j) V (a (44 + 3 * l + 2))) := by
  unfold conL
  rw [plA_hi (k := 44 + 3 * l) hi hj (by omega), plA_hi (k := 44 + 3 * l + 1) hi hj (by omega), plA_hi (k := 44 + 3 * l + 2) hi hj (by omega), plA_lo (k := 3) (by omega)]
theorem farL_pl {a : Nat → Nat} {V : Vt} {i j l : Nat} (hi : i < 8) (hj : j < 8) : farL (plA a i j) V l = farV (a (44 + 3 * l)) (a (44 + 3 * l + 1)) (airR (plA a i j) V (a (44 + 3 * l + 2))) := by
  unfold farL
  rw [plA_hi (k := 44 + 3 * l) hi hj (by omega), plA_hi (k := 44 + 3 * l + 1) hi hj (by omega), plA_hi (k := 44 + 3 * l + 2) hi hj (by omega)]
set_option maxHeartbeats 4000000 in
theorem c_pair {K g t l : Nat} {F : Ft} {M : Mem} {a : Nat → Nat} {V : Vt} {Q : Int32 → Mem → Prop} (hg : isH g) (h : HR g M a) (hr : TR g K t F M a V) (c : CX K t F M) (d : DOK a) (hl : l < a 2) (hQ : ∀ M' : Mem, Cs M M' → CX K t F M' → Q (cI (chV a V l)) M') : P_X2_pairToPull K M g (nI l) Q := by
  have dl := d.2.2.2.1 l hl
  have hl6 := d.1.2.2
  have d0 := d.1.1
  have e := h.2.2.2.1 l hl
  have inl : vp_in (nI l) 6 := vp_in_nI (by omega) (by omega)
  unfold P_X2_pairToPull
  refine ⟨inl, ?_⟩
  rw [cl_nI (by omega), e.2.2]
  refine c_openInR h d dl.2.2 ⟨inl, c_beside h d dl.2.2 (c_airBy hg h hr c d (oin3_le d (by omega) (by omega) (by omega)) (fun M2 s2 c2 => c_far (s2.HR hg h) d hl (airV_le _ _ _ _) ?_))⟩
  have hfe : farV (a (44 + 3 * l)) (a (44 + 3 * l + 1)) (airV a V (oin a (a (44 + 3 * l + 2) + 1)) (oin a (a (44 + 3 * l + 2)) + oin a (a (44 + 3 * l + 2) + 2))) = farL a V l := rfl
  have hf2 : farL a V l ≤ 99 := farV_le dl.2.1 (airR_le _ _ _)
  rw [hfe]
  generalize hho : a (44 + 3 * l + 2) = ho at *
  unfold B_X2_pairToPull_41
  intro X41 hX41
  generalize hn : a 0 = n at *
  have outer : ∀ f1 i z (M3 : Mem), i + f1 = n → z ≤ 64 → Cs M M3 → CX K t F M3 → chG a V l (farL a V l) n (n * n - i * n) (i * n) z = chV a V l → X41 (cI z) (nI i) M3 := by
    intro f1
    induction f1 with
    | zero =>
      intro i z M3 hi hz s3 c3 hc
      obtain rfl : i = n := by omega
      have h3 := s3.HR hg h
      apply hX41
      rw [h3.1.1, hn]
      refine br_t (nI_le (Nat.le_refl _) (by omega)) ?_
      rw [Nat.sub_self] at hc
      have : z = chV a V l := hc
      rw [this]
      exact hQ M3 s3 c3
    | succ f1 ih1 =>
      intro i z M3 hi hz s3 c3 hc
      have hin : i < n := by omega
      have h3 := s3.HR hg h
      have bi := d.2.2.1 i (by omega)
      have hPn : i * n + n ≤ n * n := by rw [← Nat.succ_mul]; exact Nat.mul_le_mul_right n (by omega)
      have hS : (i + 1) * n = i * n + n := Nat.succ_mul i n
      apply hX41
      rw [h3.1.1, hn, cl_nI (by omega), cl_nI (by omega), (h3.2.2.1 i (by omega)).1, (h3.2.2.2.1 l hl).2.2, hho, aw_nI bi.1 dl.2.2]
      refine br_f (nI_ge (by omega) (by omega)) ⟨vp_in_nI (by omega) (by omega), inl, ?_⟩
      rintro _ rfl
      unfold B_X2_pairToPull_72
      intro X72 hX72
      have inner : ∀ f2 j z (M4 : Mem), j + f2 = n → z ≤ 64 → Cs M M4 → CX K t F M4 → chG a V l (farL a V l) n (n * n - (i * n + j)) (i * n + j) z = chV a V l → X72 (cI z) (nI j) M4 := by
        intro f2
        induction f2 with
        | zero =>
          intro j z M4 hj hz s4 c4 hc
          obtain rfl : j = n := by omega
          have h4 := s4.HR hg h
          apply hX72
          rw [h4.1.1, hn]
          refine br_t (nI_le (Nat.le_refl _) (by omega)) ?_
          rintro _ rfl
          rw [nI_1]
          exact ih1 (i + 1) z M4 (by omega) hz s4 c4 (by rw [hS]; exact hc)
        | succ f2 ih2 =>
          intro j z M4 hj hz s4 c4 hc
          have hjn : j < n := by omega
          have h4 := s4.HR hg h
          have bj := d.2.2.1 j (by omega)
          obtain ⟨e1, e2⟩ := dv (i := i) hjn
          have ef : n * n - (i * n + j) = (n * n - (i * n + (j + 1))) + 1 := by omega
          rw [ef] at hc
          unfold chG at hc
          rw [e1, e2, hho] at hc
          have nx : ∀ z', z' ≤ 64 → ∀ M5 : Mem, Cs M M5 → CX K t F M5 → chG a V l (farL a V l) n (n * n - (i * n + (j + 1))) (i * n + j + 1) z' = chV a V l → X72 (cI z') (nI j + 1) M5 := fun z' hz' M5 s5 c5 hc' => by
            rw [nI_1]
            exact ih2 (j + 1) z' M5 (by omega) hz' s5 c5 hc'
          have no : ¬ ((a (12 + 4 * i) = ho ∨ a (12 + 4 * j) = ho) ∧ canP a i j) → X72 (cI z) (nI j + 1) M4 := fun q => by
            rw [if_neg (fun c => q ⟨c.1, canB_i c.2⟩)] at hc
            exact nx z hz M4 s4 c4 hc
          have awz : ∀ r, awN r ho = 0 ↔ r = ho := fun r => by unfold awN; split <;> omega
          have aw1 : ∀ r, awN r ho = 1 ↔ (r + 1 = ho ∨ r + 1 = ho + 2) := fun r => by unfold awN; split <;> omega
          have yes : (a (12 + 4 * i) = ho ∨ a (12 + 4 * j) = ho) → B_X2_pairToPull_110 K g Q X41 X72 (nI l) (nI (oin a (ho + 1))) (nI (oin a ho + oin a (ho + 2))) (nI (farL a V l)) (cI z) (nI i) (nI (awN (a (12 + 4 * i)) ho)) (nI j) (nI (awN (a (12 + 4 * j)) ho)) M4 := fun own => by
            unfold B_X2_pairToPull_110
            refine c_canPull h4 d (by omega) (by omega) (fun cp => ?_) (fun cp => ?_)
            · refine ⟨fun _ => ?_, fun q => absurd q (by decide)⟩
              rw [if_pos ⟨own, canB_t cp⟩] at hc
              have d4 := d.pl (by omega) (by omega) cp
              have ali := aw_le bi.1 dl.2.2
              have alj := aw_le bj.1 dl.2.2
              have p1 := oin_pl (by omega) (by omega) cp (ho + 1)
              have p2 := oin_pl (by omega) (by omega) cp ho
              have p3 := oin_pl (by omega) (by omega) cp (ho + 2)
              have tl : B_X2_pairToPull_134 K g Q X41 X72 (nI l) (nI (oin a (ho + 1))) (nI (oin a ho + oin a (ho + 2))) (nI (farL a V l)) (cI z) (nI i) (nI (awN (a (12 + 4 * i)) ho)) (nI j) (nI (awN (a (12 + 4 * j)) ho)) (bI (decide (awN (a (12 + 4 * i)) ho = 0))) M4 := by
                unfold B_X2_pairToPull_134
                refine c_ofOne ?_
                have t2 : B_X2_pairToPull_147 K g Q X41 X72 (nI l) (nI (oin a (ho + 1))) (nI (oin a ho + oin a (ho + 2))) (nI (farL a V l)) (cI z) (nI i) (nI (awN (a (12 + 4 * i)) ho)) (nI j) (nI (awN (a (12 + 4 * j)) ho)) (bI (decide (awN (a (12 + 4 * i)) ho = 0))) (bI (decide (awN (a (12 + 4 * j)) ho = 0))) M4 := by
                  unfold B_X2_pairToPull_147
                  refine c_ofOne ?_
                  rintro _ rfl
                  have t3 : B_X2_pairToPull_164 K g Q X41 X72 (nI l) (nI (oin a (ho + 1))) (nI (oin a ho + oin a (ho + 2))) (nI (farL a V l)) (cI z) (nI i) (nI (awN (a (12 + 4 * i)) ho)) (nI j) (nI (awN (a (12 + 4 * j)) ho)) (bI (decide (awN (a (12 + 4 * i)) ho = 0)) - bI (decide (awN (a (12 + 4 * j)) ho = 0))) (bI (decide (awN (a (12 + 4 * i)) ho = 1))) M4 := by
                    unfold B_X2_pairToPull_164
                    refine c_ofOne ?_
                    have t4 : B_X2_pairToPull_178 K g Q X41 X72 (nI l) (nI (oin a (ho + 1))) (nI (oin a ho + oin a (ho + 2))) (nI (farL a V l)) (cI z) (nI i) (nI (awN (a (12 + 4 * i)) ho)) (nI j) (bI (decide (awN (a (12 + 4 * i)) ho = 0)) - bI (decide (awN (a (12 + 4 * j)) ho = 0))) (bI (decide (awN (a (12 + 4 * i)) ho = 1))) (bI (decide (awN (a (12 + 4 * j)) ho = 1))) M4 := by
                      unfold B_X2_pairToPull_178
                      refine c_ofOne ?_
                      rintro _ rfl
                      rw [mv_nI (o' := oin (plA a i j) (ho + 1)) _ _ (by
                        simp only [decide_eq_true_eq, awz]
                        have k1 : (a (12 + 4 * j) + 1 = ho + 1) = (a (12 + 4 * j) = ho) := propext (by omega)
                        have k2 : (a (12 + 4 * i) + 1 = ho + 1) = (a (12 + 4 * i) = ho) := propext (by omega)
                        simp only [k1, k2] at p1
                        exact p1)]
                      rw [mv_nI (o' := oin (plA a i j) ho + oin (plA a i j) (ho + 2)) _ _ (by
                        simp only [decide_eq_true_eq, aw1]
                        rw [or_one, or_one]
                        omega)]
                      refine c_airBy hg h4 (s4.TR hg hr) c4 d (oin3_le d4 (by omega) (by omega) (by omega)) (fun M5 s5 c5 => ?_)
                      rw [← airR_pl (by omega) (by omega)]
                      have h5 := s5.HR hg h4
                      refine c_isContentBy h5 d hl (airR_le _ _ _) ?_
                      have ec : conL (plA a i j) V l = ctB (a (44 + 3 * l)) (a (44 + 3 * l + 1)) (a 3) (airR (plA a i j) V ho) := by rw [conL_pl (by omega) (by omega), hho]
                      have ef2 : farL (plA a i j) V l = farV (a (44 + 3 * l)) (a (44 + 3 * l + 1)) (airR (plA a i j) V ho) := by rw [farL_pl (by omega) (by omega), hho]
                      rw [← ec]
                      have s45 := s4.tr s5
                      cases hcn : conL (plA a i j) V l with
                      | true =>
                        rw [if_pos hcn] at hc
                        refine ⟨fun q => absurd q (by decide), fun _ => ?_⟩
                        have := hQ M5 s45 c5
                        rw [← hc, cI_s] at this
                        rw [show (8 : Int32) = nI 8 from rfl, pk_mul, nI_add, Nat.mul_comm i 8]
                        exact this
                      | false =>
                        rw [if_neg (by rw [hcn]; decide)] at hc
                        refine ⟨fun _ => ?_, fun q => absurd rfl q⟩
                        have hzz : (0 ≤ cI z) ↔ 0 < z := cI_nn (by omega)
                        rw [hzz]
                        refine ⟨fun q => ?_, fun q => c_far h5 d hl (airR_le _ _ _) ?_⟩
                        · rw [if_neg (fun c => by omega)] at hc
                          rintro _ rfl
                          exact nx z hz M5 s45 c5 hc
                        · rw [← ef2]
                          have hb : farL (plA a i j) V l ≤ 99 := by rw [ef2]; exact farV_le dl.2.1 (airR_le _ _ _)
                          rw [le_nI (by omega) (by omega)]
                          refine ⟨fun q2 => ?_, fun q2 => ?_⟩
                          · rw [if_neg (fun c => by omega)] at hc
                            rintro _ rfl
                            exact nx z hz M5 s45 c5 hc
                          · rw [if_pos ⟨by omega, by omega⟩] at hc
                            rintro _ rfl _ rfl
                            rw [show (8 : Int32) = nI 8 from rfl, pk_mul, nI_add, Nat.mul_comm i 8, ← cI_s]
                            exact nx _ (by omega) M5 s45 c5 hc
                    have g1 : nI (awN (a (12 + 4 * j)) ho) = 1 ↔ awN (a (12 + 4 * j)) ho = 1 := eq_nI (b := 1) (by omega) (by omega)
                    rw [g1]
                    exact ⟨fun q => by rw [decide_eq_false q] at t4; exact t4, fun q => by rw [decide_eq_true q] at t4; exact t4⟩
                  have g1 : nI (awN (a (12 + 4 * i)) ho) = 1 ↔ awN (a (12 + 4 * i)) ho = 1 := eq_nI (b := 1) (by omega) (by omega)
                  rw [g1]
                  exact ⟨fun q => by rw [decide_eq_false q] at t3; exact t3, fun q => by rw [decide_eq_true q] at t3; exact t3⟩
                have g1 : nI (awN (a (12 + 4 * j)) ho) = 0 ↔ awN (a (12 + 4 * j)) ho = 0 := eq_nI (b := 0) (by omega) (by omega)
                rw [g1]
                exact ⟨fun q => by rw [decide_eq_false q] at t2; exact t2, fun q => by rw [decide_eq_true q] at t2; exact t2⟩
              have g1 : nI (awN (a (12 + 4 * i)) ho) = 0 ↔ awN (a (12 + 4 * i)) ho = 0 := eq_nI (b := 0) (by omega) (by omega)
              rw [g1]
              exact ⟨fun q => by rw [decide_eq_false q] at tl; exact tl, fun q => by rw [decide_eq_true q] at tl; exact tl⟩
            · refine ⟨fun q => absurd rfl q, fun _ => ?_⟩
              rintro _ rfl
              exact no (fun c => cp c.2)
          apply hX72
          rw [h4.1.1, hn, cl_nI (by omega), cl_nI (by omega), (h4.2.2.1 j (by omega)).1, (h4.2.2.2.1 l hl).2.2, hho, aw_nI bj.1 dl.2.2]
          refine br_f (nI_ge (by omega) (by omega)) ⟨vp_in_nI (by omega) (by omega), inl, ?_⟩
          rintro _ rfl
          have ali := aw_le bi.1 dl.2.2
          have alj := aw_le bj.1 dl.2.2
          have g1 : nI (awN (a (12 + 4 * i)) ho) = 0 ↔ awN (a (12 + 4 * i)) ho = 0 := eq_nI (b := 0) (by omega) (by omega)
          have g2 : nI (awN (a (12 + 4 * j)) ho) = 0 ↔ awN (a (12 + 4 * j)) ho = 0 := eq_nI (b := 0) (by omega) (by omega)
          rw [g1, g2, awz, awz]
          refine ⟨fun q => yes (Or.inl q), fun q => ⟨fun q2 => ?_, fun q2 => yes (Or.inr q2)⟩⟩
          rintro _ rfl
          exact no (fun c => by rcases c.1 with c | c; exact q c; exact q2 c)
      exact inner n 0 z M3 (by omega) hz s3 c3 hc
  exact outer n 0 0 M2 (by omega) (by omega) s2 c2 (by rw [Nat.zero_mul, Nat.sub_zero]; unfold chV; rw [hn])
