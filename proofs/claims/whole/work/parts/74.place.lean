/-! ===== the class goes through the standings ===== -/
theorem SU_v {a r l : Nat → Nat} {N f w c v : Nat} (hw : N - (f + 1) = w) (hf : f + 1 ≤ N) (h : ls a w = true) (hc : a (12 + 4 * w + 2) = c) (c4 : c ≤ 4) (hv : v ≤ l c) (hlow : l c ≤ v + 9 * ctL a c N f) : ∀ g : Nat → Nat, SU a g N f (updN r w v) (updN l c (l c - v)) + v * g (a (12 + 4 * (la a c N - 1))) = SU a g N (f + 1) r l + v * g (a (12 + 4 * w)) := fun g => by
  by_cases z : ctL a c N f = 0
  · obtain rfl : v = l c := by omega
    have hla : la a c N = w + 1 := by
      subst hw
      exact (la_last hf ⟨h, hc⟩).mpr z
    rw [Nat.sub_self, SU_l hw hf h hc c4 z, hla, Nat.add_sub_cancel]
  · exact SU_m hw hf h hc c4 z hv
theorem con_v {a r l : Nat → Nat} {V : Vt} {N f w c v i : Nat} (hw : N - (f + 1) = w) (hf : f + 1 ≤ N) (h : ls a w = true) (hc : a (12 + 4 * w + 2) = c) (c4 : c ≤ 4) (hv : v ≤ l c) (hlow : l c ≤ v + 9 * ctL a c N f) (hs : stP a N i N ≤ w) : con a V N f (updN r w v) (updN l c (l c - v)) i = con a V N (f + 1) r l i := by
  by_cases z : ctL a c N f = 0
  · obtain rfl : v = l c := by omega
    rw [Nat.sub_self]
    exact con_e (SU_l hw hf h hc c4 z) (cg2 (SU_l hw hf h hc c4 z) (SU_l hw hf h hc c4 z))
  · have := st_pf (a := a) (N := N) (i := i) (w := w) (by omega) h hs
    rw [hc] at this
    exact con_m hw hf h hc c4 z hv this
theorem fvs_skip {σ : Type} {h : Nat → σ → σ} {s : σ} : ∀ j k v, (∀ x, v ≤ x → x < v + k → x < v + j → h x s = s) → fvs h k v s = fvs h (k - j) (v + j) s
  | 0, _, _, _ => rfl
  | j + 1, 0, _, _ => by
    rw [Nat.zero_sub]
    rfl
  | j + 1, k + 1, v, e => by
    rw [fvs_s, e v (Nat.le_refl _) (by omega) (by omega), fvs_skip j k (v + 1) (fun x x1 x2 x3 => e x (by omega) (by omega) (by omega)), Nat.add_sub_add_right, show v + 1 + j = v + (j + 1) by omega]
theorem go_l {σ : Type} {a : Nat → Nat} {N : Nat} {lf : (Nat → Nat) → σ → σ} {f w c : Nat} {r l : Nat → Nat} {s : σ} (hw : N - (f + 1) = w) (h : ls a w = true) (hc : a (12 + 4 * w + 2) = c) : go a N lf (f + 1) r l s = fvs (fun v s' => go a N lf f (updN r w v) (updN l c (l c - v)) s') (m9 (l c) + 1 - (l c - 9 * ctL a c N f)) (l c - 9 * ctL a c N f) s := by
  subst hw
  subst hc
  rw [go_s, if_pos h]
  by_cases z : ctL a (a (12 + 4 * (N - (f + 1)) + 2)) N f = 0
  · rw [if_pos z, z, Nat.mul_zero, Nat.sub_zero]
    unfold m9
    by_cases y : l (a (12 + 4 * (N - (f + 1)) + 2)) ≤ 9
    · rw [if_pos y, show (if l (a (12 + 4 * (N - (f + 1)) + 2)) < 9 then l (a (12 + 4 * (N - (f + 1)) + 2)) else 9) + 1 - l (a (12 + 4 * (N - (f + 1)) + 2)) = 0 + 1 by split <;> omega, fvs_s, Nat.sub_self]
      rfl
    · rw [if_neg y, show (if l (a (12 + 4 * (N - (f + 1)) + 2)) < 9 then l (a (12 + 4 * (N - (f + 1)) + 2)) else 9) + 1 - l (a (12 + 4 * (N - (f + 1)) + 2)) = 0 by split <;> omega]
      rfl
  · rw [if_neg z, fvs_skip (l (a (12 + 4 * (N - (f + 1)) + 2)) - 9 * ctL a (a (12 + 4 * (N - (f + 1)) + 2)) N f) _ 0 (fun x x1 x2 x3 => go_in (c := a (12 + 4 * (N - (f + 1)) + 2)) _ _ _ _ (by omega) ?_), Nat.zero_add]
    rw [updN_s]
    omega
theorem lc_le {a r l : Nat → Nat} {N f c : Nat} (h : ctL a c N f ≠ 0) (c0 : 0 < c) (c4 : c ≤ 4) : l c ≤ SU a g1 N f r l := by
  have e : qC a g1 N f l c = l c := by
    unfold qC
    rw [if_neg h]
    exact Nat.mul_one _
  unfold SU zC
  rcases (show c = 1 ∨ c = 2 ∨ c = 3 ∨ c = 4 by omega) with rfl | rfl | rfl | rfl <;> omega
def Gp (M0 M : Mem) : Prop := ∀ k, k ≠ 2 → k ≠ 7 → k ≠ 8 → k ≠ 9 → k ≠ 10 → k ≠ 11 → k ≠ 14 → (∀ j, k ≠ 71 + 3 * j) → M k = M0 k
def BS (a : Nat → Nat) (s : CS) (M : Mem) : Prop := (s.1 ≤ 6 ∧ s.2.1 ≤ 1000000) ∧ M 7 8 = nI s.1 ∧ M 7 9 = nI s.2.1 ∧ ∀ k, k < a 0 → M 14 k = nI (s.2.2 k)
def CP (K t : Nat) (F : Ft) (a : Nat → Nat) (M0 : Mem) (f : Nat) (r l : Nat → Nat) (s : CS) (M : Mem) : Prop := Gp M0 M ∧ CX K t F M ∧ (∀ x, x < 11 → M 9 x = nI (RO a (a 0) f r l x)) ∧ (∀ c, c < 4 → M 10 c = nI (l (c + 1)) ∧ M 11 c = nI (ctL a (c + 1) (a 0) f)) ∧ (∀ k, k < a 0 - f → M 8 k = nI (r k)) ∧ BS a s M
theorem BS.keep {a : Nat → Nat} {s : CS} {M M' : Mem} (h : BS a s M) (e7 : M' 7 = M 7) (e14 : M' 14 = M 14) : BS a s M' := by
  unfold BS
  rw [e7, e14]
  exact h
theorem CP.cs {K t f : Nat} {F : Ft} {a r l : Nat → Nat} {s : CS} {M0 M M' : Mem} (h : CP K t F a M0 f r l s M) (hs : Cs M M') (c : CX K t F M') : CP K t F a M0 f r l s M' := by
  have e : ∀ k, 7 ≤ k → k < 15 → M' k = M k := fun k k1 k2 => hs k (by omega) (fun j => by omega)
  refine ⟨fun k h2 h7 h8 h9 h10 h11 h14 hj => (hs k h2 hj).trans (h.1 k h2 h7 h8 h9 h10 h11 h14 hj), c, fun x hx => ?_, fun c hc => ?_, fun k hk => ?_, h.2.2.2.2.2.keep (e 7 (by omega) (by omega)) (e 14 (by omega) (by omega))⟩
  · rw [e 9 (by omega) (by omega)]; exact h.2.2.1 x hx
  · rw [e 10 (by omega) (by omega), e 11 (by omega) (by omega)]; exact h.2.2.2.1 c hc
  · rw [e 8 (by omega) (by omega)]; exact h.2.2.2.2.1 k hk
theorem Gp.hb {K t : Nat} {F : Ft} {a : Nat → Nat} {V : Vt} {M0 M : Mem} (g : Gp M0 M) (hB : HB K t F 30 M0 a V) : HB K t F 30 M a V := hB.keep (fun k k1 k2 => g k (by omega) (by omega) (by omega) (by omega) (by omega) (by omega) (by omega) (fun j => by omega)) (fun k k1 k2 => g k (by omega) (by omega) (by omega) (by omega) (by omega) (by omega) (by omega) k2)
def NI (a : Nat → Nat) (f : Nat) (r l : Nat → Nat) : Prop := (∀ k, k < a 0 - f → r k ≤ 9) ∧ SU a g1 (a 0) f r l ≤ 72
section PL
variable {K t : Nat} {F : Ft} {V : Vt} {M0 : Mem} {a : Nat → Nat}
def H13 (a : Nat → Nat) (M0 : Mem) : Prop := ∀ w, w ≤ a 0 → M0 13 w = nI (setP (fun i => decide (stP a (a 0) i (a 0) = w)) (a 2))
def H12 (a : Nat → Nat) (M0 : Mem) : Prop := ∀ c, c < 4 → 0 < la a (c + 1) (a 0) → M0 12 c = nI (la a (c + 1) (a 0) - 1)
theorem pl_pre (hB : HB K t F 30 M0 a V) (d : DOK a) (h13 : H13 a M0) {u : Mem → Int32 → Int32 → Int32 → Int32 → (Mem → Prop) → Prop} {f : Nat} {r l : Nat → Nat} {s : CS} {M : Mem} {Q : Mem → Prop} (hf : f ≤ a 0) (cp : CP K t F a M0 f r l s M) (ni : NI a f r l)
    (hQ : ∀ M', CP K t F a M0 f r l s M' → go a (a 0) (lfC a V) f r l s = s → Q M')
    (h62 : ∀ M', CP K t F a M0 f r l s M' → ¬ (hp a V (a 0) f r l < s.1 ∨ (hp a V (a 0) f r l = s.1 ∧ s.2.1 ≤ pul a r (a 0 - f))) → B_X5_place_62 u K Q (nI (a 0 - f)) (nI (pul a r (a 0 - f))) (nI (cnP (fun i => decide (stP a (a 0) i (a 0) ≤ a 0 - f) && con a V (a 0) f r l i) (a 2))) (nI (cnP (fun i => decide (a 0 - f + 1 ≤ stP a (a 0) i (a 0))) (a 2))) M') :
    Pb_X5_place u K M (nI (a 0 - f)) (nI (pul a r (a 0 - f))) (nI (cnP (fun i => decide (stP a (a 0) i (a 0) < a 0 - f) && con a V (a 0) f r l i) (a 2))) (nI (cnP (fun i => decide (a 0 - f ≤ stP a (a 0) i (a 0))) (a 2))) Q := by
  have d0 := d.1.1
  have d2 := d.1.2.2
  have hb := cp.1.hb hB
  have hpr := prune (V := V) d f r l s hf
  have hpl := pul_le (a := a) (r := r) (a 0 - f) ni.1
  have e13 : M 13 = M0 13 := cp.1 13 (by omega) (by omega) (by omega) (by omega) (by omega) (by omega) (by omega) (fun j => by omega)
  unfold Pb_X5_place
  rw [cl_nI (by omega), e13, h13 _ (by omega)]
  refine ⟨vp_in_nI (by omega) (by omega), c_contentOf hb.1 hb.2.1 cp.2.1 d cp.2.2.1 ni.2 (fun M1 s1 c1 => ?_)⟩
  have cp1 := cp.cs s1 c1
  have e13 : M1 13 = M0 13 := cp1.1 13 (by omega) (by omega) (by omega) (by omega) (by omega) (by omega) (by omega) (fun j => by omega)
  have hs := setP_lt (fun i => decide (stP a (a 0) i (a 0) = a 0 - f)) (a 2)
  have hs2 := Nat.pow_le_pow_right (n := 2) (by omega) d2
  rw [e13, h13 _ (by omega), nI_add]
  rintro _ rfl
  refine ⟨vp_in_nI (by omega) (by omega), c_bits (by omega) ?_⟩
  rw [pop_setP _ _ (by omega)]
  have x1 : cnP (fun i => decide (stP a (a 0) i (a 0) < a 0 - f) && con a V (a 0) f r l i) (a 2) + cnP (fun i => decide (stP a (a 0) i (a 0) = a 0 - f) && con a V (a 0) f r l i) (a 2) = cnP (fun i => decide (stP a (a 0) i (a 0) ≤ a 0 - f) && con a V (a 0) f r l i) (a 2) := cnP_add _ (fun i hi => by
    cases con a V (a 0) f r l i with
    | false => simp only [Bool.and_false, Bool.false_eq_true, if_false]
    | true =>
      simp only [Bool.and_true, decide_eq_true_eq]
      by_cases q : stP a (a 0) i (a 0) = a 0 - f
      · rw [if_neg (by omega), if_pos q, if_pos (by omega)]
      · rw [if_neg q]
        by_cases q2 : stP a (a 0) i (a 0) < a 0 - f
        · rw [if_pos q2, if_pos (by omega)]
        · rw [if_neg q2, if_neg (by omega)])
  have x2 : cnP (fun i => decide (stP a (a 0) i (a 0) = a 0 - f)) (a 2) + cnP (fun i => decide (a 0 - f + 1 ≤ stP a (a 0) i (a 0))) (a 2) = cnP (fun i => decide (a 0 - f ≤ stP a (a 0) i (a 0))) (a 2) := cnP_add _ (fun i hi => by
    simp only [decide_eq_true_eq]
    by_cases q : stP a (a 0) i (a 0) = a 0 - f
    · rw [if_pos q, if_neg (by omega), if_pos (by omega)]
    · rw [if_neg q]
      by_cases q2 : a 0 - f + 1 ≤ stP a (a 0) i (a 0)
      · rw [if_pos q2, if_pos (by omega)]
      · rw [if_neg q2, if_neg (by omega)])
  have x3 : cnP (fun i => decide (stP a (a 0) i (a 0) ≤ a 0 - f) && con a V (a 0) f r l i) (a 2) + cnP (fun i => decide (a 0 - f + 1 ≤ stP a (a 0) i (a 0))) (a 2) = hp a V (a 0) f r l := cnP_add _ (fun i hi => by
    by_cases q : stP a (a 0) i (a 0) ≤ a 0 - f
    · rw [decide_eq_true q, decide_eq_false (show ¬ a 0 - f + 1 ≤ stP a (a 0) i (a 0) by omega)]
      cases con a V (a 0) f r l i <;> rfl
    · rw [decide_eq_false q, decide_eq_true (show a 0 - f + 1 ≤ stP a (a 0) i (a 0) by omega)]
      rfl)
  have x4 : hp a V (a 0) f r l ≤ a 2 := cnP_b _ _
  rw [x1, show nI (cnP (fun i => decide (a 0 - f ≤ stP a (a 0) i (a 0))) (a 2)) - nI (cnP (fun i => decide (stP a (a 0) i (a 0) = a 0 - f)) (a 2)) = nI (cnP (fun i => decide (a 0 - f + 1 ≤ stP a (a 0) i (a 0))) (a 2)) by
    rw [sb_nI (by omega)]
    exact congrArg nI (by omega)]
  rintro _ rfl
  rw [nI_add, x3]
  rintro _ rfl
  obtain ⟨⟨b1, b2⟩, b3, b4, b5⟩ := cp1.2.2.2.2.2
  rw [b3, b4]
  refine ⟨fun z => hQ M1 cp1 (hpr (Or.inl ((lt_nI (by omega) (by omega)).mp z))), fun z => ⟨fun z2 => h62 M1 cp1 ?_, fun z2 => ⟨fun z3 => h62 M1 cp1 ?_, fun z3 => hQ M1 cp1 (hpr (Or.inr ⟨?_, ?_⟩))⟩⟩⟩
  · rintro (y | y)
    · exact z (nI_lt y (by omega))
    · exact z2 (by rw [y.1])
  · rintro (y | y)
    · exact z (nI_lt y (by omega))
    · have := (lt_nI (by omega) (by omega)).mp z3
      omega
  · exact (eq_nI (by omega) (by omega)).mp z2
  · by_cases y : s.2.1 ≤ pul a r (a 0 - f)
    · exact y
    · exact absurd (nI_lt (by omega) (by omega)) z3
end PL
