/-! ===== what is open in the rooms while a search goes on ===== -/
theorem ctL_n {a : Nat → Nat} {c N f : Nat} (h : ¬ (ls a (N - (f + 1)) = true ∧ a (12 + 4 * (N - (f + 1)) + 2) = c)) : ctL a c N (f + 1) = ctL a c N f := by
  rw [ctL_s, if_neg h, Nat.zero_add]
theorem ctL_y {a : Nat → Nat} {c N f : Nat} (h : ls a (N - (f + 1)) = true ∧ a (12 + 4 * (N - (f + 1)) + 2) = c) : ctL a c N (f + 1) = 1 + ctL a c N f := by
  rw [ctL_s, if_pos h]
def zA (a g r : Nat → Nat) : Nat → Nat
  | 0 => 0
  | w + 1 => zA a g r w + r w * g (a (12 + 4 * w))
def zB (a g : Nat → Nat) (N : Nat) : Nat → Nat
  | 0 => 0
  | f + 1 => (if ls a (N - (f + 1)) = true then 0 else a (12 + 4 * (N - (f + 1)) + 1) * g (a (12 + 4 * (N - (f + 1))))) + zB a g N f
theorem zB_s (a g : Nat → Nat) (N f : Nat) : zB a g N (f + 1) = (if ls a (N - (f + 1)) = true then 0 else a (12 + 4 * (N - (f + 1)) + 1) * g (a (12 + 4 * (N - (f + 1))))) + zB a g N f := rfl
def qC (a g : Nat → Nat) (N f : Nat) (l : Nat → Nat) (c : Nat) : Nat := if ctL a c N f = 0 then 0 else l c * g (a (12 + 4 * (la a c N - 1)))
def zC (a g : Nat → Nat) (N f : Nat) (l : Nat → Nat) : Nat := qC a g N f l 1 + qC a g N f l 2 + qC a g N f l 3 + qC a g N f l 4
def SU (a g : Nat → Nat) (N f : Nat) (r l : Nat → Nat) : Nat := zA a g r (N - f) + zB a g N f + zC a g N f l
theorem zA_e {a g r r' : Nat → Nat} : ∀ w, (∀ k, k < w → r' k = r k) → zA a g r' w = zA a g r w
  | 0, _ => rfl
  | w + 1, h => by
    show zA a g r' w + r' w * _ = zA a g r w + r w * _
    rw [zA_e w (fun k hk => h k (by omega)), h w (by omega)]
theorem zA_u {a g r : Nat → Nat} {w v : Nat} : zA a g (updN r w v) (w + 1) = zA a g r w + v * g (a (12 + 4 * w)) := by
  show zA a g (updN r w v) w + updN r w v w * _ = _
  rw [zA_e w (fun k hk => updN_n (by omega)), updN_s]
theorem q4 {q q' : Nat → Nat} {c : Nat} (h0 : 0 < c) (h4 : c ≤ 4) (e : ∀ x, x ≠ c → q' x = q x) : q' 1 + q' 2 + q' 3 + q' 4 + q c = q 1 + q 2 + q 3 + q 4 + q' c := by
  rcases (show c = 1 ∨ c = 2 ∨ c = 3 ∨ c = 4 by omega) with rfl | rfl | rfl | rfl
  · rw [e 2 (by omega), e 3 (by omega), e 4 (by omega)]; omega
  · rw [e 1 (by omega), e 3 (by omega), e 4 (by omega)]; omega
  · rw [e 1 (by omega), e 2 (by omega), e 4 (by omega)]; omega
  · rw [e 1 (by omega), e 2 (by omega), e 3 (by omega)]; omega
theorem qC_o {a g l l' : Nat → Nat} {N f c : Nat} (hl : ls a (N - (f + 1)) = true) (hc : a (12 + 4 * (N - (f + 1)) + 2) = c) (e : ∀ x, x ≠ c → l' x = l x) : ∀ x, x ≠ c → qC a g N f l' x = qC a g N (f + 1) l x := fun x hx => by
  unfold qC
  rw [ctL_n (fun z => hx (by rw [← z.2, hc])), e x hx]
theorem SU_n {a g r l : Nat → Nat} {N f w : Nat} (hw : N - (f + 1) = w) (hf : f + 1 ≤ N) (h : ls a w = false) : SU a g N f (updN r w (a (12 + 4 * w + 1))) l = SU a g N (f + 1) r l := by
  subst hw
  unfold SU
  have eq : ∀ c, qC a g N (f + 1) l c = qC a g N f l c := fun c => by
    unfold qC
    rw [ctL_n (fun z => by rw [h] at z; exact absurd z.1 (by decide))]
  rw [show N - f = N - (f + 1) + 1 by omega, zA_u, zB_s, if_neg (by rw [h]; decide)]
  unfold zC
  rw [eq, eq, eq, eq]
  omega
theorem SU_l {a g r l : Nat → Nat} {N f w c : Nat} (hw : N - (f + 1) = w) (hf : f + 1 ≤ N) (h : ls a w = true) (hc : a (12 + 4 * w + 2) = c) (c4 : c ≤ 4) (z : ctL a c N f = 0) : SU a g N f (updN r w (l c)) (updN l c 0) = SU a g N (f + 1) r l := by
  subst hw
  have c0 := (ls_t.mp h).1
  have hla := (la_last hf ⟨h, hc⟩).mpr z
  unfold SU
  rw [show N - f = N - (f + 1) + 1 by omega, zA_u, zB_s, if_pos h]
  have e := q4 (q := qC a g N (f + 1) l) (q' := qC a g N f (updN l c 0)) (c := c) (by omega) c4 (qC_o h hc (fun x hx => updN_n hx))
  have e1 : qC a g N f (updN l c 0) c = 0 := if_pos z
  have e2 : qC a g N (f + 1) l c = l c * g (a (12 + 4 * (N - (f + 1)))) := by
    unfold qC
    rw [ctL_y ⟨h, hc⟩, if_neg (by omega), hla, Nat.add_sub_cancel]
  rw [e1, e2] at e
  unfold zC
  omega
theorem SU_m {a g r l : Nat → Nat} {N f w c v : Nat} (hw : N - (f + 1) = w) (hf : f + 1 ≤ N) (h : ls a w = true) (hc : a (12 + 4 * w + 2) = c) (c4 : c ≤ 4) (z : ctL a c N f ≠ 0) (hv : v ≤ l c) : SU a g N f (updN r w v) (updN l c (l c - v)) + v * g (a (12 + 4 * (la a c N - 1))) = SU a g N (f + 1) r l + v * g (a (12 + 4 * w)) := by
  subst hw
  have c0 := (ls_t.mp h).1
  unfold SU
  rw [show N - f = N - (f + 1) + 1 by omega, zA_u, zB_s, if_pos h]
  have e := q4 (q := qC a g N (f + 1) l) (q' := qC a g N f (updN l c (l c - v))) (c := c) (by omega) c4 (qC_o h hc (fun x hx => updN_n hx))
  have e1 : qC a g N f (updN l c (l c - v)) c = (l c - v) * g (a (12 + 4 * (la a c N - 1))) := by
    unfold qC
    rw [if_neg z, updN_s]
  have e2 : qC a g N (f + 1) l c = l c * g (a (12 + 4 * (la a c N - 1))) := by
    unfold qC
    rw [ctL_y ⟨h, hc⟩, if_neg (by omega)]
  have e3 : (l c - v) * g (a (12 + 4 * (la a c N - 1))) + v * g (a (12 + 4 * (la a c N - 1))) = l c * g (a (12 + 4 * (la a c N - 1))) := by
    rw [← Nat.add_mul]
    congr 1
    omega
  rw [e1, e2] at e
  unfold zC
  omega
theorem S3 {a g g1 g2 g3 r l : Nat → Nat} {N f : Nat} (h : ∀ m, g1 m + (g2 m + g3 m) ≤ g m) : SU a g1 N f r l + (SU a g2 N f r l + SU a g3 N f r l) ≤ SU a g N f r l := by
  have m : ∀ x y, x * g1 y + (x * g2 y + x * g3 y) ≤ x * g y := fun x y => by
    rw [← Nat.mul_add, ← Nat.mul_add]
    exact Nat.mul_le_mul_left _ (h y)
  have hA : ∀ w, zA a g1 r w + (zA a g2 r w + zA a g3 r w) ≤ zA a g r w := by
    intro w
    induction w with
    | zero => exact Nat.le_refl _
    | succ w ih =>
      have := m (r w) (a (12 + 4 * w))
      show zA a g1 r w + r w * g1 (a (12 + 4 * w)) + (zA a g2 r w + r w * g2 (a (12 + 4 * w)) + (zA a g3 r w + r w * g3 (a (12 + 4 * w)))) ≤ zA a g r w + r w * g (a (12 + 4 * w))
      omega
  have hB : ∀ f, zB a g1 N f + (zB a g2 N f + zB a g3 N f) ≤ zB a g N f := by
    intro f
    induction f with
    | zero => exact Nat.le_refl _
    | succ f ih =>
      have := m (a (12 + 4 * (N - (f + 1)) + 1)) (a (12 + 4 * (N - (f + 1))))
      rw [zB_s, zB_s, zB_s, zB_s]
      by_cases q : ls a (N - (f + 1)) = true
      · rw [if_pos q, if_pos q, if_pos q, if_pos q]; omega
      · rw [if_neg q, if_neg q, if_neg q, if_neg q]; omega
  have hq : ∀ c, qC a g1 N f l c + (qC a g2 N f l c + qC a g3 N f l c) ≤ qC a g N f l c := fun c => by
    unfold qC
    by_cases q : ctL a c N f = 0
    · rw [if_pos q, if_pos q, if_pos q, if_pos q]; omega
    · rw [if_neg q, if_neg q, if_neg q, if_neg q]; exact m _ _
  have a1 := hA (N - f)
  have a2 := hB f
  have b1 := hq 1
  have b2 := hq 2
  have b3 := hq 3
  have b4 := hq 4
  unfold SU zC
  omega
def gx (x m : Nat) : Nat := if m + 1 = x then 1 else 0
def g1 (_ : Nat) : Nat := 1
theorem gx3 {x y z m : Nat} (h1 : x ≠ y) (h2 : x ≠ z) (h3 : y ≠ z) : gx x m + (gx y m + gx z m) ≤ g1 m := by
  unfold gx g1
  by_cases q1 : m + 1 = x
  · rw [if_pos q1, if_neg (by omega), if_neg (by omega)]; omega
  · rw [if_neg q1]
    by_cases q2 : m + 1 = y
    · rw [if_pos q2, if_neg (by omega)]; omega
    · rw [if_neg q2]; split <;> omega
/-- where a window is for a lodger -/
def pfv (m p : Nat) : Nat := if m = p then 0 else if m + 1 = p ∨ m = p + 1 then 1 else 2
theorem pf_g {m m' p : Nat} (h : pfv m p = pfv m' p) : gx (p + 1) m = gx (p + 1) m' ∧ gx p m + gx (p + 2) m = gx p m' + gx (p + 2) m' := by
  have key : ∀ m, (m = p ∧ pfv m p = 0 ∧ gx (p + 1) m = 1 ∧ gx p m + gx (p + 2) m = 0) ∨ (m ≠ p ∧ pfv m p = 1 ∧ gx (p + 1) m = 0 ∧ gx p m + gx (p + 2) m = 1) ∨ (m ≠ p ∧ pfv m p = 2 ∧ gx (p + 1) m = 0 ∧ gx p m + gx (p + 2) m = 0) := by
    intro m
    unfold pfv gx
    by_cases q : m = p
    · rw [if_pos q, if_pos (show m + 1 = p + 1 by omega), if_neg (show ¬ m + 1 = p by omega), if_neg (show ¬ m + 1 = p + 2 by omega)]
      exact Or.inl ⟨q, rfl, rfl, rfl⟩
    · rw [if_neg q, if_neg (show ¬ m + 1 = p + 1 by omega)]
      by_cases q1 : m + 1 = p
      · rw [if_pos (Or.inl q1), if_pos q1, if_neg (show ¬ m + 1 = p + 2 by omega)]
        exact Or.inr (Or.inl ⟨q, rfl, rfl, rfl⟩)
      · by_cases q2 : m = p + 1
        · rw [if_pos (Or.inr q2), if_neg q1, if_pos (show m + 1 = p + 2 by omega)]
          exact Or.inr (Or.inl ⟨q, rfl, rfl, rfl⟩)
        · rw [if_neg (fun z => by omega), if_neg q1, if_neg (show ¬ m + 1 = p + 2 by omega)]
          exact Or.inr (Or.inr ⟨q, rfl, rfl, rfl⟩)
  have k1 := key m
  have k2 := key m'
  omega
def pf (a : Nat → Nat) (i w : Nat) : Nat := pfv (a (12 + 4 * w)) (a (44 + 3 * i + 2))
def RO (a : Nat → Nat) (N f : Nat) (r l : Nat → Nat) (x : Nat) : Nat := SU a (gx x) N f r l
def con (a : Nat → Nat) (V : Vt) (N f : Nat) (r l : Nat → Nat) (i : Nat) : Bool := ctB (a (44 + 3 * i)) (a (44 + 3 * i + 1)) (a 3) (airV a V (RO a N f r l (a (44 + 3 * i + 2) + 1)) (RO a N f r l (a (44 + 3 * i + 2)) + RO a N f r l (a (44 + 3 * i + 2) + 2)))
theorem con_e {a r l r' l' : Nat → Nat} {V : Vt} {N f f' i : Nat} (e1 : RO a N f' r' l' (a (44 + 3 * i + 2) + 1) = RO a N f r l (a (44 + 3 * i + 2) + 1)) (e2 : RO a N f' r' l' (a (44 + 3 * i + 2)) + RO a N f' r' l' (a (44 + 3 * i + 2) + 2) = RO a N f r l (a (44 + 3 * i + 2)) + RO a N f r l (a (44 + 3 * i + 2) + 2)) : con a V N f' r' l' i = con a V N f r l i := by
  unfold con
  rw [e1, e2]
theorem con_m {a r l : Nat → Nat} {V : Vt} {N f w c v i : Nat} (hw : N - (f + 1) = w) (hf : f + 1 ≤ N) (h : ls a w = true) (hc : a (12 + 4 * w + 2) = c) (c4 : c ≤ 4) (z : ctL a c N f ≠ 0) (hv : v ≤ l c) (hp : pf a i w = pf a i (la a c N - 1)) : con a V N f (updN r w v) (updN l c (l c - v)) i = con a V N (f + 1) r l i := by
  have g := pf_g hp
  have e := fun x => SU_m (g := gx x) (r := r) hw hf h hc c4 z hv
  refine con_e ?_ ?_
  · have e1 := e (a (44 + 3 * i + 2) + 1)
    rw [g.1] at e1
    exact Nat.add_right_cancel e1
  · have e1 := e (a (44 + 3 * i + 2))
    have e2 := e (a (44 + 3 * i + 2) + 2)
    have e3 : v * gx (a (44 + 3 * i + 2)) (a (12 + 4 * w)) + v * gx (a (44 + 3 * i + 2) + 2) (a (12 + 4 * w)) = v * gx (a (44 + 3 * i + 2)) (a (12 + 4 * (la a c N - 1))) + v * gx (a (44 + 3 * i + 2) + 2) (a (12 + 4 * (la a c N - 1))) := by
      rw [← Nat.mul_add, ← Nat.mul_add, g.2]
    unfold RO
    omega
def stP (a : Nat → Nat) (N i : Nat) : Nat → Nat
  | 0 => 0
  | w + 1 => if ls a w = true ∧ pf a i w ≠ pf a i (la a (a (12 + 4 * w + 2)) N - 1) then w + 1 else stP a N i w
theorem st_le (a : Nat → Nat) (N i : Nat) : ∀ w, stP a N i w ≤ w
  | 0 => Nat.le_refl _
  | w + 1 => by
    have := st_le a N i w
    show (if ls a w = true ∧ pf a i w ≠ pf a i (la a (a (12 + 4 * w + 2)) N - 1) then w + 1 else stP a N i w) ≤ w + 1
    split <;> omega
theorem st_ge {a : Nat → Nat} {N i k : Nat} (h : ls a k = true ∧ pf a i k ≠ pf a i (la a (a (12 + 4 * k + 2)) N - 1)) : ∀ w, k < w → k < stP a N i w
  | 0, hk => absurd hk (by omega)
  | w + 1, hk => by
    show k < (if ls a w = true ∧ pf a i w ≠ pf a i (la a (a (12 + 4 * w + 2)) N - 1) then w + 1 else stP a N i w)
    by_cases e : k = w
    · rw [← e, if_pos h]; omega
    · have := st_ge h w (by omega)
      split <;> omega
theorem st_pf {a : Nat → Nat} {N i w : Nat} (hw : w < N) (h : ls a w = true) (hs : stP a N i N ≤ w) : pf a i w = pf a i (la a (a (12 + 4 * w + 2)) N - 1) := by
  by_cases q : pf a i w = pf a i (la a (a (12 + 4 * w + 2)) N - 1)
  · exact q
  · have := st_ge ⟨h, q⟩ N hw
    omega
theorem cnP_le {p q : Nat → Bool} : ∀ n, (∀ i, i < n → p i = true → q i = true) → cnP p n ≤ cnP q n
  | 0, _ => Nat.le_refl _
  | n + 1, h => by
    have ih := cnP_le (p := p) (q := q) n (fun i hi => h i (by omega))
    show cnP p n + (if p n = true then 1 else 0) ≤ cnP q n + (if q n = true then 1 else 0)
    by_cases e : p n = true
    · rw [if_pos e, if_pos (h n (by omega) e)]; omega
    · rw [if_neg e]; omega
theorem cnP_e {p q : Nat → Bool} {n : Nat} (h : ∀ i, i < n → p i = q i) : cnP p n = cnP q n := Nat.le_antisymm (cnP_le n (fun i hi e => by rw [← h i hi]; exact e)) (cnP_le n (fun i hi e => by rw [h i hi]; exact e))
/-- how many can be content at most -/
def hp (a : Nat → Nat) (V : Vt) (N f : Nat) (r l : Nat → Nat) : Nat := cnP (fun i => !decide (stP a N i N ≤ N - f) || con a V N f r l i) (a 2)
theorem cg2 {a b c d : Nat} (h : a = b) (h' : c = d) : a + c = b + d := by rw [h, h']
theorem hp_c {a r l r' l' : Nat → Nat} {V : Vt} {N f : Nat} (hf : f + 1 ≤ N) (h : ∀ i, i < a 2 → stP a N i N ≤ N - (f + 1) → con a V N f r' l' i = con a V N (f + 1) r l i) : hp a V N f r' l' ≤ hp a V N (f + 1) r l := by
  refine cnP_le _ (fun i hi => ?_)
  by_cases q : stP a N i N ≤ N - (f + 1)
  · rw [decide_eq_true (show stP a N i N ≤ N - f by omega), decide_eq_true q, h i hi q]
    exact fun e => e
  · rw [decide_eq_false q]
    exact fun _ => rfl
abbrev CS : Type := Nat × Nat × (Nat → Nat)
def lfC (a : Nat → Nat) (V : Vt) (r : Nat → Nat) (s : CS) : CS := if s.1 < cnt a V r ∨ (s.1 = cnt a V r ∧ pul a r (a 0) < s.2.1) then (cnt a V r, pul a r (a 0), r) else s
theorem zA_oin {a r : Nat → Nat} {N x : Nat} : ∀ w, w ≤ N → zA a (gx x) r w = oinP (opA a r N) x w
  | 0, _ => rfl
  | w + 1, h => by
    have eo : opA a r N (12 + 4 * w + 1) = r w := opA_1 (by omega)
    have em : opA a r N (12 + 4 * w) = a (12 + 4 * w) := opA_m (by omega)
    show zA a (gx x) r w + r w * gx x (a (12 + 4 * w)) = oinP (opA a r N) x w + (if opA a r N (12 + 4 * w) + 1 = x then opA a r N (12 + 4 * w + 1) else 0)
    rw [zA_oin (N := N) w (by omega), em, eo]
    unfold gx
    split <;> omega
theorem cnt_e {a r l : Nat → Nat} {V : Vt} (d : DOK a) : cnt a V r = hp a V (a 0) 0 r l := by
  have d0 := d.1.1
  have d2 := d.1.2.2
  have eR : ∀ x, RO a (a 0) 0 r l x = oin (opA a r (a 0)) x := fun x => by
    have e0 : opA a r (a 0) 0 = a 0 := opA_n (by omega)
    unfold RO SU oin
    rw [e0, Nat.sub_zero, zA_oin _ (Nat.le_refl _)]
    rfl
  unfold cnt conS
  rw [pop_setP _ _ (by rw [opA_n (by omega)]; omega), opA_n (by omega)]
  refine cnP_e (fun i hi => ?_)
  rw [decide_eq_true (show stP a (a 0) i (a 0) ≤ a 0 - 0 from st_le _ _ _ _)]
  show conL (opA a r (a 0)) V i = con a V (a 0) 0 r l i
  unfold conL con airR
  rw [opA_n (k := 44 + 3 * i) (by omega), opA_n (k := 44 + 3 * i + 1) (by omega), opA_n (k := 44 + 3 * i + 2) (by omega), opA_n (k := 3) (by omega), eR, eR, eR]
  unfold airV
  rw [opA_n (k := 90) (by omega), opA_n (k := 3) (by omega)]
/-- what can't be better is left out -/
theorem prune {a : Nat → Nat} {V : Vt} (d : DOK a) : ∀ f r l s, f ≤ a 0 → (hp a V (a 0) f r l < s.1 ∨ (hp a V (a 0) f r l = s.1 ∧ s.2.1 ≤ pul a r (a 0 - f))) → go a (a 0) (lfC a V) f r l s = s := by
  have d1 := d.1.2.1
  intro f
  induction f with
  | zero =>
    intro r l s _ h
    show lfC a V r s = s
    unfold lfC
    rw [cnt_e (l := l) d]
    rw [Nat.sub_zero] at h
    exact if_neg (by omega)
  | succ f ih =>
    intro r l s hf h
    have pw : ∀ w v, w + 1 = a 0 - f → pul a r w ≤ pul a (updN r w v) (a 0 - f) := fun w v hw => by
      rw [← hw]
      show _ ≤ pul a (updN r w v) w + _
      have e : ∀ m, m ≤ w → pul a (updN r w v) m = pul a r m := by
        intro m
        induction m with
        | zero => intro _; rfl
        | succ m ihm =>
          intro hm
          show pul a (updN r w v) m + (updN r w v m - _) = pul a r m + (r m - _)
          rw [ihm (by omega), updN_n (by omega)]
      rw [e w (Nat.le_refl _)]
      omega
    have pw := pw (a 0 - (f + 1))
    have b := (d.2.2.1 (a 0 - (f + 1)) (by omega)).2.2.1
    have hs := fun i (h : ls a (a 0 - (f + 1)) = true) => st_pf (a := a) (N := a 0) (i := i) (w := a 0 - (f + 1)) (by omega) h
    rw [go_s]
    have key : ∀ v l', hp a V (a 0) f (updN r (a 0 - (f + 1)) v) l' ≤ hp a V (a 0) (f + 1) r l → go a (a 0) (lfC a V) f (updN r (a 0 - (f + 1)) v) l' s = s := fun v l' hh => by
      refine ih _ _ _ (by omega) ?_
      have := pw v (by omega)
      omega
    by_cases hw : ls a (a 0 - (f + 1)) = true
    · rw [if_pos hw]
      by_cases z : ctL a (a (12 + 4 * (a 0 - (f + 1)) + 2)) (a 0) f = 0
      · rw [if_pos z]
        split
        · refine key _ _ (hp_c hf (fun i hi _ => con_e ?_ ?_))
          · exact SU_l rfl hf hw rfl (by omega) z
          · exact cg2 (SU_l rfl hf hw rfl (by omega) z) (SU_l rfl hf hw rfl (by omega) z)
        · rfl
      · rw [if_neg z]
        refine fvs_id _ _ (fun x x1 x2 => key _ _ (hp_c hf (fun i hi q => con_m rfl hf hw rfl (by omega) z ?_ (hs i hw q))))
        have := m9_le (l (a (12 + 4 * (a 0 - (f + 1)) + 2)))
        omega
    · have hwf : ls a (a 0 - (f + 1)) = false := by
        cases q : ls a (a 0 - (f + 1)) with
        | false => rfl
        | true => exact absurd q hw
      rw [if_neg hw]
      refine key _ _ (hp_c hf (fun i hi _ => con_e ?_ ?_))
      · exact SU_n rfl hf hwf
      · exact cg2 (SU_n rfl hf hwf) (SU_n rfl hf hwf)
