/-! ===== standings, gone through in order ===== -/
/-- whether a window can move on its cord -/
def ls (a : Nat → Nat) (w : Nat) : Bool := decide (0 < a (12 + 4 * w + 2)) && decide (a (12 + 4 * w + 3) = 0)
theorem ls_t {a : Nat → Nat} {w : Nat} : ls a w = true ↔ 0 < a (12 + 4 * w + 2) ∧ a (12 + 4 * w + 3) = 0 := by
  unfold ls
  rw [Bool.and_eq_true, decide_eq_true_eq, decide_eq_true_eq]
def la (a : Nat → Nat) (c : Nat) : Nat → Nat
  | 0 => 0
  | w + 1 => if ls a w = true ∧ a (12 + 4 * w + 2) = c then w + 1 else la a c w
def l0 (a : Nat → Nat) (c : Nat) : Nat → Nat
  | 0 => 0
  | w + 1 => l0 a c w + if ls a w = true ∧ a (12 + 4 * w + 2) = c then a (12 + 4 * w + 1) else 0
/-- how many of the last f windows can move on a cord -/
def ctL (a : Nat → Nat) (c N : Nat) : Nat → Nat
  | 0 => 0
  | f + 1 => (if ls a (N - (f + 1)) = true ∧ a (12 + 4 * (N - (f + 1)) + 2) = c then 1 else 0) + ctL a c N f
theorem ctL_s (a : Nat → Nat) (c N f : Nat) : ctL a c N (f + 1) = (if ls a (N - (f + 1)) = true ∧ a (12 + 4 * (N - (f + 1)) + 2) = c then 1 else 0) + ctL a c N f := rfl
theorem ctL_le (a : Nat → Nat) (c N : Nat) : ∀ f, ctL a c N f ≤ f
  | 0 => Nat.le_refl _
  | f + 1 => by
    have := ctL_le a c N f
    rw [ctL_s]
    split <;> omega
theorem la_le (a : Nat → Nat) (c : Nat) : ∀ w, la a c w ≤ w
  | 0 => Nat.le_refl _
  | w + 1 => by
    have := la_le a c w
    show (if ls a w = true ∧ a (12 + 4 * w + 2) = c then w + 1 else la a c w) ≤ w + 1
    split <;> omega
theorem la_ct {a : Nat → Nat} {c N : Nat} : ∀ f, f ≤ N → (ctL a c N f = 0 → la a c N = la a c (N - f)) ∧ (ctL a c N f ≠ 0 → N - f < la a c N)
  | 0, _ => ⟨fun _ => rfl, fun h => absurd rfl h⟩
  | f + 1, hf => by
    have ih := la_ct (a := a) (c := c) (N := N) f (by omega)
    rw [ctL_s]
    have e : la a c (N - f) = if ls a (N - (f + 1)) = true ∧ a (12 + 4 * (N - (f + 1)) + 2) = c then N - (f + 1) + 1 else la a c (N - (f + 1)) := by
      rw [show N - f = N - (f + 1) + 1 by omega]
      rfl
    by_cases q : ls a (N - (f + 1)) = true ∧ a (12 + 4 * (N - (f + 1)) + 2) = c
    · rw [if_pos q] at e ⊢
      refine ⟨fun h => absurd h (by omega), fun _ => ?_⟩
      by_cases z : ctL a c N f = 0
      · rw [ih.1 z, e]
        omega
      · have := ih.2 z
        omega
    · rw [if_neg q] at e ⊢
      rw [Nat.zero_add]
      refine ⟨fun h => by rw [ih.1 h, e], fun h => ?_⟩
      have := ih.2 h
      omega
/-- the window is the last that can move on its cord -/
theorem la_last {a : Nat → Nat} {c N f : Nat} (hf : f + 1 ≤ N) (h : ls a (N - (f + 1)) = true ∧ a (12 + 4 * (N - (f + 1)) + 2) = c) : la a c N = N - (f + 1) + 1 ↔ ctL a c N f = 0 := by
  have ih := la_ct (a := a) (c := c) (N := N) f (by omega)
  have e : la a c (N - f) = N - (f + 1) + 1 := by
    rw [show N - f = N - (f + 1) + 1 by omega]
    show (if ls a (N - (f + 1)) = true ∧ a (12 + 4 * (N - (f + 1)) + 2) = c then N - (f + 1) + 1 else la a c (N - (f + 1))) = _
    rw [if_pos h]
  constructor
  · intro q
    by_cases z : ctL a c N f = 0
    · exact z
    · have := ih.2 z
      omega
  · intro z
    rw [ih.1 z, e]
def fvs {σ : Type} (h : Nat → σ → σ) : Nat → Nat → σ → σ
  | 0, _, s => s
  | k + 1, v, s => fvs h k (v + 1) (h v s)
theorem fvs_s {σ : Type} (h : Nat → σ → σ) (k v : Nat) (s : σ) : fvs h (k + 1) v s = fvs h k (v + 1) (h v s) := rfl
theorem fvs_id {σ : Type} {h : Nat → σ → σ} {s : σ} : ∀ k v, (∀ x, v ≤ x → x < v + k → h x s = s) → fvs h k v s = s
  | 0, _, _ => rfl
  | k + 1, v, e => by
    rw [fvs_s, e v (Nat.le_refl _) (by omega)]
    exact fvs_id k (v + 1) (fun x x1 x2 => e x (by omega) (by omega))
def m9 (x : Nat) : Nat := if x < 9 then x else 9
theorem m9_le (x : Nat) : m9 x ≤ 9 ∧ m9 x ≤ x := by
  unfold m9
  split <;> omega
def go {σ : Type} (a : Nat → Nat) (N : Nat) (lf : (Nat → Nat) → σ → σ) : Nat → (Nat → Nat) → (Nat → Nat) → σ → σ
  | 0, r, _, s => lf r s
  | f + 1, r, l, s =>
    if ls a (N - (f + 1)) = true then
      (if ctL a (a (12 + 4 * (N - (f + 1)) + 2)) N f = 0 then
        (if l (a (12 + 4 * (N - (f + 1)) + 2)) ≤ 9 then go a N lf f (updN r (N - (f + 1)) (l (a (12 + 4 * (N - (f + 1)) + 2)))) (updN l (a (12 + 4 * (N - (f + 1)) + 2)) 0) s else s)
      else fvs (fun v s' => go a N lf f (updN r (N - (f + 1)) v) (updN l (a (12 + 4 * (N - (f + 1)) + 2)) (l (a (12 + 4 * (N - (f + 1)) + 2)) - v)) s') (m9 (l (a (12 + 4 * (N - (f + 1)) + 2))) + 1) 0 s)
    else go a N lf f (updN r (N - (f + 1)) (a (12 + 4 * (N - (f + 1)) + 1))) l s
theorem go_s {σ : Type} (a : Nat → Nat) (N : Nat) (lf : (Nat → Nat) → σ → σ) (f : Nat) (r l : Nat → Nat) (s : σ) : go a N lf (f + 1) r l s =
    if ls a (N - (f + 1)) = true then
      (if ctL a (a (12 + 4 * (N - (f + 1)) + 2)) N f = 0 then
        (if l (a (12 + 4 * (N - (f + 1)) + 2)) ≤ 9 then go a N lf f (updN r (N - (f + 1)) (l (a (12 + 4 * (N - (f + 1)) + 2)))) (updN l (a (12 + 4 * (N - (f + 1)) + 2)) 0) s else s)
      else fvs (fun v s' => go a N lf f (updN r (N - (f + 1)) v) (updN l (a (12 + 4 * (N - (f + 1)) + 2)) (l (a (12 + 4 * (N - (f + 1)) + 2)) - v)) s') (m9 (l (a (12 + 4 * (N - (f + 1)) + 2))) + 1) 0 s)
    else go a N lf f (updN r (N - (f + 1)) (a (12 + 4 * (N - (f + 1)) + 1))) l s := rfl
/-- where more is left than can be, there is no standing -/
theorem go_in {σ : Type} {a : Nat → Nat} {N : Nat} {lf : (Nat → Nat) → σ → σ} {c : Nat} : ∀ f r l s, 0 < ctL a c N f → 9 * ctL a c N f < l c → go a N lf f r l s = s := by
  intro f
  induction f with
  | zero => intro r l s h; exact absurd h (by show ¬ 0 < 0; omega)
  | succ f ih =>
    intro r l s h0 h9
    rw [go_s]
    rw [ctL_s] at h0 h9
    generalize N - (f + 1) = w at *
    by_cases hw : ls a w = true
    · rw [if_pos hw]
      by_cases e : a (12 + 4 * w + 2) = c
      · rw [if_pos ⟨hw, e⟩] at h0 h9
        rw [e]
        by_cases z : ctL a c N f = 0
        · rw [if_pos z, if_neg (by omega)]
        · rw [if_neg z]
          refine fvs_id _ _ (fun x x1 x2 => ih _ _ _ (by omega) ?_)
          rw [updN_s]
          have := m9_le (l c)
          omega
      · rw [if_neg (fun q => e q.2)] at h0 h9
        by_cases z : ctL a (a (12 + 4 * w + 2)) N f = 0
        · rw [if_pos z]
          split
          · exact ih _ _ _ (by omega) (by rw [updN_n (Ne.symm e)]; omega)
          · rfl
        · rw [if_neg z]
          exact fvs_id _ _ (fun x x1 x2 => ih _ _ _ (by omega) (by rw [updN_n (Ne.symm e)]; omega))
    · rw [if_neg hw]
      rw [if_neg (fun q => hw q.1)] at h0 h9
      exact ih _ _ _ (by omega) (by omega)
/-- sums -/
def sv (h : Nat → Nat) : Nat → Nat → Nat
  | 0, _ => 0
  | k + 1, v => h v + sv h k (v + 1)
theorem sv_s (h : Nat → Nat) (k v : Nat) : sv h (k + 1) v = h v + sv h k (v + 1) := rfl
theorem sv_mul (h : Nat → Nat) (R : Nat) : ∀ k v, sv (fun x => h x * R) k v = sv h k v * R
  | 0, _ => (Nat.zero_mul R).symm
  | k + 1, v => by
    rw [sv_s, sv_s, sv_mul h R k (v + 1), Nat.add_mul]
theorem fvs_sv {h : Nat → Nat} {g : Nat → Nat → Nat} : ∀ k v s, (∀ x s, g x s = s + h x) → fvs g k v s = s + sv h k v
  | 0, _, _, _ => rfl
  | k + 1, v, s, e => by
    rw [fvs_s, e, fvs_sv k (v + 1) _ e, sv_s]
    omega
/-- in how many ways so many windows of one cord can be open by so much together -/
def wy : Nat → Nat → Nat
  | 0, _ => 1
  | k + 1, L => if k = 0 then (if L ≤ 9 then 1 else 0) else sv (fun v => wy k (L - v)) (m9 L + 1) 0
theorem wy_s (k L : Nat) : wy (k + 1) L = if k = 0 then (if L ≤ 9 then 1 else 0) else sv (fun v => wy k (L - v)) (m9 L + 1) 0 := rfl
def wF (a : Nat → Nat) (N f : Nat) (l : Nat → Nat) (c : Nat) : Nat := wy (ctL a c N f) (l c)
def Rs (a : Nat → Nat) (N f : Nat) (l : Nat → Nat) (c : Nat) : Nat := (if c = 1 then 1 else wF a N f l 1) * (if c = 2 then 1 else wF a N f l 2) * (if c = 3 then 1 else wF a N f l 3) * (if c = 4 then 1 else wF a N f l 4)
def Pr (a : Nat → Nat) (N f : Nat) (l : Nat → Nat) : Nat := wF a N f l 1 * wF a N f l 2 * wF a N f l 3 * wF a N f l 4
theorem Pr_R {a : Nat → Nat} {N f c : Nat} {l : Nat → Nat} (h : 0 < c) (h4 : c ≤ 4) : Pr a N f l = wF a N f l c * Rs a N f l c := by
  unfold Pr Rs
  rcases (show c = 1 ∨ c = 2 ∨ c = 3 ∨ c = 4 by omega) with rfl | rfl | rfl | rfl
  · simp [Nat.mul_assoc]
  · simp [Nat.mul_assoc, Nat.mul_comm, Nat.mul_left_comm]
  · simp [Nat.mul_assoc, Nat.mul_comm, Nat.mul_left_comm]
  · simp [Nat.mul_assoc, Nat.mul_comm, Nat.mul_left_comm]
theorem Rs_e {a : Nat → Nat} {N f f' c : Nat} {l l' : Nat → Nat} (h : ∀ x, x ≠ c → wF a N f' l' x = wF a N f l x) : Rs a N f' l' c = Rs a N f l c := by
  have hh : ∀ x, (if c = x then 1 else wF a N f' l' x) = (if c = x then 1 else wF a N f l x) := fun x => by
    by_cases e : c = x
    · rw [if_pos e, if_pos e]
    · rw [if_neg e, if_neg e, h x (Ne.symm e)]
  unfold Rs
  rw [hh 1, hh 2, hh 3, hh 4]
theorem go_cnt {a : Nat → Nat} {N : Nat} (hc : ∀ w, w < N → a (12 + 4 * w + 2) ≤ 4) : ∀ f r l s, f ≤ N → go a N (fun _ (s : Nat) => s + 1) f r l s = s + Pr a N f l := by
  intro f
  induction f with
  | zero => intro r l s _; rfl
  | succ f ih =>
    intro r l s hf
    have hcw := hc (N - (f + 1)) (by omega)
    rw [go_s]
    by_cases hw : ls a (N - (f + 1)) = true
    · rw [if_pos hw]
      have h0 := (ls_t.mp hw).1
      have wne : ∀ (l' : Nat → Nat), (∀ x, x ≠ a (12 + 4 * (N - (f + 1)) + 2) → l' x = l x) → ∀ x, x ≠ a (12 + 4 * (N - (f + 1)) + 2) → wF a N f l' x = wF a N (f + 1) l x := fun l' hl' x hx => by
        unfold wF
        rw [ctL_s, if_neg (fun q => hx q.2.symm), Nat.zero_add, hl' x hx]
      rw [Pr_R (f := f + 1) h0 hcw]
      have ew : wF a N (f + 1) l (a (12 + 4 * (N - (f + 1)) + 2)) = wy (ctL a (a (12 + 4 * (N - (f + 1)) + 2)) N f + 1) (l (a (12 + 4 * (N - (f + 1)) + 2))) := by
        unfold wF
        rw [ctL_s, if_pos ⟨hw, rfl⟩, Nat.add_comm]
      rw [ew, wy_s]
      by_cases z : ctL a (a (12 + 4 * (N - (f + 1)) + 2)) N f = 0
      · rw [if_pos z, if_pos z]
        by_cases y : l (a (12 + 4 * (N - (f + 1)) + 2)) ≤ 9
        · rw [if_pos y, if_pos y, ih _ _ _ (by omega), Pr_R (f := f) h0 hcw, Rs_e (wne _ (fun x hx => updN_n hx))]
          unfold wF
          rw [z]
          rfl
        · rw [if_neg y, if_neg y, Nat.zero_mul]
          rfl
      · rw [if_neg z, if_neg z]
        rw [fvs_sv (h := fun v => wy (ctL a (a (12 + 4 * (N - (f + 1)) + 2)) N f) (l (a (12 + 4 * (N - (f + 1)) + 2)) - v) * Rs a N (f + 1) l (a (12 + 4 * (N - (f + 1)) + 2))) _ _ _ (fun x s => ?_), sv_mul]
        rw [ih _ _ _ (by omega), Pr_R (f := f) h0 hcw, Rs_e (wne _ (fun x hx => updN_n hx))]
        unfold wF
        rw [updN_s]
    · rw [if_neg hw, ih _ _ _ (by omega)]
      congr 1
      have e : ∀ x, wF a N f l x = wF a N (f + 1) l x := fun x => by
        unfold wF
        rw [ctL_s, if_neg (fun q => hw q.1), Nat.zero_add]
      unfold Pr
      rw [e, e, e, e]
