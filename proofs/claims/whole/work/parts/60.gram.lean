/-! ===== a text's grammar ===== -/
abbrev V3 : Type := Int32 → Int32 → Int32 → Int32
def lvl (c : Nat) : Nat := if c = 124 then 1 else if c = 38 then 2 else if c = 60 ∨ c = 61 ∨ c = 62 then 3 else if c = 43 ∨ c = 45 then 4 else if c = 42 ∨ c = 47 ∨ c = 37 then 5 else 0
theorem lvl_op {c : Nat} (h : lvl c ≠ 0) : c = 124 ∨ c = 38 ∨ c = 60 ∨ c = 61 ∨ c = 62 ∨ c = 43 ∨ c = 45 ∨ c = 42 ∨ c = 47 ∨ c = 37 := by
  unfold lvl at h
  repeat' split at h
  all_goals omega
theorem lvl_le (c : Nat) : lvl c ≤ 5 := by
  unfold lvl
  repeat' split
  all_goals omega
def jn (c : Nat) (v w : V3) : V3 := fun x y z => cjoin (nI c) (v x y z) (w x y z)
def nt (v : V3) : V3 := fun x y z => if v x y z = 0 then 1 else 0
def bnd (r : Option V3 × Nat) (k : V3 → Nat → Option V3 × Nat) : Option V3 × Nat := match r with
  | (none, e) => (none, e)
  | (some v, q) => k v q
theorem bnd_n (e : Nat) (k : V3 → Nat → Option V3 × Nat) : bnd (none, e) k = (none, e) := rfl
theorem bnd_s (v : V3) (q : Nat) (k : V3 → Nat → Option V3 × Nat) : bnd (some v, q) k = k v q := rfl
def nm (u c : Nat) : Nat := if u = 0 then (if c = 111 then 1 else if c = 110 then 2 else if c = 104 then 3 else 0) else (if c = 99 then 1 else if c = 104 then 2 else if c = 112 then 3 else 0)
theorem nm_le (u c : Nat) : nm u c ≤ 3 := by
  unfold nm
  repeat' split
  all_goals omega
def nmV (k : Nat) : V3 := fun x y z => if k = 1 then x else if k = 2 then y else z
section GR
variable (bs : Nat → Nat) (n u : Nat)
def lpP (l : Nat) (sub : Nat → Option V3 × Nat) : Nat → V3 → Nat → Option V3 × Nat
  | 0, v, q => (some v, q)
  | f + 1, v, q => if q < n ∧ lvl (bs q) = l then bnd (sub (q + 1)) (fun w q' => lpP l sub f (jn (bs q) v w) q') else (some v, q)
def oqP (l : Nat) (sub : Nat → Option V3 × Nat) (p : Nat) : Option V3 × Nat := bnd (sub p) (fun v q => lpP bs n l sub (n - q) v q)
def cmP (sub : Nat → Option V3 × Nat) (p : Nat) : Option V3 × Nat := bnd (sub p) (fun v q => if q < n ∧ lvl (bs q) = 3 then bnd (sub (q + 1)) (fun w q' => (some (jn (bs q) v w), q')) else (some v, q))
def eiP (un : Nat → Option V3 × Nat) : Nat → Option V3 × Nat := oqP bs n 1 (oqP bs n 2 (cmP bs n (oqP bs n 4 (oqP bs n 5 un))))
def dgE : Nat → Nat → Nat
  | 0, p => p
  | f + 1, p => if p < n ∧ 48 ≤ bs p ∧ bs p ≤ 57 then dgE f (p + 1) else p
def dgV : Nat → Nat → Nat → Nat
  | 0, _, v => v
  | f + 1, p, v => if p < n ∧ 48 ≤ bs p ∧ bs p ≤ 57 then dgV f (p + 1) (10 * v + bs p - 48) else v
def atP (p : Nat) : Option V3 × Nat := if p < n ∧ nm u (bs p) ≠ 0 then (some (nmV (nm u (bs p))), p + 1) else if dgE bs n 4 p = p then (none, p) else (some (fun _ _ _ => nI (dgV bs n 4 p 0)), dgE bs n 4 p)
def unP : Nat → Nat → Option V3 × Nat
  | 0, p => if p < n ∧ (bs p = 33 ∨ bs p = 40) then (none, p) else atP bs n u p
  | d + 1, p => if p < n ∧ (bs p = 33 ∨ bs p = 40) then (if bs p = 40 then bnd (eiP bs n (unP d) (p + 1)) (fun v q => if q < n ∧ bs q = 41 then (some v, q + 1) else (none, q)) else bnd (unP d (p + 1)) (fun v q => (some (nt v), q))) else atP bs n u p
end GR
theorem lpP_s (bs : Nat → Nat) (n l : Nat) (sub : Nat → Option V3 × Nat) (f : Nat) (v : V3) (q : Nat) : lpP bs n l sub (f + 1) v q = if q < n ∧ lvl (bs q) = l then bnd (sub (q + 1)) (fun w q' => lpP bs n l sub f (jn (bs q) v w) q') else (some v, q) := rfl
theorem unP_0 (bs : Nat → Nat) (n u p : Nat) : unP bs n u 0 p = if p < n ∧ (bs p = 33 ∨ bs p = 40) then (none, p) else atP bs n u p := rfl
theorem unP_s (bs : Nat → Nat) (n u d p : Nat) : unP bs n u (d + 1) p = if p < n ∧ (bs p = 33 ∨ bs p = 40) then (if bs p = 40 then bnd (eiP bs n (unP bs n u d) (p + 1)) (fun v q => if q < n ∧ bs q = 41 then (some v, q + 1) else (none, q)) else bnd (unP bs n u d (p + 1)) (fun v q => (some (nt v), q))) else atP bs n u p := rfl
theorem ex_r (r : Option V3 × Nat) : (∃ f, r = (none, f)) ∨ ∃ v q, r = (some v, q) := by
  obtain ⟨o, q⟩ := r
  cases o with
  | none => exact Or.inl ⟨q, rfl⟩
  | some v => exact Or.inr ⟨v, q, rfl⟩
/-- what a reader gives lies on from where it began -/
def PB (n : Nat) (sub : Nat → Option V3 × Nat) : Prop := ∀ p, p ≤ n → (∀ v q, sub p = (some v, q) → p < q ∧ q ≤ n) ∧ ∀ f, sub p = (none, f) → f ≤ n
section GR2
variable {bs : Nat → Nat} {n u : Nat}
theorem lpP_b {l : Nat} {sub : Nat → Option V3 × Nat} (h : PB n sub) : ∀ f v q, q ≤ n → (∀ w q2, lpP bs n l sub f v q = (some w, q2) → q ≤ q2 ∧ q2 ≤ n ∧ (n ≤ q + f → q2 < n → lvl (bs q2) ≠ l)) ∧ ∀ e, lpP bs n l sub f v q = (none, e) → e ≤ n := by
  intro f
  induction f with
  | zero =>
    intro v q hq
    refine ⟨fun w q2 e => ?_, fun e2 e => ?_⟩
    · have e : ((some v, q) : Option V3 × Nat) = (some w, q2) := e
      injection e with e3 e4
      subst e4
      exact ⟨Nat.le_refl _, hq, fun h1 h2 => absurd h2 (by omega)⟩
    · have e : ((some v, q) : Option V3 × Nat) = (none, e2) := e
      injection e with e3 e4
      exact absurd e3 (by simp)
  | succ f ih =>
    intro v q hq
    rw [lpP_s]
    by_cases c : q < n ∧ lvl (bs q) = l
    · rw [if_pos c]
      rcases ex_r (sub (q + 1)) with ⟨e, he⟩ | ⟨w, q', he⟩
      · rw [he, bnd_n]
        have := (h (q + 1) (by omega)).2 e he
        refine ⟨fun w q2 e => ?_, fun e2 e => ?_⟩
        · injection e with e3 e4
          exact absurd e3 (by simp)
        · injection e with e3 e4
          omega
      · rw [he, bnd_s]
        have b := (h (q + 1) (by omega)).1 w q' he
        have i := ih (jn (bs q) v w) q' b.2
        refine ⟨fun w2 q2 e => ?_, i.2⟩
        have i1 := i.1 w2 q2 e
        exact ⟨by omega, i1.2.1, fun h1 h2 => i1.2.2 (by omega) h2⟩
    · rw [if_neg c]
      refine ⟨fun w q2 e => ?_, fun e2 e => ?_⟩
      · injection e with e3 e4
        subst e4
        exact ⟨Nat.le_refl _, hq, fun _ h2 e => c ⟨h2, e⟩⟩
      · injection e with e3 e4
        exact absurd e3 (by simp)
theorem oqP_b {l : Nat} {sub : Nat → Option V3 × Nat} (h : PB n sub) : PB n (oqP bs n l sub) := fun p hp => by
  unfold oqP
  rcases ex_r (sub p) with ⟨e, he⟩ | ⟨w, q', he⟩
  · rw [he, bnd_n]
    have := (h p hp).2 e he
    refine ⟨fun w q2 e => ?_, fun e2 e => ?_⟩
    · injection e with e3 e4
      exact absurd e3 (by simp)
    · injection e with e3 e4
      omega
  · rw [he, bnd_s]
    have b := (h p hp).1 w q' he
    have i := lpP_b (bs := bs) (l := l) h (n - q') w q' b.2
    refine ⟨fun w2 q2 e => ?_, i.2⟩
    have i1 := i.1 w2 q2 e
    exact ⟨by omega, i1.2.1⟩
theorem cmP_b {sub : Nat → Option V3 × Nat} (h : PB n sub) : PB n (cmP bs n sub) := fun p hp => by
  unfold cmP
  rcases ex_r (sub p) with ⟨e, he⟩ | ⟨w, q', he⟩
  · rw [he, bnd_n]
    have := (h p hp).2 e he
    refine ⟨fun w q2 e => ?_, fun e2 e => ?_⟩
    · injection e with e3 e4
      exact absurd e3 (by simp)
    · injection e with e3 e4
      omega
  · rw [he, bnd_s]
    have b := (h p hp).1 w q' he
    by_cases c : q' < n ∧ lvl (bs q') = 3
    · rw [if_pos c]
      rcases ex_r (sub (q' + 1)) with ⟨e, he2⟩ | ⟨w2, q2, he2⟩
      · rw [he2, bnd_n]
        have := (h (q' + 1) (by omega)).2 e he2
        refine ⟨fun w q2 e => ?_, fun e2 e => ?_⟩
        · injection e with e3 e4
          exact absurd e3 (by simp)
        · injection e with e3 e4
          omega
      · rw [he2, bnd_s]
        have b2 := (h (q' + 1) (by omega)).1 w2 q2 he2
        refine ⟨fun w q2 e => ?_, fun e2 e => ?_⟩
        · injection e with e3 e4
          omega
        · injection e with e3 e4
          exact absurd e3 (by simp)
    · rw [if_neg c]
      refine ⟨fun w q2 e => ?_, fun e2 e => ?_⟩
      · injection e with e3 e4
        omega
      · injection e with e3 e4
        exact absurd e3 (by simp)
theorem eiP_b {un : Nat → Option V3 × Nat} (h : PB n un) : PB n (eiP bs n un) := oqP_b (oqP_b (cmP_b (oqP_b (oqP_b h))))
theorem dgE_b : ∀ f p, p ≤ n → p ≤ dgE bs n f p ∧ dgE bs n f p ≤ n ∧ dgE bs n f p ≤ p + f
  | 0, p, h => ⟨Nat.le_refl _, h, Nat.le_refl _⟩
  | f + 1, p, h => by
    show p ≤ (if p < n ∧ 48 ≤ bs p ∧ bs p ≤ 57 then dgE bs n f (p + 1) else p) ∧ (if p < n ∧ 48 ≤ bs p ∧ bs p ≤ 57 then dgE bs n f (p + 1) else p) ≤ n ∧ (if p < n ∧ 48 ≤ bs p ∧ bs p ≤ 57 then dgE bs n f (p + 1) else p) ≤ p + (f + 1)
    split
    · have := dgE_b f (p + 1) (by omega)
      omega
    · omega
theorem atP_b : PB n (atP bs n u) := fun p hp => by
  unfold atP
  by_cases c : p < n ∧ nm u (bs p) ≠ 0
  · rw [if_pos c]
    refine ⟨fun w q2 e => ?_, fun e2 e => ?_⟩
    · injection e with e3 e4
      omega
    · injection e with e3 e4
      exact absurd e3 (by simp)
  · rw [if_neg c]
    have b := dgE_b (bs := bs) (n := n) 4 p hp
    by_cases c2 : dgE bs n 4 p = p
    · rw [if_pos c2]
      refine ⟨fun w q2 e => ?_, fun e2 e => ?_⟩
      · injection e with e3 e4
        exact absurd e3 (by simp)
      · injection e with e3 e4
        omega
    · rw [if_neg c2]
      refine ⟨fun w q2 e => ?_, fun e2 e => ?_⟩
      · injection e with e3 e4
        omega
      · injection e with e3 e4
        exact absurd e3 (by simp)
theorem unP_b : ∀ d, PB n (unP bs n u d)
  | 0 => fun p hp => by
    rw [unP_0]
    by_cases c : p < n ∧ (bs p = 33 ∨ bs p = 40)
    · rw [if_pos c]
      refine ⟨fun w q2 e => ?_, fun e2 e => ?_⟩
      · injection e with e3 e4
        exact absurd e3 (by simp)
      · injection e with e3 e4
        omega
    · rw [if_neg c]
      exact atP_b p hp
  | d + 1 => fun p hp => by
    rw [unP_s]
    by_cases c : p < n ∧ (bs p = 33 ∨ bs p = 40)
    · rw [if_pos c]
      by_cases c2 : bs p = 40
      · rw [if_pos c2]
        have h := eiP_b (bs := bs) (unP_b d) (p + 1) (by omega)
        rcases ex_r (eiP bs n (unP bs n u d) (p + 1)) with ⟨e, he⟩ | ⟨w, q', he⟩
        · rw [he, bnd_n]
          have := h.2 e he
          refine ⟨fun w q2 e => ?_, fun e2 e => ?_⟩
          · injection e with e3 e4
            exact absurd e3 (by simp)
          · injection e with e3 e4
            omega
        · rw [he, bnd_s]
          have b := h.1 w q' he
          by_cases c3 : q' < n ∧ bs q' = 41
          · rw [if_pos c3]
            refine ⟨fun w q2 e => ?_, fun e2 e => ?_⟩
            · injection e with e3 e4
              omega
            · injection e with e3 e4
              exact absurd e3 (by simp)
          · rw [if_neg c3]
            refine ⟨fun w q2 e => ?_, fun e2 e => ?_⟩
            · injection e with e3 e4
              exact absurd e3 (by simp)
            · injection e with e3 e4
              omega
      · rw [if_neg c2]
        have h := unP_b d (p + 1) (by omega)
        rcases ex_r (unP bs n u d (p + 1)) with ⟨e, he⟩ | ⟨w, q', he⟩
        · rw [he, bnd_n]
          have := h.2 e he
          refine ⟨fun w q2 e => ?_, fun e2 e => ?_⟩
          · injection e with e3 e4
            exact absurd e3 (by simp)
          · injection e with e3 e4
            omega
        · rw [he, bnd_s]
          have b := h.1 w q' he
          refine ⟨fun w q2 e => ?_, fun e2 e => ?_⟩
          · injection e with e3 e4
            omega
          · injection e with e3 e4
            exact absurd e3 (by simp)
    · rw [if_neg c]
      exact atP_b p hp
end GR2
/-! ===== code that gives a value ===== -/
def rn (cd : Nat → Int32) (x y z : Int32) (i : Nat) : Nat → Nat × (Nat → Int32) → Nat × (Nat → Int32)
  | 0, s => s
  | m + 1, s => cstep (cd (i + m)) x y z (rn cd x y z i m s)
theorem rn_s (cd : Nat → Int32) (x y z : Int32) (i m : Nat) (s : Nat × (Nat → Int32)) : rn cd x y z i (m + 1) s = cstep (cd (i + m)) x y z (rn cd x y z i m s) := rfl
theorem rn_add (cd : Nat → Int32) (x y z : Int32) (i m1 : Nat) (s : Nat × (Nat → Int32)) : ∀ m2, rn cd x y z i (m1 + m2) s = rn cd x y z (i + m1) m2 (rn cd x y z i m1 s)
  | 0 => rfl
  | m2 + 1 => by
    show cstep (cd (i + (m1 + m2))) x y z (rn cd x y z i (m1 + m2) s) = cstep (cd (i + m1 + m2)) x y z (rn cd x y z (i + m1) m2 (rn cd x y z i m1 s))
    rw [rn_add cd x y z i m1 s m2, Nat.add_assoc]
theorem rn_cg {cd cd' : Nat → Int32} {x y z : Int32} {i : Nat} {s : Nat × (Nat → Int32)} : ∀ m, (∀ k, i ≤ k → k < i + m → cd' k = cd k) → rn cd' x y z i m s = rn cd x y z i m s
  | 0, _ => rfl
  | m + 1, h => by
    rw [rn_s, rn_s, rn_cg m (fun k k1 k2 => h k k1 (by omega)), h (i + m) (by omega) (by omega)]
theorem crun_rn (cd : Nat → Int32) (x y z : Int32) (f0 : Nat → Int32) : ∀ m, crun cd x y z f0 m = rn cd x y z 0 m (0, f0)
  | 0 => rfl
  | m + 1 => by
    rw [rn_s, ← crun_rn cd x y z f0 m, Nat.zero_add]
    rfl
def Seg (cd : Nat → Int32) (i j : Nat) (v : V3) : Prop := i < j ∧ ∀ x y z s, s.1 + (j - i) ≤ 50 → (rn cd x y z i (j - i) s).1 = s.1 + 1 ∧ (rn cd x y z i (j - i) s).2 s.1 = v x y z ∧ ∀ k, k < s.1 → (rn cd x y z i (j - i) s).2 k = s.2 k
theorem Seg.cg {cd cd' : Nat → Int32} {i j : Nat} {v : V3} (h : Seg cd i j v) (e : ∀ k, i ≤ k → k < j → cd' k = cd k) : Seg cd' i j v := ⟨h.1, fun x y z s hs => by
  have := h.1
  rw [rn_cg (cd := cd) (cd' := cd') (j - i) (fun k k1 k2 => e k k1 (by omega))]
  exact h.2 x y z s hs⟩
theorem Seg.leaf {cd : Nat → Int32} {i : Nat} {v : V3} (h : -3 ≤ cd i) (hv : ∀ x y z, csgn (cd i) x y z = v x y z) : Seg cd i (i + 1) v := ⟨by omega, fun x y z s hs => by
  have n33 : cd i ≠ -33 := fun q => by rw [q] at h; exact absurd h (by decide)
  have e : rn cd x y z i (i + 1 - i) s = (s.1 + 1, upd s.2 s.1 (csgn (cd i) x y z)) := by
    rw [show i + 1 - i = 0 + 1 by omega, rn_s]
    show cstep (cd (i + 0)) x y z s = _
    unfold cstep
    rw [Nat.add_zero, if_neg n33, if_pos h, if_neg (by omega)]
  rw [e]
  refine ⟨rfl, ?_, fun k hk => ?_⟩
  · show upd s.2 s.1 (csgn (cd i) x y z) s.1 = _
    rw [pk_us, hv]
  · show upd s.2 s.1 (csgn (cd i) x y z) k = _
    rw [pk_un (by omega)]⟩
theorem Seg.no {cd : Nat → Int32} {i j : Nat} {v : V3} (h : Seg cd i j v) (hc : cd j = -33) : Seg cd i (j + 1) (nt v) := ⟨by have := h.1; omega, fun x y z s hs => by
  have hij := h.1
  obtain ⟨h1, h2, h3⟩ := h.2 x y z s (by omega)
  have e : rn cd x y z i (j + 1 - i) s = cstep (-33) x y z (rn cd x y z i (j - i) s) := by
    rw [show j + 1 - i = (j - i) + 1 by omega, rn_s, show i + (j - i) = j by omega, hc]
  rw [e]
  generalize rn cd x y z i (j - i) s = w at *
  obtain ⟨w1, w2⟩ := w
  have h1 : w1 = s.1 + 1 := h1
  subst h1
  have e2 : cstep (-33) x y z (s.1 + 1, w2) = (s.1 + 1, upd w2 s.1 (if w2 s.1 = 0 then 1 else 0)) := by
    unfold cstep
    rw [if_pos rfl, if_neg (by show ¬ s.1 + 1 < 1; omega)]
    rfl
  rw [e2]
  refine ⟨rfl, ?_, fun k hk => ?_⟩
  · show upd w2 s.1 _ s.1 = _
    have h2 : w2 s.1 = v x y z := h2
    rw [pk_us, h2]
    rfl
  · show upd w2 s.1 _ k = _
    rw [pk_un (by omega)]
    exact h3 k hk⟩
theorem Seg.jo {cd : Nat → Int32} {i j k c : Nat} {v w : V3} (h : Seg cd i j v) (hw : Seg cd j k w) (hc : cd k = -nI c) (ho : lvl c ≠ 0) : Seg cd i (k + 1) (jn c v w) := ⟨by have := h.1; have := hw.1; omega, fun x y z s hs => by
  have hij := h.1
  have hjk := hw.1
  obtain ⟨h1, h2, h3⟩ := h.2 x y z s (by omega)
  have e : rn cd x y z i (k + 1 - i) s = cstep (-nI c) x y z (rn cd x y z j (k - j) (rn cd x y z i (j - i) s)) := by
    rw [show k + 1 - i = ((j - i) + (k - j)) + 1 by omega, rn_s, show i + ((j - i) + (k - j)) = k by omega, hc, rn_add, show i + (j - i) = j by omega]
  rw [e]
  generalize rn cd x y z i (j - i) s = s' at *
  obtain ⟨p1, p2⟩ := s'
  have h1 : p1 = s.1 + 1 := h1
  subst h1
  have h2 : p2 s.1 = v x y z := h2
  have h3 : ∀ k, k < s.1 → p2 k = s.2 k := h3
  obtain ⟨g1, g2, g3⟩ := hw.2 x y z (s.1 + 1, p2) (by show s.1 + 1 + (k - j) ≤ 50; omega)
  generalize rn cd x y z j (k - j) (s.1 + 1, p2) = s' at *
  obtain ⟨r1, r2⟩ := s'
  have g1 : r1 = s.1 + 1 + 1 := g1
  subst g1
  have g2 : r2 (s.1 + 1) = w x y z := g2
  have g3 : ∀ k, k < s.1 + 1 → r2 k = p2 k := g3
  have n1 : ¬ -nI c = -33 := by rcases lvl_op ho with rfl | rfl | rfl | rfl | rfl | rfl | rfl | rfl | rfl | rfl <;> decide
  have n2 : ¬ -3 ≤ -nI c := by rcases lvl_op ho with rfl | rfl | rfl | rfl | rfl | rfl | rfl | rfl | rfl | rfl <;> decide
  have e2 : cstep (-nI c) x y z (s.1 + 1 + 1, r2) = (s.1 + 1, upd r2 s.1 (cjoin (nI c) (r2 s.1) (r2 (s.1 + 1)))) := by
    unfold cstep
    rw [if_neg n1, if_neg n2, if_neg (by show ¬ s.1 + 1 + 1 < 2; omega), Int32.neg_neg]
    rfl
  rw [e2]
  refine ⟨rfl, ?_, fun k hk => ?_⟩
  · show upd r2 s.1 _ s.1 = _
    rw [pk_us, g3 _ (by omega), h2, g2]
    rfl
  · show upd r2 s.1 _ k = _
    rw [pk_un (by omega), g3 k (by omega)]
    exact h3 k hk⟩
theorem Seg.val {cd : Nat → Int32} {j : Nat} {v : V3} (h : Seg cd 0 j v) (hj : j ≤ 50) (x y z : Int32) (f0 : Nat → Int32) : cval cd j x y z f0 = v x y z := by
  obtain ⟨h1, h2, h3⟩ := h.2 x y z (0, f0) (by show 0 + (j - 0) ≤ 50; omega)
  rw [Nat.sub_zero] at h1 h2
  unfold cval
  rw [crun_rn, if_neg (by rw [h1]; show ¬ 0 + 1 = 0; omega)]
  exact h2
