def csgn (s x y z : Int32) : Int32 := if s < 0 then (if s = -1 then x else if s = -2 then y else z) else s
def cstep (s x y z : Int32) (u : Nat × (Nat → Int32)) : Nat × (Nat → Int32) :=
  if s = -33 then (if u.1 < 1 then u else (u.1, upd u.2 (u.1 - 1) (if u.2 (u.1 - 1) = 0 then 1 else 0)))
  else if -3 ≤ s then (if 50 ≤ u.1 then u else (u.1 + 1, upd u.2 u.1 (csgn s x y z)))
  else if u.1 < 2 then u else (u.1 - 1, upd u.2 (u.1 - 2) (cjoin (-s) (u.2 (u.1 - 2)) (u.2 (u.1 - 1))))
def crun (code : Nat → Int32) (x y z : Int32) (f0 : Nat → Int32) : Nat → Nat × (Nat → Int32)
  | 0 => (0, f0)
  | i + 1 => cstep (code i) x y z (crun code x y z f0 i)
def cval (code : Nat → Int32) (len : Nat) (x y z : Int32) (f0 : Nat → Int32) : Int32 := if (crun code x y z f0 len).1 = 0 then 0 else (crun code x y z f0 len).2 0
theorem cstep_le {s x y z : Int32} {u : Nat × (Nat → Int32)} (h : u.1 ≤ 50) : (cstep s x y z u).1 ≤ 50 := by
  unfold cstep
  split
  · split
    · exact h
    · exact h
  · split
    · split
      · exact h
      · show u.1 + 1 ≤ 50
        omega
    · split
      · exact h
      · show u.1 - 1 ≤ 50
        omega
theorem crun_le {code : Nat → Int32} {x y z : Int32} {f0 : Nat → Int32} : ∀ i, (crun code x y z f0 i).1 ≤ 50
  | 0 => Nat.zero_le _
  | i + 1 => cstep_le (crun_le i)
theorem sf_ne {M : Mem} {k j k' : Nat} {v : Int32} (h : k' ≠ k) : sf M k j v k' = M k' := mu_n _ _ h
theorem sf_eq {M : Mem} {k j : Nat} {v : Int32} : sf M k j v k = upd (M k) j v := mu_s _ _ _
set_option maxHeartbeats 4000000 in
theorem c_value {K r len : Nat} {M : Mem} {x y z : Int32} {Q : Int32 → Mem → Prop} (hlen : len ≤ 50) (hl : M r 3 = nI len) (hQ : ∀ M' : Mem, (∀ k, k ≠ r + 2 → M' k = M k) → Q (cval (M (r + 1)) len x y z (M (r + 2))) M') : P_X10_value K M r x y z Q := by
  unfold P_X10_value B_X10_value_6
  intro X hX
  have key : ∀ f i (M' : Mem), i + f = len → (∀ k, k ≠ r + 2 → M' k = M k) → M' (r + 2) = (crun (M (r + 1)) x y z (M (r + 2)) i).2 → X (nI (crun (M (r + 1)) x y z (M (r + 2)) i).1) (nI i) M' := by
    intro f
    induction f with
    | zero =>
      intro i M' hi hk hs
      obtain rfl : i = len := by omega
      have hle := crun_le (code := M (r + 1)) (x := x) (y := y) (z := z) (f0 := M (r + 2)) i
      have hq := hQ M' hk
      unfold cval at hq
      apply hX
      rw [hk r (by omega), hl, hs]
      refine br_t (nI_le (Nat.le_refl _) (by omega)) ⟨fun q => ?_, fun q => ?_⟩
      · simp (disch := omega) only [i_lit, le_nI] at q
        rw [if_pos (by omega)] at hq
        exact hq
      · simp (disch := omega) only [i_lit, le_nI] at q
        rw [if_neg (by omega)] at hq
        exact hq
    | succ f ih =>
      intro i M' hi hk hs
      have hle := crun_le (code := M (r + 1)) (x := x) (y := y) (z := z) (f0 := M (r + 2)) i
      have nx : ∀ (u : Nat × (Nat → Int32)) (M2 : Mem), u = cstep (M (r + 1) i) x y z (crun (M (r + 1)) x y z (M (r + 2)) i) → (∀ k, k ≠ r + 2 → M2 k = M k) → M2 (r + 2) = u.2 → X (nI u.1) (nI i + 1) M2 := by
        intro u M2 hu h2 h3
        subst hu
        rw [nI_1]
        exact ih (i + 1) M2 (by omega) h2 h3
      apply hX
      rw [hk r (by omega), hl, hk (r + 1) (by omega), cl_nI (by omega)]
      generalize hu : crun (M (r + 1)) x y z (M (r + 2)) i = u at hs nx hle ⊢
      generalize M (r + 1) i = s at nx ⊢
      obtain ⟨h, fs⟩ := u
      simp only at hs hle
      refine br_f (nI_ge (by omega) (by omega)) ⟨vp_in_nI (by omega) (by omega), ?_⟩
      rintro s' rfl
      refine ⟨fun n33 => ⟨fun q3 => ⟨fun q => ?_, fun q => ?_⟩, fun q3 => ⟨fun q => ?_, fun q => ?_⟩⟩, fun e33 => ⟨fun q => ?_, fun q => ?_⟩⟩
      · rintro x5 rfl
        simp (disch := omega) only [i_lit, le_nI] at q
        exact nx (h, fs) M' (by unfold cstep; rw [if_neg n33, if_pos q3, if_pos (by exact q)]) hk hs
      · simp (disch := omega) only [i_lit, le_nI] at q
        have st : ∀ v : Int32, v = csgn s' x y z → X (nI h + 1) (nI i + 1) (sf M' (r + 2) (nI h).toNatClampNeg v) := by
          rintro v rfl
          rw [nI_1 h]
          refine nx (h + 1, upd fs h (csgn s' x y z)) _ (by unfold cstep; rw [if_neg n33, if_pos q3, if_neg (by exact q)]) (fun k hk2 => by rw [sf_ne hk2]; exact hk k hk2) ?_
          rw [sf_eq, hs, cl_nI (by omega)]
        have hin : vp_in (nI h) 50 := vp_in_nI (by omega) (by omega)
        refine ⟨fun n0 => ⟨fun n1 => ⟨fun n2 => ⟨hin, ?_⟩, fun n2 => ⟨hin, ?_⟩⟩, fun n1 => ⟨hin, ?_⟩⟩, fun n0 => ⟨hin, ?_⟩⟩
        · rintro _ rfl _ rfl _ rfl
          exact st z (by unfold csgn; rw [if_pos n0, if_neg n1, if_neg n2])
        · rintro _ rfl _ rfl _ rfl
          exact st y (by unfold csgn; rw [if_pos n0, if_neg n1, if_pos n2])
        · rintro _ rfl _ rfl _ rfl
          exact st x (by unfold csgn; rw [if_pos n0, if_pos n1])
        · rintro _ rfl _ rfl _ rfl
          exact st s' (by unfold csgn; rw [if_neg n0])
      · rintro x5 rfl
        simp (disch := omega) only [i_lit, lt_nI] at q
        exact nx (h, fs) M' (by unfold cstep; rw [if_neg n33, if_neg q3, if_pos (by exact q)]) hk hs
      · simp (disch := omega) only [i_lit, lt_nI] at q
        obtain ⟨h, rfl⟩ : ∃ h', h = h' + 2 := ⟨h - 2, by omega⟩
        rintro x4 rfl
        have e1 : nI (h + 2) + (-1) = nI (h + 1) := pk_m1 (h + 1)
        have e2 : nI (h + 2) + (-1) - 1 = nI h := by rw [e1]; exact nI_pred h
        rw [e1] at *
        rw [show nI (h + 1) - 1 = nI h from nI_pred h, cl_nI (by omega), cl_nI (by omega)]
        refine ⟨vp_in_nI (by omega) (by omega), vp_in_nI (by omega) (by omega), c_joined ⟨vp_in_nI (by omega) (by omega), ?_⟩⟩
        rintro _ rfl _ rfl
        refine nx (h + 1, upd fs h (cjoin (-s') (fs h) (fs (h + 1)))) _ (by unfold cstep; rw [if_neg n33, if_neg q3, if_neg (by exact q)]; rfl) (fun k hk2 => by rw [sf_ne hk2]; exact hk k hk2) ?_
        rw [sf_eq, hs]
      · rintro x5 rfl
        simp (disch := omega) only [i_lit, lt_nI] at q
        exact nx (h, fs) M' (by unfold cstep; rw [if_pos e33, if_pos (by exact q)]) hk hs
      · simp (disch := omega) only [i_lit, lt_nI] at q
        obtain ⟨h, rfl⟩ : ∃ h', h = h' + 1 := ⟨h - 1, by omega⟩
        rw [show nI (h + 1) - 1 = nI h from nI_pred h, cl_nI (by omega), hs]
        have hin : vp_in (nI h) 50 := vp_in_nI (by omega) (by omega)
        refine ⟨hin, fun q2 => ⟨hin, ?_⟩, fun q2 => ⟨hin, ?_⟩⟩
        · rintro _ rfl _ rfl
          refine nx (h + 1, upd fs h 0) _ (by unfold cstep; rw [if_pos e33, if_neg (by exact q)]; show _ = (h + 1, upd fs h (if fs h = 0 then 1 else 0)); rw [if_neg q2]) (fun k hk2 => by rw [sf_ne hk2]; exact hk k hk2) ?_
          rw [sf_eq, hs]
        · rintro _ rfl _ rfl
          refine nx (h + 1, upd fs h 1) _ (by unfold cstep; rw [if_pos e33, if_neg (by exact q)]; show _ = (h + 1, upd fs h (if fs h = 0 then 1 else 0)); rw [if_pos q2]) (fun k hk2 => by rw [sf_ne hk2]; exact hk k hk2) ?_
          rw [sf_eq, hs]
  exact key len 0 M (by omega) (fun _ _ => rfl) rfl
