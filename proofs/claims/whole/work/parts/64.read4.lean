/-! ===== the class's reader: numbers, names, ! and ( ===== -/
theorem dgV_b {bs : Nat → Nat} {n : Nat} : ∀ f p v, dgV bs n f p v < (v + 1) * 10 ^ f
  | 0, p, v => by
    show v < (v + 1) * 10 ^ 0
    omega
  | f + 1, p, v => by
    show (if p < n ∧ 48 ≤ bs p ∧ bs p ≤ 57 then dgV bs n f (p + 1) (10 * v + bs p - 48) else v) < (v + 1) * 10 ^ (f + 1)
    have e : (v + 1) * 10 ^ (f + 1) = (10 * (v + 1)) * 10 ^ f := by rw [Nat.pow_succ, Nat.mul_comm (10 ^ f) 10, ← Nat.mul_assoc, Nat.mul_comm (v + 1) 10]
    rw [e]
    have hp : 0 < 10 ^ f := Nat.pow_pos (by omega)
    split
    · rename_i c
      have := dgV_b (bs := bs) (n := n) f (p + 1) (10 * v + bs p - 48)
      exact Nat.lt_of_lt_of_le this (Nat.mul_le_mul_right _ (by omega))
    · exact Nat.lt_of_lt_of_le (show v < 10 * (v + 1) by omega) (Nat.le_mul_of_pos_right _ hp)
theorem nm_dig {u c : Nat} (h : 48 ≤ c ∧ c ≤ 57) : nm u c = 0 := by
  unfold nm
  repeat' split
  all_goals omega
theorem nm_br {u c : Nat} (h : c = 33 ∨ c = 40) : nm u c = 0 := by
  unfold nm
  repeat' split
  all_goals omega
theorem nmV_s {k : Nat} (hk : k = 1 ∨ k = 2 ∨ k = 3) (x y z : Int32) : csgn (-1 - cI k) x y z = nmV k x y z := by
  rcases hk with rfl | rfl | rfl
  · show csgn (-1 - cI 1) x y z = x
    rw [show (-1 : Int32) - cI 1 = -1 by decide]
    rfl
  · show csgn (-1 - cI 2) x y z = y
    rw [show (-1 : Int32) - cI 2 = -2 by decide]
    rfl
  · show csgn (-1 - cI 3) x y z = z
    rw [show (-1 : Int32) - cI 3 = -3 by decide]
    rfl
section RD3
variable {K r n u : Nat} {bs : Nat → Nat} {Q : Int32 → Mem → Prop} {X : Int32 → Int32 → Mem → Prop}
theorem add_v {p q L T O : Nat} {x : Int32} {v : V3} {M : Mem} (hn : n ≤ 50) (hpn : p < n) (hq : p < q) (a : At r L T O M) (hLT : L + T ≤ p) (hx : -3 ≤ x) (hv : ∀ y1 y2 y3, csgn x y1 y2 y3 = v y1 y2 y3) (k : ∀ M' L', Sm r L T M M' → At r L' T O M' → L' + T ≤ q → Seg (M' (r + 1)) L L' v → P_X10_closeNots K M' r (fun M2 => X (nI 0) (nI q) M2)) : P_X10_addValue K M r x (fun M1 => X 0 (nI q) M1) := by
  unfold P_X10_addValue
  refine c_code a.1 (by omega) ?_
  refine k _ (L + 1) ⟨⟨fun k k0 k1 k2 => by rw [sf_ne k0, sf_ne k1], by rw [sf_j (by omega), sf_ne (by omega)]⟩, fun k hk => by rw [sf_ne (by omega), sf_j (by omega)], fun k hk => by rw [sf_ne (by omega), sf_ne (by omega)]⟩ ⟨sf_e rfl rfl, by rw [sf_j (by omega), sf_ne (by omega)]; exact a.2.1, by rw [sf_j (by omega), sf_ne (by omega)]; exact a.2.2⟩ (by omega) ?_
  have e : sf (sf M (r + 1) L x) r 3 (nI (L + 1)) (r + 1) L = x := by rw [sf_ne (by omega), sf_e rfl rfl]
  exact Seg.leaf (by rw [e]; exact hx) (fun y1 y2 y3 => by rw [e]; exact hv y1 y2 y3)
theorem at_ok {p L T O : Nat} {M : Mem} (hX : RX K r u Q X) (hn : n ≤ 50) (hb : ∀ i, i < n → bs i ≤ 255) (hu : u < 2) (hpn : p ≤ n) (tp : TPc n bs M) (a : At r L T O M) (hLT : L + T ≤ p) (hno : ¬ (p < n ∧ (bs p = 33 ∨ bs p = 40))) :
    (∀ f, atP bs n u p = (none, f) → (∀ M', Fr r M M' → Q (nI f) M') → X (nI 1) (nI p) M) ∧
    (∀ v q, atP bs n u p = (some v, q) → (∀ M' L', Sm r L T M M' → At r L' T O M' → L' + T ≤ q → Seg (M' (r + 1)) L L' v → P_X10_closeNots K M' r (fun M2 => X (nI 0) (nI q) M2)) → X (nI 1) (nI p) M) := by
  unfold atP
  by_cases hp : p < n
  · have hbp := hb p hp
    by_cases dg : 48 ≤ bs p ∧ bs p ≤ 57
    · have e0 := nm_dig (u := u) dg
      have eE : dgE bs n 4 p = dgE bs n 3 (p + 1) := by
        show (if p < n ∧ 48 ≤ bs p ∧ bs p ≤ 57 then dgE bs n 3 (p + 1) else p) = _
        rw [if_pos ⟨hp, dg⟩]
      have bE := dgE_b (bs := bs) (n := n) 3 (p + 1) (by omega)
      rw [if_neg (fun z => z.2 e0), if_neg (by omega)]
      refine ⟨fun f hf => ns_ne hf, fun v q he k => ?_⟩
      obtain ⟨rfl, rfl⟩ := ss_e he
      have hV := dgV_b (bs := bs) (n := n) 4 p 0
      refine rb_in hX tp hn hp (fun _ => c_isD hbp ?_) (fun z => absurd z (by decide))
      rw [if_pos dg]
      refine ⟨fun z => absurd z (by decide), fun _ => c_nEnd tp hn hb hpn (c_nOf tp hn hpn ?_)⟩
      refine add_v (v := fun _ _ _ => nI (dgV bs n 4 p 0)) hn hp (by omega) a hLT ?_ (fun y1 y2 y3 => ?_) k
      · rw [Int32.le_iff_toInt_le, nI_toInt (by omega)]
        have : (-3 : Int32).toInt = -3 := rfl
        omega
      · unfold csgn
        rw [if_neg (nI_pos (by omega))]
    · by_cases e0 : nm u (bs p) = 0
      · have eE : dgE bs n 4 p = p := by
          show (if p < n ∧ 48 ≤ bs p ∧ bs p ≤ 57 then dgE bs n 3 (p + 1) else p) = _
          rw [if_neg (fun z => dg z.2)]
        rw [if_neg (fun z => z.2 e0), if_pos eE]
        refine ⟨fun f hf k => ?_, fun v q he => sn_ne he⟩
        have := nn_e hf
        subst this
        refine rb_in hX tp hn hp (fun _ => c_isD hbp ?_) (fun z => absurd z (by decide))
        rw [if_neg dg]
        refine ⟨fun _ => c_isN hu hbp ?_, fun z => absurd rfl z⟩
        rw [if_pos e0]
        refine ⟨fun _ => ?_, fun z => absurd rfl z⟩
        unfold P_X10_opens
        have n33 : ¬ nI (bs p) = 33 := fun z => hno ⟨hp, Or.inl ((eq_nI (b := 33) (by omega) (by omega)).mp z)⟩
        have n40 : ¬ nI (bs p) = 40 := fun z => hno ⟨hp, Or.inr ((eq_nI (b := 40) (by omega) (by omega)).mp z)⟩
        exact ⟨fun z => absurd z n33, fun _ => ⟨fun _ => ⟨fun z => absurd rfl z, fun _ => k M Fr.rf⟩, fun z => absurd z n40⟩⟩
      · have hm := nm_le u (bs p)
        rw [if_pos ⟨hp, e0⟩]
        refine ⟨fun f hf => ns_ne hf, fun v q he k => ?_⟩
        obtain ⟨rfl, rfl⟩ := ss_e he
        refine rb_in hX tp hn hp (fun _ => c_isD hbp ?_) (fun z => absurd z (by decide))
        rw [if_neg dg]
        refine ⟨fun _ => c_isN hu hbp ?_, fun z => absurd rfl z⟩
        rw [if_neg e0]
        refine ⟨fun z => absurd z (by decide), fun _ => c_ixOf hu hbp ?_⟩
        have hk : nm u (bs p) = 1 ∨ nm u (bs p) = 2 ∨ nm u (bs p) = 3 := by omega
        refine add_v (v := nmV (nm u (bs p))) hn hp (by omega) a hLT ?_ (fun y1 y2 y3 => nmV_s hk y1 y2 y3) k
        rcases hk with e | e | e <;> rw [e] <;> decide
  · have eE : dgE bs n 4 p = p := by
      show (if p < n ∧ 48 ≤ bs p ∧ bs p ≤ 57 then dgE bs n 3 (p + 1) else p) = _
      rw [if_neg (fun z => hp z.1)]
    rw [if_neg (fun z => hp z.1), if_pos eE]
    refine ⟨fun f hf k => ?_, fun v q he => sn_ne he⟩
    have := nn_e hf
    subst this
    obtain rfl : p = n := by omega
    exact rw_end hX tp hn (Nat.le_refl _) hn (k M Fr.rf)
theorem open_step {p L T O c : Nat} {M : Mem} (hX : RX K r u Q X) (hn : n ≤ 50) (hu : u < 2) (tp : TPc n bs M) (a : At r L T O M) (hLT : L + T ≤ p) (hp : p < n) (hc : bs p = c) (h : c = 33 ∨ c = 40) (hO : O < 5)
    (k : ∀ M3, Sm r L T M M3 → At r L (T + 1) (O + 1) M3 → M3 (r + 2) T = nI c → X (nI 1) (nI (p + 1)) M3) : X (nI 1) (nI p) M := by
  have c255 : bs p ≤ 255 := by omega
  have dg : ¬ (48 ≤ bs p ∧ bs p ≤ 57) := by omega
  refine rb_in hX tp hn hp (fun _ => c_isD c255 ?_) (fun z => absurd z (by decide))
  rw [if_neg dg]
  refine ⟨fun _ => c_isN hu c255 ?_, fun z => absurd rfl z⟩
  rw [if_pos (nm_br (by rw [hc]; exact h))]
  refine ⟨fun _ => ?_, fun z => absurd rfl z⟩
  have body : B_X10_opens_12 K r (fun v14 M15 => ((¬ v14 = 0 → X (nI 1) (nI (p + 1)) M15) ∧ (v14 = 0 → Q (nI p) M15))) (nI (bs p)) M := by
    unfold B_X10_opens_12
    rw [a.2.2]
    refine br_t (nI_lt (b := 5) hO (by omega)) ?_
    rintro _ rfl _ rfl
    refine c_push (T := T) (by rw [sf_j (by omega)]; exact a.2.1) (by omega) ⟨Or.inr rfl, fun _ => ?_, fun z => absurd z (by decide)⟩
    refine k _ ⟨⟨fun k k0 k1 k2 => by rw [sf_ne k0, sf_ne k2, sf_ne k0], by rw [sf_j (by omega), sf_ne (by omega), sf_j (by omega)]⟩, fun k hk => by rw [sf_ne (by omega), sf_ne (by omega), sf_ne (by omega)], fun k hk => by rw [sf_ne (by omega), sf_j (by omega), sf_ne (by omega)]⟩ ⟨by rw [sf_j (by omega), sf_ne (by omega), sf_j (by omega)]; exact a.1, sf_e rfl rfl, by rw [sf_j (by omega), sf_ne (by omega), sf_e rfl rfl]; exact nI_1 O⟩ (by rw [sf_ne (by omega), sf_e rfl rfl, hc])
  unfold P_X10_opens
  rcases h with h | h
  · exact ⟨fun _ => body, fun z => absurd (by rw [hc, h]; rfl) z⟩
  · exact ⟨fun z => absurd ((eq_nI (b := 33) (by omega) (by omega)).mp z) (by omega), fun _ => ⟨fun z => absurd (by rw [hc, h]; rfl) z, fun _ => body⟩⟩
theorem open_full {p L T : Nat} {M : Mem} (hX : RX K r u Q X) (hn : n ≤ 50) (hu : u < 2) (tp : TPc n bs M) (a : At r L T 5 M) (hp : p < n) (h : bs p = 33 ∨ bs p = 40) (k : Q (nI p) M) : X (nI 1) (nI p) M := by
  have c255 : bs p ≤ 255 := by omega
  have dg : ¬ (48 ≤ bs p ∧ bs p ≤ 57) := by omega
  refine rb_in hX tp hn hp (fun _ => c_isD c255 ?_) (fun z => absurd z (by decide))
  rw [if_neg dg]
  refine ⟨fun _ => c_isN hu c255 ?_, fun z => absurd rfl z⟩
  rw [if_pos (nm_br h)]
  refine ⟨fun _ => ?_, fun z => absurd rfl z⟩
  have body : B_X10_opens_12 K r (fun v14 M15 => ((¬ v14 = 0 → X (nI 1) (nI (p + 1)) M15) ∧ (v14 = 0 → Q (nI p) M15))) (nI (bs p)) M := by
    unfold B_X10_opens_12
    rw [a.2.2]
    exact br_f (by decide) ⟨fun z => absurd rfl z, fun _ => k⟩
  unfold P_X10_opens
  rcases h with h | h
  · exact ⟨fun _ => body, fun z => absurd (by rw [h]; rfl) z⟩
  · exact ⟨fun z => absurd ((eq_nI (b := 33) (by omega) (by omega)).mp z) (by omega), fun _ => ⟨fun z => absurd (by rw [h]; rfl) z, fun _ => body⟩⟩
theorem CU_un (hX : RX K r u Q X) (hr : 69 ≤ r) (hn : n ≤ 50) (hb : ∀ i, i < n → bs i ≤ 255) (hu : u < 2) : ∀ d O, O + d = 5 → CU K r n bs Q X O (unP bs n u d) := by
  intro d
  induction d with
  | zero =>
    intro O hO p M L T hpn tp a hLT
    obtain rfl : O = 5 := by omega
    rw [unP_0]
    by_cases c : p < n ∧ (bs p = 33 ∨ bs p = 40)
    · rw [if_pos c]
      refine ⟨fun f hf k => ?_, fun v q he => sn_ne he⟩
      have := nn_e hf
      subst this
      exact open_full hX hn hu tp a c.1 c.2 (k M Fr.rf)
    · rw [if_neg c]
      exact at_ok hX hn hb hu hpn tp a hLT c
  | succ d ih =>
    intro O hO p M L T hpn tp a hLT
    rw [unP_s]
    by_cases c : p < n ∧ (bs p = 33 ∨ bs p = 40)
    · rw [if_pos c]
      have iu := ih (O + 1) (by omega)
      by_cases c40 : bs p = 40
      · rw [if_pos c40]
        have hE := CL_ei hX hr hn hb (unP_b d) iu
        have st : (∀ M3, Sm r L T M M3 → At r L (T + 1) (O + 1) M3 → M3 (r + 2) T = nI 40 → X (nI 1) (nI (p + 1)) M3) → X (nI 1) (nI p) M := open_step hX hn hu tp a hLT c.1 c40 (Or.inr rfl) (by omega)
        have tk : ∀ M3 : Mem, M3 (r + 2) T = nI 40 → TOK r 1 (T + 1) M3 := fun M3 e => Or.inr ⟨40, by omega, e, by decide, by omega⟩
        rcases ex_r (eiP bs n (unP bs n u d) (p + 1)) with ⟨e, he⟩ | ⟨v, q, he⟩
        · rw [he, bnd_n]
          refine ⟨fun f hf k => ?_, fun v q he2 => sn_ne he2⟩
          have := nn_e hf
          subst this
          exact st (fun M3 s3 a3 e3 => (hE (p + 1) M3 L (T + 1) (by omega) (tp.fr hr s3.1) a3 (by omega) (tk M3 e3)).1 e he (fun M' f' => k M' (s3.1.tr f')))
        · rw [he, bnd_s]
          have b := (eiP_b (bs := bs) (unP_b (bs := bs) (n := n) (u := u) d) (p + 1) (by omega)).1 v q he
          by_cases c41 : q < n ∧ bs q = 41
          · rw [if_pos c41]
            refine ⟨fun f hf => ns_ne hf, fun v2 q2 he2 k => ?_⟩
            obtain ⟨rfl, rfl⟩ := ss_e he2
            refine st (fun M3 s3 a3 e3 => (hE (p + 1) M3 L (T + 1) (by omega) (tp.fr hr s3.1) a3 (by omega) (tk M3 e3)).2 v q he (fun M4 s4 o4 pd4 nx4 => ?_))
            have tp4 := (tp.fr hr s3.1).fr hr s4.1
            refine rb_in hX tp4 hn c41.1 (fun z => absurd rfl z) (fun _ => ⟨fun z => absurd (by rw [c41.2]; rfl) z, fun _ => ?_⟩)
            unfold P_X10_closes
            refine pd4 _ (fun M5 L5 s5 a5 hb5 sg5 => ?_)
            rw [a5.2.1]
            refine br_t (nI_lt (a := 0) (by omega) (by omega)) ?_
            rintro _ rfl _ rfl
            rw [nI_pred, sf_j (by omega), a5.2.2]
            rintro _ rfl _ rfl
            rw [nI_pred]
            have hs5 := sg5.1
            have s15 : Sm r L T M M5 := (s3.tr s4 (Nat.le_refl _) (by omega)).tr s5 (Nat.le_refl _) (by omega)
            refine cn_mono (fun M7 h7 => ⟨fun z => absurd z (by decide), fun _ => h7⟩) (k _ L5 (s15.tr (L' := L) (T' := T) ⟨⟨fun k k0 k1 k2 => by rw [sf_ne k0, sf_ne k0], by rw [sf_j (by omega), sf_j (by omega)]⟩, fun k hk => by rw [sf_ne (by omega), sf_ne (by omega)], fun k hk => by rw [sf_ne (by omega), sf_ne (by omega)]⟩ (Nat.le_refl _) (Nat.le_refl _)) ⟨by rw [sf_j (by omega), sf_j (by omega)]; exact a5.1, by rw [sf_j (by omega), sf_e rfl rfl], sf_e rfl rfl⟩ (by omega) (sg5.cg (fun k k1 k2 => by rw [sf_ne (by omega), sf_ne (by omega)])))
          · rw [if_neg c41]
            refine ⟨fun f hf k => ?_, fun v q he2 => sn_ne he2⟩
            have := nn_e hf
            subst this
            refine st (fun M3 s3 a3 e3 => (hE (p + 1) M3 L (T + 1) (by omega) (tp.fr hr s3.1) a3 (by omega) (tk M3 e3)).2 v q he (fun M4 s4 o4 pd4 nx4 => ?_))
            have tp4 := (tp.fr hr s3.1).fr hr s4.1
            by_cases hq : q < n
            · exact stuck hX hn hb tp4 hq (fun e => c41 ⟨hq, e⟩) nx4 (fun M' f' => k M' ((s3.1.tr s4.1).tr f'))
            · obtain rfl : q = n := by omega
              exact rn_end1 hX tp4 (Nat.le_refl _) hn o4 (by omega) (k M4 (s3.1.tr s4.1))
      · rw [if_neg c40]
        have c33 : bs p = 33 := by omega
        have st : (∀ M3, Sm r L T M M3 → At r L (T + 1) (O + 1) M3 → M3 (r + 2) T = nI 33 → X (nI 1) (nI (p + 1)) M3) → X (nI 1) (nI p) M := open_step hX hn hu tp a hLT c.1 c33 (Or.inl rfl) (by omega)
        rcases ex_r (unP bs n u d (p + 1)) with ⟨e, he⟩ | ⟨v, q, he⟩
        · rw [he, bnd_n]
          refine ⟨fun f hf k => ?_, fun v q he2 => sn_ne he2⟩
          have := nn_e hf
          subst this
          exact st (fun M3 s3 a3 e3 => (iu (p + 1) M3 L (T + 1) (by omega) (tp.fr hr s3.1) a3 (by omega)).1 e he (fun M' f' => k M' (s3.1.tr f')))
        · rw [he, bnd_s]
          have b := (unP_b (bs := bs) (n := n) (u := u) d (p + 1) (by omega)).1 v q he
          refine ⟨fun f hf => ns_ne hf, fun v2 q2 he2 k => ?_⟩
          obtain ⟨rfl, rfl⟩ := ss_e he2
          refine st (fun M3 s3 a3 e3 => (iu (p + 1) M3 L (T + 1) (by omega) (tp.fr hr s3.1) a3 (by omega)).2 v q he (fun M4 L4 s4 a4 hb4 sg4 => ?_))
          have hs4 := sg4.1
          refine cn_step a4.1 a4.2.1 a4.2.2 (by rw [s4.2.2 T (by omega)]; exact e3) (by omega) (by omega) ?_
          have s14 : Sm r L T M M4 := s3.tr s4 (Nat.le_refl _) (by omega)
          refine k _ (L4 + 1) (s14.tr (L' := L) (T' := T) ⟨⟨fun k k0 k1 k2 => by rw [sf_ne k0, sf_ne k1, sf_ne k0, sf_ne k0], by rw [sf_j (by omega), sf_ne (by omega), sf_j (by omega), sf_j (by omega)]⟩, fun k hk => by rw [sf_ne (by omega), sf_j (by omega), sf_ne (by omega), sf_ne (by omega)], fun k hk => by rw [sf_ne (by omega), sf_ne (by omega), sf_ne (by omega), sf_ne (by omega)]⟩ (Nat.le_refl _) (Nat.le_refl _)) ⟨sf_e rfl rfl, by rw [sf_j (by omega), sf_ne (by omega), sf_j (by omega), sf_e rfl rfl], by rw [sf_j (by omega), sf_ne (by omega), sf_e rfl rfl]⟩ (by omega) ?_
          exact Seg.no (sg4.cg (fun k k1 k2 => by rw [sf_ne (by omega), sf_j (by omega), sf_ne (by omega), sf_ne (by omega)])) (by rw [sf_ne (by omega), sf_e rfl rfl])
    · rw [if_neg c]
      exact at_ok hX hn hb hu hpn tp a hLT c
end RD3
/-- a whole text: a fault, or what it gives -/
def txP (bs : Nat → Nat) (n u : Nat) : Option V3 × Nat := bnd (eiP bs n (unP bs n u 5) 0) (fun v q => if q < n then (none, q) else (some v, q))
theorem c_read {K r n u : Nat} {bs : Nat → Nat} {M : Mem} {Q : Int32 → Mem → Prop} (hr : 69 ≤ r) (hn : n ≤ 50) (hb : ∀ i, i < n → bs i ≤ 255) (hu : u < 2) (tp : TPc n bs M) (a : At r 0 0 0 M)
    (hf : ∀ f, txP bs n u = (none, f) → ∀ M', Fr r M M' → Q (nI f) M') (hv : ∀ v q, txP bs n u = (some v, q) → ∀ M' L, Fr r M M' → L ≤ 50 → M' r 3 = nI L → Seg (M' (r + 1)) 0 L v → Q (-1) M') : P_X10_read K M r 38 (nI u) Q := by
  have main : B_X10_read_18 K r 38 Q u 1 0 M := by
    unfold B_X10_read_18
    intro X hX
    have hX : RX K r u Q X := hX
    have hE := CL_ei (O := 0) hX hr hn hb (unP_b 5) (CU_un hX hr hn hb hu 5 0 (by omega))
    have h0 := hE 0 M 0 0 (by omega) tp a (by omega) (Or.inl rfl)
    unfold txP at hf hv
    rcases ex_r (eiP bs n (unP bs n u 5) 0) with ⟨e, he⟩ | ⟨v, q, he⟩
    · rw [he, bnd_n] at hf
      exact h0.1 e he (fun M' f' => hf e rfl M' f')
    · rw [he, bnd_s] at hf hv
      have b := (eiP_b (bs := bs) (unP_b (bs := bs) (n := n) (u := u) 5) 0 (by omega)).1 v q he
      refine h0.2 v q he (fun M4 s4 o4 pd4 nx4 => ?_)
      have tp4 := tp.fr hr s4.1
      by_cases hq : q < n
      · rw [if_pos hq] at hf
        by_cases c41 : bs q = 41
        · refine rb_in hX tp4 hn hq (fun z => absurd rfl z) (fun _ => ⟨fun z => absurd (by rw [c41]; rfl) z, fun _ => ?_⟩)
          unfold P_X10_closes
          refine pd4 _ (fun M5 L5 s5 a5 hb5 sg5 => ?_)
          rw [a5.2.1]
          exact br_f (by decide) ⟨fun _ => hf q rfl M5 (s4.1.tr s5.1), fun z => absurd rfl z⟩
        · exact stuck hX hn hb tp4 hq c41 nx4 (fun M' f' => hf q rfl M' (s4.1.tr f'))
      · rw [if_neg hq] at hv
        obtain rfl : q = n := by omega
        exact rn_end0 hX tp4 (Nat.le_refl _) hn o4 (pd4 _ (fun M5 L5 s5 a5 hb5 sg5 => hv v q rfl M5 L5 (s4.1.tr s5.1) (by omega) a5.1 sg5))
  unfold P_X10_read B_X10_read_11
  rcases (show u = 0 ∨ u = 1 by omega) with rfl | rfl
  · exact ⟨fun z => absurd rfl z, fun _ => main⟩
  · exact ⟨fun _ => main, fun z => absurd z (by decide)⟩
