/-- a new text's cells beside the others -/
def tnew (K : Nat) (M : Mem) (v : Int32) : Mem := fun k => if k = 69 + K then (fun j => if j = 0 then v else 0) else if k = 70 + K ∨ k = 71 + K then (fun _ => 0) else M k
def tad (K : Nat) (ad : Nat → Nat) (q : Nat) (u : Nat → Nat) : Nat → Nat := fun k => if k < 69 + K then ad k else if k = 69 + K then q else u (k - (70 + K))
/-- the references that the rows of references hold are of those that are there -/
def refOK (K : Nat) (M : Mem) : Prop := K % 3 = 0 ∧ ∀ g, isH g → (∀ j, j < 6 → (M (g + 5) j).toNatClampNeg < 69 + K) ∧ ∀ j, j < 2 → (M (g + 12) j).toNatClampNeg < 69 + K
theorem cSh9 : ∀ k, k < 69 → (cSh k = 0 ∨ cSh k = 1 ∨ cSh k = 2 ∨ cSh k = 3 ∨ cSh k = 4 ∨ cSh k = 5 ∨ cSh k = 6 ∨ cSh k = 7 ∨ (cSh k = 8 ∧ (k = 35 ∨ k = 48 ∨ k = 61)) ∨ (cSh k = 9 ∧ (k = 42 ∨ k = 55 ∨ k = 68))) := by decide +kernel
theorem cSh4 : ∀ k, k < 69 → (cSh k = 4 → k + 1 < 69) ∧ (cSh k = 7 → k + 12 < 69) := by decide +kernel
/-- what an entry says is the same where the addresses of the first 69 + K are -/
theorem ec_moved {T : Nat → ClassId} {D : va_G} {H : Heap} {K k a : Nat} {ad ad' : Nat → Nat} {M : Mem} (hr : refOK K M) (hk : k < 69 + K) (h : ∀ i, i < 69 + K → ad' i = ad i) (x : va_at D vwCl (a, EC T ad k (M k)) H) : va_at D vwCl (a, EC T ad' k (M k)) H := by
  obtain ⟨h3, hr⟩ := hr
  by_cases h69 : k < 69
  · unfold EC at x ⊢
    rw [if_pos h69] at x ⊢
    have hq : ∀ (n : Nat) (f : Nat → Int32), (∀ j, j < n → (f j).toNatClampNeg < 69 + K) → ∀ cA : ClassId, va_at D vwCl (a, .inl (cA, n, .inr (.inr (.inr (.inr fun i => rO ad (f i)))))) H → va_at D vwCl (a, .inl (cA, n, .inr (.inr (.inr (.inr fun i => rO ad' (f i)))))) H := by
      intro n f hf cA y
      refine vq_eq (fun j hj => ?_) y
      unfold rO
      by_cases hz : f j = 0
      · rw [if_pos hz, if_pos hz]
      · rw [if_neg hz, if_neg hz, h _ (hf j hj)]
    rcases cSh9 k h69 with e | e | e | e | e | e | e | e | ⟨e, e2⟩ | ⟨e, e2⟩ <;> rw [e] at x ⊢ <;> (try dsimp only at x ⊢)
    · have e2 : FO ad' (M k) = FO ad (M k) := by
        unfold FO
        rw [h 1 (by omega), h 2 (by omega), h 3 (by omega), h 4 (by omega), h 5 (by omega), h 7 (by omega), h 30 (by omega), h 43 (by omega), h 56 (by omega)]
      rw [e2]; exact x
    · exact vq_eq (fun j hj => by rw [h (15 + j) (by omega)]) x
    · exact x
    · exact vq_eq (fun j hj => by rw [h (22 + 2 * j) (by omega)]) x
    · have e2 : FR k ad' (M k) = FR k ad (M k) := by
        have := (cSh4 k h69).1 e
        unfold FR
        rw [h (k + 1) (by omega)]
      rw [e2]; exact x
    · have e2 : FS ad' (M k) = FS ad (M k) := by
        unfold FS
        rw [h 30 (by omega), h 8 (by omega), h 9 (by omega), h 10 (by omega), h 11 (by omega), h 12 (by omega), h 13 (by omega), h 14 (by omega)]
      rw [e2]; exact x
    · exact x
    · have e2 : FH k ad' (M k) = FH k ad (M k) := by
        have := (cSh4 k h69).2 e
        unfold FH
        rw [h (k + 1) (by omega), h (k + 2) (by omega), h (k + 3) (by omega), h (k + 4) (by omega), h (k + 5) (by omega), h (k + 6) (by omega), h (k + 7) (by omega), h (k + 8) (by omega), h (k + 10) (by omega), h (k + 12) (by omega)]
      rw [e2]; exact x
    · rcases e2 with rfl | rfl | rfl
      · exact hq 6 (M 35) (hr 30 isH_0).1 _ x
      · exact hq 6 (M 48) (hr 43 isH_1).1 _ x
      · exact hq 6 (M 61) (hr 56 isH_2).1 _ x
    · rcases e2 with rfl | rfl | rfl
      · exact hq 2 (M 42) (hr 30 isH_0).2 _ x
      · exact hq 2 (M 55) (hr 43 isH_1).2 _ x
      · exact hq 2 (M 68) (hr 56 isH_2).2 _ x
  · unfold EC at x ⊢
    rw [if_neg h69] at x ⊢
    rcases (show (k - 69) % 3 = 0 ∨ (k - 69) % 3 = 1 ∨ (k - 69) % 3 = 2 by omega) with e | e | e <;> rw [e] at x ⊢ <;> (try dsimp only at x ⊢)
    · have e2 : FT k ad' (M k) = FT k ad (M k) := by
        unfold FT
        rw [h 2 (by omega), h (k + 1) (by omega), h (k + 2) (by omega)]
      rw [e2]; exact x
    · exact x
    · exact x
/-- the world with a new text -/
theorem pw_new {T : Nat → ClassId} {D : va_G} {H : Heap} {K q : Nat} {u ad : Nat → Nat} {M : Mem} {v : Int32} (hr : refOK K M) (hP : va_P D vwCl (wsE EC T ad (69 + K) M) H)
    (hN : va_P D vwCl [(q, .inr (10, [.int v, .ref (ad 2), .ref (u 0), .int 0, .ref (u 1), .int 0, .int 0])), (u 0, .inl (T 0, 50, .inl fun _ => 0)), (u 1, .inl (T 0, 50, .inl fun _ => 0))] H) : Pw EC T D (tad K ad q u) (69 + (K + 3)) (tnew K M v) H := by
  intro k x hx
  obtain ⟨hk, rfl⟩ := ws_inv hx
  have hold : ∀ i, i < 69 + K → tad K ad q u i = ad i := fun i hi => by unfold tad; rw [if_pos hi]
  by_cases h1 : k < 69 + K
  · have hm : tnew K M v k = M k := by
      unfold tnew
      rw [if_neg (by omega), if_neg (by omega)]
    rw [hm, hold k h1]
    exact ec_moved hr h1 hold (hP k _ (ws_at h1))
  · have h3 := hr.1
    have t0 : tad K ad q u (69 + K) = q := by unfold tad; rw [if_neg (by omega), if_pos rfl]
    have t1 : tad K ad q u (70 + K) = u 0 := by unfold tad; rw [if_neg (by omega), if_neg (by omega)]; congr 1; omega
    have t2 : tad K ad q u (71 + K) = u 1 := by unfold tad; rw [if_neg (by omega), if_neg (by omega)]; congr 1; omega
    rcases (show k = 69 + K ∨ k = 70 + K ∨ k = 71 + K by omega) with rfl | rfl | rfl
    · have h := hN 0 _ rfl
      rw [t0]
      unfold EC
      rw [if_neg (by omega), show (69 + K - 69) % 3 = 0 by omega]
      try dsimp only
      have e2 : FT (69 + K) (tad K ad q u) (tnew K M v (69 + K)) = [.int v, .ref (ad 2), .ref (u 0), .int 0, .ref (u 1), .int 0, .int 0] := by
        unfold FT tnew
        rw [if_pos rfl, show 69 + K + 1 = 70 + K by omega, show 69 + K + 2 = 71 + K by omega, t1, t2, hold 2 (by omega)]
        rfl
      rw [e2]
      exact h
    · have h := hN 1 _ rfl
      rw [t1]
      unfold EC
      rw [if_neg (by omega), show (70 + K - 69) % 3 = 1 by omega]
      try dsimp only
      have e2 : tnew K M v (70 + K) = fun _ => 0 := by
        unfold tnew
        rw [if_neg (by omega), if_pos (Or.inl rfl)]
      rw [e2]
      exact h
    · have h := hN 2 _ rfl
      rw [t2]
      unfold EC
      rw [if_neg (by omega), show (71 + K - 69) % 3 = 2 by omega]
      try dsimp only
      have e2 : tnew K M v (71 + K) = fun _ => 0 := by
        unfold tnew
        rw [if_neg (by omega), if_pos (Or.inr rfl)]
      rw [e2]
      exact h
def P_X11_text (K : Nat) (M : Mem) (x1 : Int32) (Q1 : Int32 → Nat → Mem → Prop) : Prop :=
  P_X11_isUse x1 (fun v1 => (¬ v1 = 0 → vp_in x1 2 ∧ refOK K M ∧ (nI (69 + K)).toNatClampNeg = 69 + K ∧ P_X10_read (K + 3) (tnew K M (M 0 10 + 1)) (69 + K) 38 x1 (fun v2 M2 => ∀ M3 : Mem, M3 = sf M2 38 1 0 →
      ((v2 < 0 → ∀ M4 : Mem, M4 = sf M3 0 10 (M3 0 10 + 1) → ∀ M5 : Mem, M5 = sf M4 42 x1.toNatClampNeg (nI (69 + K)) → Q1 1 (K + 3) M5) ∧ (¬ v2 < 0 → Q1 (-10 - v2) (K + 3) M3)))) ∧
    (v1 = 0 → P_X11_error K M 1 (fun v M1 => Q1 v K M1)))
def QcT (T : Nat → ClassId) (D : va_G) (ad : Nat → Nat) (K sz : Nat) (Q : Int32 → Nat → Mem → Prop) : Array Value → State → Outcome → State → Prop := fun _ st o t =>
  (∃ (r : Int32) (K1 : Nat) (ad1 : Nat → Nat) (M : Mem), o = .returned (some (.int r)) ∧ Q r K1 M ∧ Pw EC T D ad1 (69 + K1) M t.heap ∧ Dd ad1 (69 + K1) ∧ (∀ k, k < 69 + K → ad1 k = ad k) ∧ K ≤ K1 ∧ ∀ k, 69 + K ≤ k → k < 69 + K1 → sz ≤ ad1 k) ∧ va_F (AA ad (69 + K) sz) st t
set_option maxRecDepth 100000 in
set_option maxHeartbeats 4000000 in
theorem c_X11_text {l : Launch} {SA : Nat → Nat} {T : Nat → ClassId} {D : va_G} {ad : Nat → Nat} {K : Nat} {M : Mem} {x1 : Int32} {sz : Nat} {Q1 : Int32 → Nat → Mem → Prop} (hB : P_X11_text K M x1 Q1) : Met l yX11_text (Cond.code yX11_text cX11_text 4 (some .int) :: TB) (RC 10 3 107) (va_Pc [.ref (ad 0), .int x1] (fun U => WxP SA EC T D ad (69 + K) M sz U ∧ AOs U)) (QcT T D ad K sz Q1) 3 107 (AA ad (69 + K) sz) := by
  refine Met.ofW (cc := cX11_text) (maxL := 4) (ret := some .int) (by decide) rfl ?_
  intro p e s m args below meth c s₁ B hml hv
  obtain ⟨rfl, ⟨⟨hsz, hP, hK, hDd⟩, hXS⟩, hO⟩ := hv
  have hts := atoms_spec (ws := Cond.code yX11_text cX11_text 4 (some .int) :: TB) B.pre
  have hl := lv_entry [.ref (ad 0), .int x1] (n := 4) (Nat.le_of_ble_eq_true rfl)
  rw [lg_entry_eq]
  have C : Cx T D p s m _ c cX11_text 4 "OneOfTwo" := ⟨⟨B.exec, B.bytes, hml, findClass_of_methodNamed B.named, fun w hw => hts w (List.mem_cons_of_mem _ hw)⟩, hK⟩
  have hr := B.returns
  have hlk := B.notSynchronized
  generalize (lg_sl [Value.ref (ad 0), Value.int x1] ++ List.replicate (4 - (lg_sl [Value.ref (ad 0), Value.int x1]).length) Slot.unset).toArray = ls at hl ⊢
  have hl : lv_has ls 4 [(0, .ref (ad 0)), (1, .int x1)] := hl
  have hx := C.x
  have hb := C.b
  have Z : Zz EC T D ad (69 + K) (AA ad (69 + K) sz) s.heap M s.heap [] := ⟨hP, hDd, fun k hk => Or.inl ⟨k, hk, rfl⟩, fun q hq => Or.inr (by rw [← hsz]; exact hq), va_S.rf⟩
  show W p l e (RC 10 3 107) s m _ below meth c s.heap [] 0 0 _ _
  delta P_X11_text at hB
  refine lv_iload_n hx hb dX11_text_0 rfl (lv_at hl 1 rfl) ?_
  refine v_X11_isUse C.1 hl.1 tw_3_73 ⟨Nat.le_of_ble_eq_true rfl, Nat.le_of_ble_eq_true rfl⟩ ⟨Nat.zero_le _, Nat.zero_le _⟩ (Nat.le_of_ble_eq_true rfl) dX11_text_1 hB (fun v1 hB => ?_)
  refine lv_if_ne (tgt := 13) hx hb dX11_text_4 (by decide) (fun q1 => ?_) (fun q1 => ?_)
  · obtain ⟨hin1, hrf, hnk, hB⟩ := hB.1 q1
    have hS := Z.2.2.2.2
    have hA := Z.2.2.2.1
    have hP := Z.1
    have hD := Z.D
    generalize hAe : AA ad (69 + K) sz = A at Z hS hA hD hXS ⊢
    refine va_new (ci := 10) (fs := [.int 0, .null, .null, .int 0, .null, .int 0, .int 0]) (C := "OneOfTwo$Text") (T := TX10) (N := 7) hx hb C.1.2.2.2.2 in_X10 tyX10 tyX10_ok C.1.2.2.2.1 (C.1.2.2.2.2 _ tw_3_76) (C.1.2.2.2.2 _ tw_3_77) (C.1.2.2.2.2 _ tw_1_15) C.2.1 hP hD hS hA rfl (fun j hj => by rcases (show j = 0 ∨ j = 1 ∨ j = 2 ∨ j = 3 ∨ j = 4 ∨ j = 5 ∨ j = 6 by omega) with rfl | rfl | rfl | rfl | rfl | rfl | rfl <;> rfl) (Nat.le_of_ble_eq_true rfl) (Nat.le_of_ble_eq_true rfl) dX11_text_13 (fun q H hP hD hS => ?_)
    refine W.cs (cells' := 1) (slots' := 7) rfl rfl ?_
    have hPo : va_P D vwCl (wsE EC T ad (69 + K) M) H := fun k x hx => hP k x (by rw [List.getElem?_append_left ((List.getElem?_eq_some_iff.mp hx).1)]; exact hx)
    have hlen : (wsE EC T ad (69 + K) M).length = 69 + K := ws_len
    have hq0 : (wsE EC T ad (69 + K) M ++ [(q, .inr (10, [.int 0, .null, .null, .int 0, .null, .int 0, .int 0]))])[69 + K]? = some (q, .inr (10, [.int 0, .null, .null, .int 0, .null, .int 0, .int 0])) := by
      rw [List.getElem?_append_right (by omega), hlen, Nat.sub_self]
      rfl
    have hPn : va_P D vwCl [(q, .inr (10, [.int 0, .null, .null, .int 0, .null, .int 0, .int 0]))] H := fun k x hx => by
      cases k with
      | zero => cases hx; exact hP _ _ hq0
      | succ k => cases hx
    have hqA : A q := hD.2 _ _ hq0
    have hqn : ∀ i, i < 69 + K → ad i ≠ q := fun i hi z => by
      have hi2 : (wsE EC T ad (69 + K) M ++ [(q, .inr (10, [.int 0, .null, .null, .int 0, .null, .int 0, .int 0]))])[i]? = some (ad i, EC T ad i (M i)) := by
        rw [List.getElem?_append_left (by omega)]
        exact ws_at hi
      have := hD.1 i (69 + K) _ _ hi2 hq0 z
      omega
    refine lv_dup hx hb dX11_text_16 rfl ?_
    refine lv_aload_n hx hb dX11_text_17 rfl (lv_at hl 0 rfl) ?_
    refine gf_X11_10 C hPo tw_2_22 dX11_text_18 ?_
    refine lv_iconst (v := 1) hx hb dX11_text_21 (by decide) ?_
    refine lv_iadd hx hb dX11_text_22 ?_
    refine lv_aload_n hx hb dX11_text_23 rfl (lv_at hl 0 rfl) ?_
    refine gf_X11_1 C hPo tw_2_13 dX11_text_24 ?_
    have hDc : va_D (fun _ => True) [(q, .inr (10, [.int 0, .null, .null, .int 0, .null, .int 0, .int 0]))] := ⟨fun i j x y hi hj _ => by
      have h1 := (List.getElem?_eq_some_iff.mp hi).1
      have h2 := (List.getElem?_eq_some_iff.mp hj).1
      simp at h1 h2
      omega, fun _ _ _ => trivial⟩
    have hFc : ∀ x, va_A [(q, .inr (10, [.int 0, .null, .null, .int 0, .null, .int 0, .int 0]))] H.size x → A x := by
      intro x h
      rcases h with ⟨k, e, h⟩ | h
      · cases k with
        | zero => cases h; exact hqA
        | succ k => cases h
      · exact hA x (Nat.le_trans hS.1 h)
    refine va_callv (va_runI (As := [.int (M 0 10 + 1), .ref (ad 2)]) (rest := [.ref q]) C.1 (c_X10_init_10 q H.size (M 0 10 + 1) (ad 2)) (cwI 2 C.1.2.2.2.2 (gdT tw_3_80) rfl rfl rfl (C.1.2.2.2.2 _ tw_1_15) (C.1.2.2.2.2 _ tw_3_78) (C.1.2.2.2.2 _ tw_3_79) rfl (by decide +kernel) ⟨Nat.le_of_ble_eq_true rfl, Nat.le_of_ble_eq_true rfl⟩) ⟨blC, fun U hU hW => ⟨rfl, by rw [hU], by rw [hU]; exact hPn, C.2.warm hW, hDc, hO.warm hW⟩⟩ rfl rfl hl.1 rfl (lv_room (Nat.le_of_ble_eq_true rfl)) dX11_text_27 ⟨Nat.le_of_ble_eq_true rfl, Nat.le_of_ble_eq_true rfl⟩) hS (fun x _ h => hFc x h) hFc (fun u t H1 locs ht hvm hw hB1 hz1 hk1 hS => ?_)
    obtain ⟨hP1, hD1⟩ := hB1
    rw [ht] at hP1
    refine W.cs (cells' := 3) (slots' := 107) rfl rfl ?_
    have hP1 : va_P D vwCl [(q, .inr (10, [.int (M 0 10 + 1), .ref (ad 2), .ref (u 0), .int 0, .ref (u 1), .int 0, .int 0])), (u 0, .inl (T 0, 50, .inl fun _ => 0)), (u 1, .inl (T 0, 50, .inl fun _ => 0))] H1 := hP1
    have hlt : ∀ i, i < 69 + K → ad i < H.size := fun i hi => (hPo i _ (ws_at hi)).lt
    have hPo1 : va_P D vwCl (wsE EC T ad (69 + K) M) H1 := hPo.kept (fun k x hx => by
      obtain ⟨hk, rfl⟩ := ws_inv hx
      refine hk1 (ad k) (hlt k hk) (fun z => ?_)
      rcases z with ⟨k2, e2, z⟩ | z
      · cases k2 with
        | zero => cases z; exact hqn k hk rfl
        | succ k2 => cases z
      · exact absurd (hlt k hk) (by omega))
    have hPn := pw_new hrf hPo1 hP1
    have hun : ∀ j, j < 2 → H.size ≤ u j ∨ u j = q := fun j hj => by
      have h2 : va_A [(q, .inr (10, [.int 0, .null, .null, .int 0, .null, .int 0, .int 0]))] H.size (u j) := by
        rcases (show j = 0 ∨ j = 1 by omega) with rfl | rfl
        · exact hD1.2 1 _ rfl
        · exact hD1.2 2 _ rfl
      rcases h2 with ⟨k2, e2, z⟩ | z
      · cases k2 with
        | zero => cases z; exact Or.inr rfl
        | succ k2 => cases z
      · exact Or.inl z
    have hu0 : u 0 ≠ q := fun z => absurd (hD1.1 1 0 _ _ rfl rfl z) (by decide)
    have hu1 : u 1 ≠ q := fun z => absurd (hD1.1 2 0 _ _ rfl rfl z) (by decide)
    have hu01 : u 0 ≠ u 1 := fun z => absurd (hD1.1 1 2 _ _ rfl rfl z) (by decide)
    have h0 : H.size ≤ u 0 := (hun 0 (by decide)).resolve_right hu0
    have h1 : H.size ≤ u 1 := (hun 1 (by decide)).resolve_right hu1
    have hqs : q < H.size := (hP _ _ hq0).lt
    have t0 : ∀ k, k < 69 + K → tad K ad q u k = ad k := fun k hk => by unfold tad; rw [if_pos hk]
    have t1 : tad K ad q u (69 + K) = q := by unfold tad; rw [if_neg (by omega), if_pos rfl]
    have t2 : tad K ad q u (70 + K) = u 0 := by unfold tad; rw [if_neg (by omega), if_neg (by omega)]; congr 1; omega
    have t3 : tad K ad q u (71 + K) = u 1 := by unfold tad; rw [if_neg (by omega), if_neg (by omega)]; congr 1; omega
    have hDd3 : Dd (tad K ad q u) (69 + (K + 3)) := by
      intro i j hi hj hij
      rcases (show i < 69 + K ∨ i = 69 + K ∨ i = 70 + K ∨ i = 71 + K by omega) with hi | rfl | rfl | rfl <;> rcases (show j < 69 + K ∨ j = 69 + K ∨ j = 70 + K ∨ j = 71 + K by omega) with hj | rfl | rfl | rfl
      · rw [t0 i hi, t0 j hj] at hij; exact hDd i j hi hj hij
      · rw [t0 i hi, t1] at hij; exact absurd hij (hqn i hi)
      · rw [t0 i hi, t2] at hij; have := hlt i hi; omega
      · rw [t0 i hi, t3] at hij; have := hlt i hi; omega
      · rw [t0 j hj, t1] at hij; exact absurd hij.symm (hqn j hj)
      · rfl
      · rw [t1, t2] at hij; exact absurd hij.symm hu0
      · rw [t1, t3] at hij; exact absurd hij.symm hu1
      · rw [t0 j hj, t2] at hij; have := hlt j hj; omega
      · rw [t1, t2] at hij; exact absurd hij hu0
      · rfl
      · rw [t2, t3] at hij; exact absurd hij hu01
      · rw [t0 j hj, t3] at hij; have := hlt j hj; omega
      · rw [t1, t3] at hij; exact absurd hij hu1
      · rw [t2, t3] at hij; exact absurd hij.symm hu01
      · rfl
    have hqsz : s.heap.size ≤ q := by
      rw [← hAe] at hqA
      rcases hqA with ⟨k, hk, z⟩ | z
      · exact absurd z.symm (hqn k hk)
      · rw [hsz]; exact z
    have hnew : ∀ k, 69 + K ≤ k → k < 69 + (K + 3) → sz ≤ tad K ad q u k := by
      intro k hk1 hk2
      rw [← hsz]
      rcases (show k = 69 + K ∨ k = 70 + K ∨ k = 71 + K by omega) with rfl | rfl | rfl
      · rw [t1]; exact hqsz
      · rw [t2]; have := hS.1; omega
      · rw [t3]; have := hS.1; omega
    have Z : Zz EC T D (tad K ad q u) (69 + (K + 3)) A s.heap (tnew K M (M 0 10 + 1)) H1 locs := ⟨hPn, hDd3, fun k hk => by
      by_cases h : k < 69 + K
      · rw [t0 k h]; exact Z.2.2.1 k h
      · exact hA _ (by rw [hsz]; exact hnew k (by omega) hk), hA, hS⟩
    have hfin : ∀ (av : Array Value) (r : Int32) (M1 : Mem) (H2 : Heap) (locs2 : List Loc) (t : State), Q1 r (K + 3) M1 → Zz EC T D (tad K ad q u) (69 + (K + 3)) A s.heap M1 H2 locs2 → t.heap = H2 → QcT T D ad K sz Q1 av s (.returned (some (.int r))) t := by
      intro av r M1 H2 locs2 t hq hz ht
      exact ⟨⟨r, K + 3, tad K ad q u, M1, rfl, hq, by rw [ht]; exact hz.1, hDd3, t0, by omega, hnew⟩, by rw [hAe]; exact hz.2.2.2.2.F ht⟩
    generalize H1 = H at Z
    have tT : isT (K + 3) (69 + K) := ⟨by omega, by have := hrf.1; omega, by omega⟩
    have a0 : ad 0 = tad K ad q u 0 := (t0 0 (by omega)).symm
    have aq : q = tad K ad q u (69 + K) := t1.symm
    rw [a0] at hl
    rw [aq]
    generalize tad K ad q u = ad' at *
    clear hP1 hPo1 hPn hP hD hPo hq0
    refine lv_astore_n (lv' := [(2, .ref (ad' (69 + K))), (0, .ref (ad' 0)), (1, .int x1)]) hx hb dX11_text_30 rfl hl (by decide) rfl (fun ls hl => ?_)
    refine lv_aload_n hx hb dX11_text_31 rfl (lv_at hl 0 rfl) ?_
    refine lv_aload_n hx hb dX11_text_32 rfl (lv_at hl 1 rfl) ?_
    refine gf_X11_5 C Z.1 tw_2_17 dX11_text_33 ?_
    refine gf_X2_16 C Z.1 isH_0 tw_1_168 dX11_text_36 ?_
    refine lv_iload_n hx hb dX11_text_39 rfl (lv_at hl 2 rfl) ?_
    refine v_X10_read C hl.1 hXS Z tT (isR_t isH_0) tw_3_106 ⟨Nat.le_of_ble_eq_true rfl, Nat.le_of_ble_eq_true rfl⟩ ⟨Nat.le_refl _, Nat.le_refl _⟩ (Nat.le_of_ble_eq_true rfl) dX11_text_40 hB (fun v2 M2 H locs hB Z => ?_)
    refine lv_istore_n (lv' := [(3, .int v2), (2, .ref (ad' (69 + K))), (0, .ref (ad' 0)), (1, .int x1)]) hx hb dX11_text_43 rfl hl (by decide) rfl (fun ls hl => ?_)
    refine lv_aload_n hx hb dX11_text_44 rfl (lv_at hl 2 rfl) ?_
    refine gf_X11_5 C Z.1 tw_2_17 dX11_text_45 ?_
    refine gf_X2_16 C Z.1 isH_0 tw_1_168 dX11_text_48 ?_
    refine lv_iconst (v := 0) hx hb dX11_text_51 (by decide) ?_
    refine pf_X4_1 C Z (isR_t isH_0) tw_1_47 dX11_text_52 (fun M3 H locs eM3 Z => ?_)
    have hB := hB M3 eM3
    refine lv_iload_n hx hb dX11_text_55 rfl (lv_at hl 0 rfl) ?_
    refine lv_if_lt (tgt := 64) hx hb dX11_text_56 (by decide) (fun q2 => ?_) (fun q2 => ?_)
    · have hB := hB.1 q2
      refine lv_aload_n hx hb dX11_text_64 rfl (lv_at hl 2 rfl) ?_
      refine lv_dup hx hb dX11_text_65 rfl ?_
      refine gf_X11_10 C Z.1 tw_2_22 dX11_text_66 ?_
      refine lv_iconst (v := 1) hx hb dX11_text_69 (by decide) ?_
      refine lv_iadd hx hb dX11_text_70 ?_
      refine pf_X11_10 C Z tw_2_22 dX11_text_71 (fun M4 H locs eM4 Z => ?_)
      have hB := hB M4 eM4
      refine lv_aload_n hx hb dX11_text_74 rfl (lv_at hl 2 rfl) ?_
      refine gf_X11_5 C Z.1 tw_2_17 dX11_text_75 ?_
      refine gf_X2_18 C Z.1 isH_0 tw_1_172 dX11_text_78 ?_
      refine lv_iload_n hx hb dX11_text_81 rfl (lv_at hl 3 rfl) ?_
      refine lv_aload_n hx hb dX11_text_82 rfl (lv_at hl 1 rfl) ?_
      rw [show (Value.ref (ad' (69 + K))) = .ref (ad' (nI (69 + K)).toNatClampNeg) from by rw [hnk]]
      refine la_st C Z isH_0 hin1 (by rw [hnk]; exact tT) rfl dX11_text_83 (fun M5 H locs eM5 Z => ?_)
      have hB := hB M5 eM5
      refine lv_iconst (v := 1) hx hb dX11_text_84 (by decide) ?_
      exact W.iret hx hb hr (fun t ht _ => hfin _ 1 M5 H locs t hB Z ht) Z.2.2.2.2.2.2 dX11_text_85 hlk
    · have hB := hB.2 q2
      refine lv_bipush (v := -10) hx hb dX11_text_59 (by decide) ?_
      refine lv_iload_n hx hb dX11_text_61 rfl (lv_at hl 0 rfl) ?_
      refine lv_isub hx hb dX11_text_62 ?_
      exact W.iret hx hb hr (fun t ht _ => hfin _ _ M3 H locs t hB Z ht) Z.2.2.2.2.2.2 dX11_text_63 hlk
  · have hB := hB.2 q1
    refine lv_aload_n hx hb dX11_text_7 rfl (lv_at hl 0 rfl) ?_
    refine lv_iconst (v := 1) hx hb dX11_text_8 (by decide) ?_
    refine v_X11_error C hl.1 Z tw_2_56 ⟨Nat.le_of_ble_eq_true rfl, Nat.le_of_ble_eq_true rfl⟩ ⟨Nat.zero_le _, Nat.zero_le _⟩ (Nat.le_of_ble_eq_true rfl) dX11_text_9 hB (fun v M1 H locs hB Z => ?_)
    refine W.widen (k := 3) (n := 107) (Nat.zero_le _) (Nat.zero_le _) ?_
    exact W.iret hx hb hr (fun t ht _ => ⟨⟨v, K, ad, M1, rfl, hB, by rw [ht]; exact Z.1, hDd, fun _ _ => rfl, Nat.le_refl _, fun k h1 h2 => absurd h2 (by omega)⟩, Z.2.2.2.2.F ht⟩) Z.2.2.2.2.2.2 dX11_text_12 hlk
