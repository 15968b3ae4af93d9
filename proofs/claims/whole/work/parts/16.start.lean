def R_law : String := "OneOfTwoLaw"
def lw_P (b : Addr) (xs : List Int32) (args : Array Value) (s : State) : Prop := args = #[.ref b] ∧ s.IntsAt b xs ∧ xs.length ≤ 3072 ∧ (Jvm.Cond.and given_1 narrow_1).before args s = true
def lw_Q (_ : Array Value) (s : State) (o : Outcome) (t : State) : Prop := o = .returned (some (.int 1)) ∧ Framed s o t [] 600000 7302250
def lw_Z (below : List Frame) (a : Array Value) (s : State) : State → Prop := fun t => ∃ o, t.status = .running ∧ Ended t below o ∧ lw_Q a s o t
/-- the law's own end, with 1 on the stack, nothing written that was there before, its room as the claim has it -/
theorem lw_ret {p : Program} {l : Launch} {e : Env} {s : State} {m : MethodId} {below : List Frame} {meth : Method} {c : Code} {b : Nat} (hx : p.tables.exec = Jvm.exec) (hb : c.code = code) (hr : meth.sig.returnType = ret) (hlocks : meth.locks = false) {pc : Nat} {H : Heap} {ls : Array Slot} (hdg : decode code pc = .ok (.ireturn, 1)) : W p l e room_1 s m #[Value.ref b] below meth c H [] 600000 7302250 (lw_Z below #[Value.ref b] s) (F0 m pc ls [.int 1]) := by
  intro T hT X
  obtain ⟨fs, hret, hrun, hended, hW, hframe⟩ := X.leave (v := some (.int 1)) (hlocks := hlocks) (fun h => by rw [hr] at h; cases h)
  have hmeth' : T.vm.method? m = some meth := X.method'
  refine ⟨T.setFrames fs, ?_, .returned (some (.int 1)), hrun, hended, rfl, ⟨_, rfl⟩, hW, hframe⟩
  jvm_step X.here [X.here.top, hx, hb, hdg, hmeth', hr, ret, narrow_b1]
  (try refine ⟨rfl, ?_⟩); (try refine ⟨rfl, ?_⟩)
  first | (intro acts; rw [hret _ acts rfl rfl rfl]) | rw [hret _ _ rfl rfl rfl]
  exact Steps.refl _
/-- what holds at the law's entry: the machine, the code, the tables' words (any of lw_tbl by 'hts w (by decide +kernel)'), the script of L ints xs at the cell b, what the Statement gives of the start (any of its parts by flat_of_before) -/
def lw_At (p : Program) (s : State) (m : MethodId) (meth : Method) (c : Code) (b L : Nat) (xs : Nat → Int32) : Prop :=
  p.tables.exec = Jvm.exec ∧ c.code = code ∧ meth.sig.returnType = ret ∧ c.maxLocals = 4 ∧ s.vm.findClass R_law = some m.cls ∧ (∀ w ∈ lw_tbl, w.before #[Value.ref b] s = true) ∧ va_X b L xs s s.heap ∧ b < s.heap.size ∧ meth.locks = false ∧ (Jvm.Cond.and given_1 narrow_1).before #[Value.ref b] s = true
theorem D_one {A : Nat → Prop} {x : Nat × va_E} (h : A x.1) : va_D A [x] :=
  ⟨fun i j p q hi hj _ => by
    have h1 := (List.getElem?_eq_some_iff.mp hi).1
    have h2 := (List.getElem?_eq_some_iff.mp hj).1
    simp only [List.length_cons, List.length_nil] at h1 h2
    omega, fun k q hk => by
    have h1 := (List.getElem?_eq_some_iff.mp hk).1
    simp only [List.length_cons, List.length_nil] at h1
    obtain rfl : k = 0 := by omega
    obtain rfl := Option.some.inj (show some x = some q from hk)
    exact h⟩
theorem P_one {D : va_G} {x : Nat × va_E} {H : Heap} (h : va_at D vwCl x H) : va_P D vwCl [x] H := fun k q hk => by
  have h1 := (List.getElem?_eq_some_iff.mp hk).1
  simp only [List.length_cons, List.length_nil] at h1
  obtain rfl : k = 0 := by omega
  obtain rfl := Option.some.inj (show some x = some q from hk)
  exact h
theorem ws_app {E : ET} {T : Nat → ClassId} {ad : Nat → Nat} {K : Nat} {M : Mem} {x : Nat × va_E} : (wsE E T ad K M ++ [x])[K]? = some x := by
  rw [List.getElem?_append_right (by rw [ws_len]; exact Nat.le_refl _), ws_len, Nat.sub_self]
  rfl
theorem ws_apl {E : ET} {T : Nat → ClassId} {ad : Nat → Nat} {K k : Nat} {M : Mem} {x : Nat × va_E} (h : k < K) : (wsE E T ad K M ++ [x])[k]? = some (ad k, E T ad k (M k)) := by
  rw [List.getElem?_append_left (by rw [ws_len]; exact h)]
  exact ws_at h
set_option maxRecDepth 100000 in
set_option maxHeartbeats 4000000 in
theorem start_of {Inv : Nat → Nat → Mem → Mem → Prop} (hok : LOK Inv) (hI : Inv 0 0 M0c M0m) {p : Program} {e : Env} {s : State} {m : MethodId} {below : List Frame} {meth : Method} {c : Code} (l : Launch) {b L : Nat} {xs : Nat → Int32} (hL : L ≤ 3072) (C0 : lw_At p s m meth c b L xs) : W p l e room_1 s m #[Value.ref b] below meth c s.heap [] 0 0 (lw_Z below #[Value.ref b] s) (entryFrame m ([Value.ref b] : List Value).toArray 4) := by
  obtain ⟨hx, hb, hr, hml, hown, hlw, hX, hbl, hlocks, hgv⟩ := C0
  obtain ⟨T, D, hKK⟩ := st_KK hlw
  obtain ⟨SA, hXS⟩ := st_XS hlw hgv
  have hO := st_AO hlw
  have C : Cx T D p s m #[Value.ref b] c code 4 "OneOfTwoLaw" := ⟨⟨hx, hb, hml, hown, tb_hts hlw⟩, hKK⟩
  have hl := lv_entry [Value.ref b] (n := 4) (Nat.le_of_ble_eq_true rfl)
  rw [lg_entry_eq]
  generalize ((lg_sl [Value.ref b] ++ List.replicate (4 - (lg_sl [Value.ref b]).length) Slot.unset).toArray) = ls at hl ⊢
  have hl : lv_has ls 4 [(0, .ref b)] := hl
  have hP : va_P D vwCl [] s.heap := fun k q h => by simp at h
  have hD : va_D (fun q => s.heap.size ≤ q) [] := ⟨fun i j p q h => by simp at h, fun k q h => by simp at h⟩
  have hS : va_S (fun q => s.heap.size ≤ q) s.heap s.heap [] := va_S.rf
  have hA : ∀ q, s.heap.size ≤ q → s.heap.size ≤ q := fun _ h => h
  refine va_new (A := fun q => s.heap.size ≤ q) (ci := 11) (fs := [.null, .null, .null, .null, .null, .null, .null, .null, .null, .int 0, .int 0]) (C := "OneOfTwo") (T := TX11) (N := 11) hx hb C.1.2.2.2.2 in_X11 tyX11 tyX11_ok C.1.2.2.2.1 (C.1.2.2.2.2 _ tw_1_23) (C.1.2.2.2.2 _ tw_1_24) (C.1.2.2.2.2 _ tw_1_1) C.2.1 hP hD hS hA rfl (fun j hj => by rcases (show j = 0 ∨ j = 1 ∨ j = 2 ∨ j = 3 ∨ j = 4 ∨ j = 5 ∨ j = 6 ∨ j = 7 ∨ j = 8 ∨ j = 9 ∨ j = 10 by omega) with rfl | rfl | rfl | rfl | rfl | rfl | rfl | rfl | rfl | rfl | rfl <;> rfl) (Nat.le_of_ble_eq_true rfl) (Nat.le_of_ble_eq_true rfl) dL_law_0 (fun q1 H hP hD hS => ?_)
  have hP : va_P D vwCl [(q1, .inr (11, [.null, .null, .null, .null, .null, .null, .null, .null, .null, .int 0, .int 0]))] H := hP
  have hD : va_D (fun q => s.heap.size ≤ q) [(q1, .inr (11, [.null, .null, .null, .null, .null, .null, .null, .null, .null, .int 0, .int 0]))] := hD
  refine lv_dup hx hb dL_law_3 rfl ?_
  have hFc := va_free (wc := [(q1, .inr (11, [.null, .null, .null, .null, .null, .null, .null, .null, .null, .int 0, .int 0]))]) hD hS hA [0] rfl
  refine va_callv (va_runI (As := []) (rest := [.ref q1]) C.1 (c_X11_init_11 q1 H.size) (cwI 0 C.1.2.2.2.2 (gdT tw_1_27) rfl rfl rfl (C.1.2.2.2.2 _ tw_1_1) (C.1.2.2.2.2 _ tw_1_25) (C.1.2.2.2.2 _ tw_1_26) rfl (by decide +kernel) ⟨(Nat.le_of_ble_eq_true rfl), (Nat.le_of_ble_eq_true rfl)⟩) ⟨blC, fun U hU hW => ⟨rfl, by rw [hU], by rw [hU]; exact hP, C.2.warm hW, hD.weaken (fun _ _ _ _ => trivial), hO.warm hW⟩⟩ rfl rfl hl.1 rfl (lv_room (Nat.le_of_ble_eq_true rfl)) dL_law_4 ⟨(Nat.le_of_ble_eq_true rfl), (Nat.le_of_ble_eq_true rfl)⟩) hS (fun q _ h => hFc q h) hFc (fun u t H1 locs ht hvm hw hB hz1 hk1 hS => ?_)
  obtain ⟨hP1, hD1⟩ := hB
  rw [ht] at hP1
  obtain ⟨hPc, hDc⟩ := c_start q1 u hP1 (hD1.weaken (fun k q h1 h2 => hFc _ h2))
  clear hP hD hP1 hD1 hFc hk1 hz1
  have e0 : q1 = adOf q1 u 0 := rfl
  refine lv_astore_n (k := 1) hx hb dL_law_7 rfl hl (by decide) rfl (fun ls hl => ?_)
  have hl : lv_has ls 4 [(1, .ref (adOf q1 u 0)), (0, .ref b)] := hl
  generalize adOf q1 u = ad at hPc hDc hl
  refine va_new (A := fun q => s.heap.size ≤ q) (ci := 12) (fs := [.null, .null, .null, .int 0, .null, .int 0, .int 0, .int 0, .int 0, .int 0, .int 0, .null, .null, .null, .null, .null, .int 0, .int 0, .int 0, .null, .int 0, .int 0, .null, .int 0, .int 0, .null, .null, .null, .null]) (C := "OneOfTwoModel") (T := TX12) (N := 29) hx hb C.1.2.2.2.2 in_X12 tyX12 tyX12_ok C.1.2.2.2.1 (C.1.2.2.2.2 _ tw_5_92) (C.1.2.2.2.2 _ tw_5_93) (C.1.2.2.2.2 _ tw_1_12) C.2.1 hPc hDc hS hA rfl (fun j hj => by rcases (show j = 0 ∨ j = 1 ∨ j = 2 ∨ j = 3 ∨ j = 4 ∨ j = 5 ∨ j = 6 ∨ j = 7 ∨ j = 8 ∨ j = 9 ∨ j = 10 ∨ j = 11 ∨ j = 12 ∨ j = 13 ∨ j = 14 ∨ j = 15 ∨ j = 16 ∨ j = 17 ∨ j = 18 ∨ j = 19 ∨ j = 20 ∨ j = 21 ∨ j = 22 ∨ j = 23 ∨ j = 24 ∨ j = 25 ∨ j = 26 ∨ j = 27 ∨ j = 28 by omega) with rfl | rfl | rfl | rfl | rfl | rfl | rfl | rfl | rfl | rfl | rfl | rfl | rfl | rfl | rfl | rfl | rfl | rfl | rfl | rfl | rfl | rfl | rfl | rfl | rfl | rfl | rfl | rfl | rfl <;> rfl) (Nat.le_of_ble_eq_true rfl) (Nat.le_of_ble_eq_true rfl) dL_law_8 (fun q2 H hP hD hS => ?_)
  refine lv_dup hx hb dL_law_11 rfl ?_
  have hP2 : va_P D vwCl [(q2, .inr (12, [.null, .null, .null, .int 0, .null, .int 0, .int 0, .int 0, .int 0, .int 0, .int 0, .null, .null, .null, .null, .null, .int 0, .int 0, .int 0, .null, .int 0, .int 0, .null, .int 0, .int 0, .null, .null, .null, .null]))] H := P_one (hP 69 _ ws_app)
  have hD2 : va_D (fun q => s.heap.size ≤ q) [(q2, .inr (12, [.null, .null, .null, .int 0, .null, .int 0, .int 0, .int 0, .int 0, .int 0, .int 0, .null, .null, .null, .null, .null, .int 0, .int 0, .int 0, .null, .int 0, .int 0, .null, .int 0, .int 0, .null, .null, .null, .null]))] := D_one (hD.2 69 _ ws_app)
  have hPc : Pw EC T D ad (69 + 0) M0c H := fun k q h => by
    obtain ⟨hk, rfl⟩ := ws_inv h
    exact hP k _ (ws_apl hk)
  have hne : ∀ i, i < 69 → ad i ≠ q2 := fun i hi h => by
    have := hD.1 i 69 _ _ (ws_apl hi) ws_app h
    omega
  have hFc := va_free (wc := [(q2, .inr (12, [.null, .null, .null, .int 0, .null, .int 0, .int 0, .int 0, .int 0, .int 0, .int 0, .null, .null, .null, .null, .null, .int 0, .int 0, .int 0, .null, .int 0, .int 0, .null, .int 0, .int 0, .null, .null, .null, .null]))]) hD2 hS hA [0] rfl
  refine va_callv (va_runI (As := []) (rest := [.ref q2]) C.1 (c_X12_init_12 q2 H.size) (cwI 0 C.1.2.2.2.2 (gdT tw_5_96) rfl rfl rfl (C.1.2.2.2.2 _ tw_1_12) (C.1.2.2.2.2 _ tw_5_94) (C.1.2.2.2.2 _ tw_5_95) rfl (by decide +kernel) ⟨(Nat.le_of_ble_eq_true rfl), (Nat.le_of_ble_eq_true rfl)⟩) ⟨blC, fun U hU hW => ⟨rfl, by rw [hU], by rw [hU]; exact hP2, C.2.warm hW, hD2.weaken (fun _ _ _ _ => trivial), hO.warm hW⟩⟩ rfl rfl hl.1 rfl (lv_room (Nat.le_of_ble_eq_true rfl)) dL_law_12 ⟨(Nat.le_of_ble_eq_true rfl), (Nat.le_of_ble_eq_true rfl)⟩) hS (fun q _ h => hFc q h) hFc (fun u2 t2 H2 locs2 ht2 hvm2 hw2 hB2 hz2 hk2 hS => ?_)
  obtain ⟨hP3, hD3⟩ := hB2
  rw [ht2] at hP3
  obtain ⟨hPm, hDm⟩ := m_start q2 u2 hP3 hD3
  have hlt : ∀ i, i < 69 → ad i < H.size := fun i hi => (hPc i _ (ws_at hi)).lt
  have hnew : ∀ i, i < 69 → ¬ va_A [(q2, .inr (12, [.null, .null, .null, .int 0, .null, .int 0, .int 0, .int 0, .int 0, .int 0, .int 0, .null, .null, .null, .null, .null, .int 0, .int 0, .int 0, .null, .int 0, .int 0, .null, .int 0, .int 0, .null, .null, .null, .null]))] H.size (ad i) := fun i hi h => by
    rcases h with ⟨k, x, hk⟩ | h
    · have h1 := (List.getElem?_eq_some_iff.mp hk).1
      simp only [List.length_cons, List.length_nil] at h1
      obtain rfl : k = 0 := by omega
      have := Option.some.inj (show some (q2, _) = some (ad i, x) from hk)
      exact hne i hi (congrArg Prod.fst this).symm
    · exact absurd (hlt i hi) (Nat.not_lt.mpr h)
  have hPc : Pw EC T D ad (69 + 0) M0c H2 := hPc.kept (fun k x hx => by
    obtain ⟨hk, rfl⟩ := ws_inv hx
    exact hk2 _ (hlt k hk) (hnew k hk))
  have hDm2 := hDm.weaken (B := fun q => s.heap.size ≤ q) (fun k q h1 h2 => hFc _ h2)
  have Z : LZ T D ad 0 (adOf q2 u2) s M0c M0m H2 locs2 := ⟨hPc, hPm, fun i j hi hj h => hDc.1 i j _ _ (ws_at hi) (ws_at hj) h, fun i j hi hj h => hDm.1 i j _ _ (ws_at hi) (ws_at hj) h, fun i j hi hj h => hnew i hi (by rw [h]; exact hDm.2 j _ (ws_at hj)), fun i hi => hDc.2 i _ (ws_at hi), fun j hj => hDm2.2 j _ (ws_at hj), hS⟩
  have e1 : q2 = adOf q2 u2 0 := rfl
  refine lv_astore_n (k := 2) hx hb dL_law_15 rfl hl (by decide) rfl (fun ls hl => ?_)
  have hl : lv_has ls 4 [(2, .ref (adOf q2 u2 0)), (1, .ref (ad 0)), (0, .ref b)] := hl
  refine lv_iconst (v := 0) hx hb dL_law_16 (by decide) ?_
  refine lv_istore_n (k := 3) hx hb dL_law_17 rfl hl (by decide) rfl (fun ls hl => ?_)
  have hl : lv_has ls 4 [(0, .ref b), (1, .ref (ad 0)), (2, .ref (adOf q2 u2 0)), (3, .int (nI (6 * 0)))] := lv_sub hl [3, 2, 1, 0] rfl
  refine W.cs (cells' := 85 + 3 * 0) (slots' := 4389 + 107 * 0) rfl rfl ?_
  exact lw_loop C hX hbl hL hXS hO hok (fun H locs ls hf => va_forget hf (lv_iconst (v := 1) hx hb dL_law_1482 (by decide) (lw_ret hx hb hr hlocks dL_law_1483))) (L + 1) 0 0 ad M0c M0m H2 locs2 ls (by omega) (by omega) hI Z hl
