/-! ===== what holds at the law's start ===== -/
theorem lz_1 {w : Cond} {i : Nat} (h : tables_1_1[i]? = some w) : w ∈ lw_tbl := List.mem_append_right _ (List.mem_append_left _ (List.mem_of_getElem? h))
theorem lz_3 {w : Cond} {i : Nat} (h : tables_1_3[i]? = some w) : w ∈ lw_tbl := List.mem_append_right _ (List.mem_append_right _ (List.mem_append_right _ (List.mem_append_left _ (List.mem_of_getElem? h))))
theorem lz_4 {w : Cond} {i : Nat} (h : tables_1_4[i]? = some w) : w ∈ lw_tbl := List.mem_append_right _ (List.mem_append_right _ (List.mem_append_right _ (List.mem_append_right _ (List.mem_append_left _ (List.mem_of_getElem? h)))))
theorem lz_7 {w : Cond} {i : Nat} (h : tables_1_7[i]? = some w) : w ∈ lw_tbl := List.mem_append_right _ (List.mem_append_right _ (List.mem_append_right _ (List.mem_append_right _ (List.mem_append_right _ (List.mem_append_right _ (List.mem_append_right _ ((List.mem_of_getElem? h))))))))
set_option maxRecDepth 100000 in
set_option maxHeartbeats 4000000 in
theorem sw_Dc {s : State} {args : Array Value} (hts : ∀ w ∈ TB, w.before args s = true) : ∃ D : va_G, ∀ (c : Nat) (q : vw_C), vwCl[c]? = some q → u_Kn s q.1 q.2.1 q.2.2 (D.1 c) (D.2 c) := by
  obtain ⟨c0, i0, h0⟩ := u_known hts in_X0 (hts _ tw_1_69)
  obtain ⟨c1, i1, h1⟩ := u_known hts in_X1 (hts _ tw_1_93)
  obtain ⟨c2, i2, h2⟩ := u_known hts in_X2 (hts _ tw_1_117)
  obtain ⟨c3, i3, h3⟩ := u_known hts in_X3 (hts _ tw_1_58)
  obtain ⟨c4, i4, h4⟩ := u_known hts in_X4 (hts _ tw_1_35)
  obtain ⟨c5, i5, h5⟩ := u_known hts in_X5 (hts _ tw_1_213)
  obtain ⟨c6, i6, h6⟩ := u_known hts in_X6 (hts _ tw_1_85)
  obtain ⟨c7, i7, h7⟩ := u_known hts in_X7 (hts _ tw_1_77)
  obtain ⟨c8, i8, h8⟩ := u_known hts in_X8 (hts _ tw_1_109)
  obtain ⟨c9, i9, h9⟩ := u_known hts in_X9 (hts _ tw_1_101)
  obtain ⟨c10, i10, h10⟩ := u_known hts in_X10 (hts _ tw_3_77)
  obtain ⟨c11, i11, h11⟩ := u_known hts in_X11 (hts _ tw_1_24)
  obtain ⟨c12, i12, h12⟩ := u_known hts in_X12 (hts _ tw_5_93)
  refine ⟨((fun k => match k with | 0 => c0 | 1 => c1 | 2 => c2 | 3 => c3 | 4 => c4 | 5 => c5 | 6 => c6 | 7 => c7 | 8 => c8 | 9 => c9 | 10 => c10 | 11 => c11 | _ => c12), (fun k => match k with | 0 => i0 | 1 => i1 | 2 => i2 | 3 => i3 | 4 => i4 | 5 => i5 | 6 => i6 | 7 => i7 | 8 => i8 | 9 => i9 | 10 => i10 | 11 => i11 | _ => i12)), fun c q h => ?_⟩
  have hc : c < 13 := (List.getElem?_eq_some_iff.mp h).1
  rcases (show c = 0 ∨ c = 1 ∨ c = 2 ∨ c = 3 ∨ c = 4 ∨ c = 5 ∨ c = 6 ∨ c = 7 ∨ c = 8 ∨ c = 9 ∨ c = 10 ∨ c = 11 ∨ c = 12 by omega) with rfl | rfl | rfl | rfl | rfl | rfl | rfl | rfl | rfl | rfl | rfl | rfl | rfl
  · obtain rfl := Option.some.inj (show some (RX0, TX0, 1) = some q from h)
    exact h0
  · obtain rfl := Option.some.inj (show some (RX1, TX1, 1) = some q from h)
    exact h1
  · obtain rfl := Option.some.inj (show some (RX2, TX2, 19) = some q from h)
    exact h2
  · obtain rfl := Option.some.inj (show some (RX3, TX3, 1) = some q from h)
    exact h3
  · obtain rfl := Option.some.inj (show some (RX4, TX4, 3) = some q from h)
    exact h4
  · obtain rfl := Option.some.inj (show some (RX5, TX5, 10) = some q from h)
    exact h5
  · obtain rfl := Option.some.inj (show some (RX6, TX6, 1) = some q from h)
    exact h6
  · obtain rfl := Option.some.inj (show some (RX7, TX7, 1) = some q from h)
    exact h7
  · obtain rfl := Option.some.inj (show some (RX8, TX8, 1) = some q from h)
    exact h8
  · obtain rfl := Option.some.inj (show some (RX9, TX9, 1) = some q from h)
    exact h9
  · obtain rfl := Option.some.inj (show some (RX10, TX10, 7) = some q from h)
    exact h10
  · obtain rfl := Option.some.inj (show some (RX11, TX11, 11) = some q from h)
    exact h11
  · obtain rfl := Option.some.inj (show some (RX12, TX12, 29) = some q from h)
    exact h12
theorem sw_Rc {s : State} {args : Array Value} {C : String} (h : (Cond.arrayOver (.object C)).before args s = true) : ∃ cA : ClassId, ArrOfT s cA (.object C) ∧ va_RA s cA (.object C) := by
  obtain ⟨comp, c, k, h1, -, h3, h4, h5⟩ := Cond.arrayOver_spec h
  exact ⟨c, fun N z => ⟨(fun k h => by cases h), k, h3, comp, h4⟩, k, comp, h3, h4, h1, h5⟩
theorem sw_Ic {s : State} {args : Array Value} (h : (Cond.arrayClass .int).before args s = true) : ∃ cA : ClassId, ArrOfT s cA .int ∧ va_RA s cA .int := by
  obtain ⟨c, k, comp, h1, h2, h3⟩ := Cond.arrayClass_spec h
  exact ⟨c, fun N z => ⟨(fun k h => by cases h), k, h2, comp, h3⟩, h1⟩
set_option maxRecDepth 100000 in
set_option maxHeartbeats 4000000 in
theorem st_KK {s : State} {args : Array Value} (hlw : ∀ w ∈ lw_tbl, w.before args s = true) : ∃ (T : Nat → ClassId) (D : va_G), KK T D s := by
  obtain ⟨D, hD⟩ := sw_Dc (tb_hts hlw)
  obtain ⟨cI, i1, i2⟩ := sw_Ic (hlw _ (lz_1 (i := 57) rfl))
  obtain ⟨cL, l1, l2⟩ := sw_Rc (C := "OneOfTwo$Lodger") (hlw _ (lz_1 (i := 32) rfl))
  obtain ⟨cR, r1, r2⟩ := sw_Rc (C := "OneOfTwo$Row") (hlw _ (lz_1 (i := 34) rfl))
  obtain ⟨cT, t1, t2⟩ := sw_Rc (C := "OneOfTwo$Text") (hlw _ (lz_1 (i := 126) rfl))
  refine ⟨(fun k => match k with | 0 => cI | 1 => cL | 2 => cR | _ => cT), D, ⟨hD, fun k q h => ?_⟩, va_Nw.of rfl (hlw _ (lz_7 (i := 137) rfl)), va_Nw.of rfl (hlw _ (lz_7 (i := 138) rfl)), va_Nw.of rfl (hlw _ (lz_7 (i := 139) rfl)), va_Nw.of rfl (hlw _ (lz_7 (i := 140) rfl)), va_Nw.of rfl (hlw _ (lz_7 (i := 141) rfl)), va_Nw.of rfl (hlw _ (lz_7 (i := 142) rfl))⟩
  have hk : k < 4 := (List.getElem?_eq_some_iff.mp h).1
  rcases (show k = 0 ∨ k = 1 ∨ k = 2 ∨ k = 3 by omega) with rfl | rfl | rfl | rfl
  · obtain rfl := Option.some.inj (show some (cI, FieldType.int) = some q from h)
    exact ⟨i1, i2⟩
  · obtain rfl := Option.some.inj (show some (cL, FieldType.object "OneOfTwo$Lodger") = some q from h)
    exact ⟨l1, l2⟩
  · obtain rfl := Option.some.inj (show some (cR, FieldType.object "OneOfTwo$Row") = some q from h)
    exact ⟨r1, r2⟩
  · obtain rfl := Option.some.inj (show some (cT, FieldType.object "OneOfTwo$Text") = some q from h)
    exact ⟨t1, t2⟩
theorem st_AO {s : State} {args : Array Value} (hlw : ∀ w ∈ lw_tbl, w.before args s = true) : AOs s :=
  ⟨va_AO.of (hlw _ (lz_1 (i := 32) rfl)), va_AO.of (hlw _ (lz_1 (i := 34) rfl)), va_AO.of (hlw _ (lz_1 (i := 126) rfl))⟩
def sTm (i : Nat) : Term := if i = 0 then .string "OneOfTwo$Text" 34 else .string "OneOfTwo$Text" 36
set_option maxRecDepth 100000 in
set_option maxHeartbeats 4000000 in
theorem st_XS {s : State} {args : Array Value} (hlw : ∀ w ∈ lw_tbl, w.before args s = true) (hgv : (Jvm.Cond.and given_1 narrow_1).before args s = true) : ∃ SA : Nat → Nat, XS SA (fun q => s.heap.size ≤ q) s s.heap := by
  have hs := flat_of_before _ hgv
  have hA : ∀ a : Nat, a < s.heap.size → ¬ (s.heap.size ≤ a) := fun a h => Nat.not_le.mpr h
  obtain ⟨t0, e0, hT0⟩ := va_Tof (args := args) (s := s) (ty := .int) (N := 7) (f := fun j => .int (kAbove j)) (A := fun q => s.heap.size ≤ q) (tm := .static "OneOfTwo" "KIND_ABOVE" "[I") (by decide) (hs _ (by decide +kernel)) (va_eqt (hs _ (by decide +kernel))) (fun j hj => by
    rcases (show j = 0 ∨ j = 1 ∨ j = 2 ∨ j = 3 ∨ j = 4 ∨ j = 5 ∨ j = 6 by omega) with rfl | rfl | rfl | rfl | rfl | rfl | rfl <;> exact va_eqt (hs _ (by decide +kernel))) hA
  have hZ0 := va_Zof (C := "OneOfTwo") (n := "KIND_ABOVE") (d := "[I") (A := fun q => s.heap.size ≤ q) (hlw _ (lz_3 (i := 47) rfl)) (hlw _ (lz_1 (i := 1) rfl)) e0 hA
  have e1 : (Term.static "java/lang/String" "COMPACT_STRINGS" "Z").eval args s none [] s = some (.int 1) := va_eqt (hs _ (by decide +kernel))
  have hZ1 := va_Zof (C := "java/lang/String") (n := "COMPACT_STRINGS") (d := "Z") (A := fun q => s.heap.size ≤ q) (hlw _ (lz_3 (i := 169) rfl)) (hlw _ (lz_1 (i := 16) rfl)) e1 hA
  obtain ⟨aK, aV, hS, hev⟩ := vk_Sof (args := args) (s := s) (N := 2) (tm := sTm) (len := [3, 3]) (byt := sByt) (A := fun q => s.heap.size ≤ q)
    (fun i hi => by rcases (show i = 0 ∨ i = 1 by omega) with rfl | rfl <;> decide)
    (fun i hi => by rcases (show i = 0 ∨ i = 1 by omega) with rfl | rfl <;> exact hs _ (by decide +kernel))
    (fun i hi => by rcases (show i = 0 ∨ i = 1 by omega) with rfl | rfl <;> exact hs _ (by decide +kernel))
    (fun i hi => by rcases (show i = 0 ∨ i = 1 by omega) with rfl | rfl <;> exact hs _ (by decide +kernel))
    (fun i hi => by rcases (show i = 0 ∨ i = 1 by omega) with rfl | rfl <;> exact hs _ (by decide +kernel))
    (fun i hi j hj => by
      rw [s3 hi] at hj
      rcases (show i = 0 ∨ i = 1 by omega) with rfl | rfl <;> rcases (show j = 0 ∨ j = 1 ∨ j = 2 by omega) with rfl | rfl | rfl <;> exact hs _ (by decide +kernel))
    (fun i j hi hj hij => by
      rcases (show i = 0 ∨ i = 1 by omega) with rfl | rfl <;> rcases (show j = 0 ∨ j = 1 by omega) with rfl | rfl
      · exact absurd rfl hij
      · exact Or.inl (hs _ (by decide +kernel))
      · exact Or.inr (hs _ (by decide +kernel))
      · exact absurd rfl hij) hA
  refine ⟨(fun k => match k with | 0 => t0 | 1 => aK 0 | 2 => aK 1 | 3 => aV 0 | _ => aV 1), hZ0, hT0, hZ1, ⟨fun i hi => ?_, fun i j hi hj h => ?_⟩, vk_R.of (hlw _ (lz_3 (i := 110) rfl)) (hev 0 (by decide)), vk_R.of (hlw _ (lz_3 (i := 111) rfl)) (hev 1 (by decide))⟩
  · rcases (show i = 0 ∨ i = 1 by omega) with rfl | rfl
    · exact hS.1 0 (by decide)
    · exact hS.1 1 (by decide)
  · rcases (show i = 0 ∨ i = 1 by omega) with rfl | rfl <;> rcases (show j = 0 ∨ j = 1 by omega) with rfl | rfl
    · rfl
    · exact hS.2 0 1 (by decide) (by decide) h
    · exact hS.2 1 0 (by decide) (by decide) h
    · rfl
/-! ===== the loop of the law ===== -/
theorem gt_end {L k : Nat} (hL : L ≤ 3072) (hk : k ≤ 4000) : (nI L - 6 < nI k ↔ L < k + 6) := by
  have h1 : (nI L - 6).toInt = (L : Int) - 6 := pk_sub_toInt (a := L) (b := 6) (by omega) (by omega)
  have h2 : (nI k).toInt = (k : Int) := nI_toInt (by omega)
  rw [Int32.lt_iff_toInt_lt, h1, h2]
  omega

set_option maxRecDepth 100000 in
set_option maxHeartbeats 4000000 in
theorem lw_loop {p : Program} {l : Launch} {e : Env} {s : State} {m : MethodId} {args : Array Value} {below : List Frame} {meth : Method} {c : Code} {Q : State → Prop} {T : Nat → ClassId} {D : va_G} {am : Nat → Nat} {b L : Nat} {xs : Nat → Int32} {SA : Nat → Nat} {Inv : Nat → Nat → Mem → Mem → Prop} (C : Cx T D p s m args c code 4 "OneOfTwoLaw") (hX : va_X b L xs s s.heap) (hbl : b < s.heap.size) (hL : L ≤ 3072) (hXS : XS SA (fun q => s.heap.size ≤ q) s s.heap) (hO : AOs s) (hok : LOK Inv)
    (fin : ∀ (H : Heap) (locs : List Loc) (ls : Array Slot), (∀ q ∈ locs, s.heap.size ≤ q.base) → W p l e room_1 s m args below meth c H locs 600000 7302250 Q (F0 m 1482 ls [])) :
    ∀ (f n K : Nat) (ad : Nat → Nat) (Mc Mm : Mem) (H : Heap) (locs : List Loc) (ls : Array Slot), L < 6 * n + 6 * f → 6 * n ≤ L → Inv n K Mc Mm → LZ T D ad K am s Mc Mm H locs → lv_has ls 4 [(0, .ref b), (1, .ref (ad 0)), (2, .ref (am 0)), (3, .int (nI (6 * n)))] → W p l e room_1 s m args below meth c H locs (85 + 3 * n) (4389 + 107 * n) Q (F0 m 18 ls []) := by
  have hx := C.x
  have hb := C.b
  intro f
  induction f with
  | zero => intro n K ad Mc Mm H locs ls h1 h2; omega
  | succ f ih =>
    intro n K ad Mc Mm H locs ls h1 h2 hI Z hl
    have hroom1 : 85 + 3 * n + 3 ≤ room_1.cells := by show 85 + 3 * n + 3 ≤ 600000; omega
    have hroom2 : 4389 + 107 * n + 107 ≤ room_1.slots := by show 4389 + 107 * n + 107 ≤ 7302250; omega
    refine lv_iload_n hx hb dL_law_18 rfl (lv_at hl 3 rfl) ?_
    refine lv_aload_n hx hb dL_law_19 rfl (lv_at hl 0 rfl) ?_
    refine va_slen C.1.1 C.1.2.1 hX hbl (Nat.not_le.mpr hbl) Z.2.2.2.2.2.2.2 dL_law_20 ?_
    refine lv_bipush (v := 6) hx hb dL_law_21 (by decide) ?_
    refine lv_isub hx hb dL_law_23 ?_
    refine lv_icmp_gt (tgt := 1482) hx hb dL_law_24 (by decide) (fun _ => ?_) (fun q => ?_)
    · exact W.widen (k := 600000) (n := 7302250) (by omega) (by omega) (fin H locs ls Z.2.2.2.2.2.2.2.2.2)
    have hk : 6 * n + 6 ≤ L := by
      have := mt (gt_end (L := L) (k := 6 * n) hL (by omega)).mpr q
      omega
    have hn : n < 512 := by omega
    refine lv_aload_n hx hb dL_law_27 rfl (lv_at hl 0 rfl) ?_
    refine lv_iload_n hx hb dL_law_28 rfl (lv_at hl 3 rfl) ?_
    refine s_ld (k := 6 * n) (j := 0) C.1 hX hbl Z.2.2.2.2.2.2.2 (by omega) hL rfl dL_law_29 ?_
    refine lv_bipush (v := 63) hx hb dL_law_30 (by decide) ?_
    refine lv_iand hx hb dL_law_32 ?_
    have nxt : ∀ (K1 : Nat) (ad1 : Nat → Nat) (Mc1 Mm1 : Mem) (H : Heap) (locs : List Loc) (ls : Array Slot), Inv (n + 1) K1 Mc1 Mm1 → LZ T D ad1 K1 am s Mc1 Mm1 H locs → lv_has ls 4 [(0, .ref b), (1, .ref (ad1 0)), (2, .ref (am 0)), (3, .int (nI (6 * n)))] → W p l e room_1 s m args below meth c H locs (85 + 3 * n + 3) (4389 + 107 * n + 107) Q (F0 m 1476 ls []) := by
      intro K1 ad1 Mc1 Mm1 H locs ls hI Z hl
      refine lv_iinc (k := 3) (v := nI (6 * (n + 1))) hx hb dL_law_1476 hl rfl (nI_add (6 * n) 6) (by decide) rfl (fun ls hl => ?_)
      refine lv_goto (tgt := 18) hx hb dL_law_1479 (by decide) ?_
      have hl : lv_has ls 4 [(0, .ref b), (1, .ref (ad1 0)), (2, .ref (am 0)), (3, .int (nI (6 * (n + 1))))] := lv_sub hl [1, 2, 3, 0] rfl
      exact W.cs (cells' := 85 + 3 * (n + 1)) (slots' := 4389 + 107 * (n + 1)) (by omega) (by omega) (ih (n + 1) K1 ad1 Mc1 Mm1 H locs ls (by omega) (by omega) hI Z hl)
    have hK := hok n K Mc Mm (xs (6 * n + 1)) (xs (6 * n + 2)) (xs (6 * n + 3)) (xs (6 * n + 4)) (xs (6 * n + 5)) hn hI
    clear ih
    obtain ⟨j, hj, ej⟩ := pk_andE (xs (6 * n + 0)) (m := 63) 6 (by decide)
    rw [ej]
    by_cases hj44 : 44 ≤ j
    · refine lv_tableOut (tgt := 1476) hx hb dL_law_33 (Or.inr (by rw [nI_toInt (by omega)]; omega)) (by decide) ?_
      exact W.widen (k := 85 + 3 * n + 3) (n := 4389 + 107 * n + 107) (by omega) (by omega) (nxt K ad Mc Mm H locs ls hK.1 Z hl)
    rcases (show j = 0 ∨ j = 1 ∨ j = 2 ∨ j = 3 ∨ j = 4 ∨ j = 5 ∨ j = 6 ∨ j = 7 ∨ j = 8 ∨ j = 9 ∨ j = 10 ∨ j = 11 ∨ j = 12 ∨ j = 13 ∨ j = 14 ∨ j = 15 ∨ j = 16 ∨ j = 17 ∨ j = 18 ∨ j = 19 ∨ j = 20 ∨ j = 21 ∨ j = 22 ∨ j = 23 ∨ j = 24 ∨ j = 25 ∨ j = 26 ∨ j = 27 ∨ j = 28 ∨ j = 29 ∨ j = 30 ∨ j = 31 ∨ j = 32 ∨ j = 33 ∨ j = 34 ∨ j = 35 ∨ j = 36 ∨ j = 37 ∨ j = 38 ∨ j = 39 ∨ j = 40 ∨ j = 41 ∨ j = 42 ∨ j = 43 by omega) with rfl | rfl | rfl | rfl | rfl | rfl | rfl | rfl | rfl | rfl | rfl | rfl | rfl | rfl | rfl | rfl | rfl | rfl | rfl | rfl | rfl | rfl | rfl | rfl | rfl | rfl | rfl | rfl | rfl | rfl | rfl | rfl | rfl | rfl | rfl | rfl | rfl | rfl | rfl | rfl | rfl | rfl | rfl | rfl
    · refine lv_tableIn (off := 191) (tgt := 224) hx hb dL_law_33 (by decide) (by decide) rfl (by decide) ?_
      exact lc_0 C hX hbl hk hL Z hXS hO hl hroom1 hroom2 hK.2.1 nxt
    · refine lv_tableIn (off := 224) (tgt := 257) hx hb dL_law_33 (by decide) (by decide) rfl (by decide) ?_
      exact lc_1 C hX hbl hk hL Z hXS hO hl hroom1 hroom2 hK.2.2.1 nxt
    · refine lv_tableIn (off := 247) (tgt := 280) hx hb dL_law_33 (by decide) (by decide) rfl (by decide) ?_
      exact lc_2 C hX hbl hk hL Z hXS hO hl hroom1 hroom2 hK.2.2.2.1 nxt
    · refine lv_tableIn (off := 260) (tgt := 293) hx hb dL_law_33 (by decide) (by decide) rfl (by decide) ?_
      exact lc_3 C hX hbl hk hL Z hXS hO hl hroom1 hroom2 hK.2.2.2.2.1 nxt
    · refine lv_tableIn (off := 293) (tgt := 326) hx hb dL_law_33 (by decide) (by decide) rfl (by decide) ?_
      exact lc_4 C hX hbl hk hL Z hXS hO hl hroom1 hroom2 hK.2.2.2.2.2.1 nxt
    · refine lv_tableIn (off := 326) (tgt := 359) hx hb dL_law_33 (by decide) (by decide) rfl (by decide) ?_
      exact lc_5 C hX hbl hk hL Z hXS hO hl hroom1 hroom2 hK.2.2.2.2.2.2.1 nxt
    · refine lv_tableIn (off := 359) (tgt := 392) hx hb dL_law_33 (by decide) (by decide) rfl (by decide) ?_
      exact lc_6 C hX hbl hk hL Z hXS hO hl hroom1 hroom2 hK.2.2.2.2.2.2.2.1 nxt
    · refine lv_tableIn (off := 392) (tgt := 425) hx hb dL_law_33 (by decide) (by decide) rfl (by decide) ?_
      exact lc_7 C hX hbl hk hL Z hXS hO hl hroom1 hroom2 hK.2.2.2.2.2.2.2.2.1 nxt
    · refine lv_tableIn (off := 425) (tgt := 458) hx hb dL_law_33 (by decide) (by decide) rfl (by decide) ?_
      exact lc_8 C hX hbl hk hL Z hXS hO hl hroom1 hroom2 hK.2.2.2.2.2.2.2.2.2.1 nxt
    · refine lv_tableIn (off := 458) (tgt := 491) hx hb dL_law_33 (by decide) (by decide) rfl (by decide) ?_
      exact lc_9 C hX hbl hk hL Z hXS hO hl hroom1 hroom2 hK.2.2.2.2.2.2.2.2.2.2.1 nxt
    · refine lv_tableIn (off := 481) (tgt := 514) hx hb dL_law_33 (by decide) (by decide) rfl (by decide) ?_
      exact lc_10 C hX hbl hk hL Z hXS hO hl hroom1 hroom2 hK.2.2.2.2.2.2.2.2.2.2.2.1 nxt
    · refine lv_tableIn (off := 514) (tgt := 547) hx hb dL_law_33 (by decide) (by decide) rfl (by decide) ?_
      exact lc_11 C hX hbl hk hL Z hXS hO hl hroom1 hroom2 hK.2.2.2.2.2.2.2.2.2.2.2.2.1 nxt
    · refine lv_tableIn (off := 547) (tgt := 580) hx hb dL_law_33 (by decide) (by decide) rfl (by decide) ?_
      exact lc_12 C hX hbl hk hL Z hXS hO hl hroom1 hroom2 hK.2.2.2.2.2.2.2.2.2.2.2.2.2.1 nxt
    · refine lv_tableIn (off := 580) (tgt := 613) hx hb dL_law_33 (by decide) (by decide) rfl (by decide) ?_
      exact lc_13 C hX hbl hk hL Z hXS hO hl hroom1 hroom2 hK.2.2.2.2.2.2.2.2.2.2.2.2.2.2.1 nxt
    · refine lv_tableIn (off := 613) (tgt := 646) hx hb dL_law_33 (by decide) (by decide) rfl (by decide) ?_
      exact lc_14 C hX hbl hk hL Z hXS hO hl hroom1 hroom2 hK.2.2.2.2.2.2.2.2.2.2.2.2.2.2.2.1 nxt
    · refine lv_tableIn (off := 646) (tgt := 679) hx hb dL_law_33 (by decide) (by decide) rfl (by decide) ?_
      exact lc_15 C hX hbl hk hL Z hXS hO hl hroom1 hroom2 hK.2.2.2.2.2.2.2.2.2.2.2.2.2.2.2.2.1 nxt
    · refine lv_tableIn (off := 659) (tgt := 692) hx hb dL_law_33 (by decide) (by decide) rfl (by decide) ?_
      exact lc_16 C hX hbl hk hL Z hXS hO hl hroom1 hroom2 hK.2.2.2.2.2.2.2.2.2.2.2.2.2.2.2.2.2.1 nxt
    · refine lv_tableIn (off := 722) (tgt := 755) hx hb dL_law_33 (by decide) (by decide) rfl (by decide) ?_
      exact lc_17 C hX hbl hk hL Z hXS hO hl hroom1 hroom2 hK.2.2.2.2.2.2.2.2.2.2.2.2.2.2.2.2.2.2.1 nxt
    · refine lv_tableIn (off := 745) (tgt := 778) hx hb dL_law_33 (by decide) (by decide) rfl (by decide) ?_
      exact lc_18 C hX hbl hk hL Z hXS hO hl hroom1 hroom2 hK.2.2.2.2.2.2.2.2.2.2.2.2.2.2.2.2.2.2.2.1 nxt
    · refine lv_tableIn (off := 798) (tgt := 831) hx hb dL_law_33 (by decide) (by decide) rfl (by decide) ?_
      exact lc_19 C hX hbl hk hL Z hXS hO hl hroom1 hroom2 hK.2.2.2.2.2.2.2.2.2.2.2.2.2.2.2.2.2.2.2.2.1 nxt
    · refine lv_tableIn (off := 821) (tgt := 854) hx hb dL_law_33 (by decide) (by decide) rfl (by decide) ?_
      exact lc_20 C hX hbl hk hL Z hXS hO hl hroom1 hroom2 hK.2.2.2.2.2.2.2.2.2.2.2.2.2.2.2.2.2.2.2.2.2.1 nxt
    · refine lv_tableIn (off := 844) (tgt := 877) hx hb dL_law_33 (by decide) (by decide) rfl (by decide) ?_
      exact lc_21 C hX hbl hk hL Z hXS hO hl hroom1 hroom2 hK.2.2.2.2.2.2.2.2.2.2.2.2.2.2.2.2.2.2.2.2.2.2.1 nxt
    · refine lv_tableIn (off := 867) (tgt := 900) hx hb dL_law_33 (by decide) (by decide) rfl (by decide) ?_
      exact lc_22 C hX hbl hk hL Z hXS hO hl hroom1 hroom2 hK.2.2.2.2.2.2.2.2.2.2.2.2.2.2.2.2.2.2.2.2.2.2.2.1 nxt
    · refine lv_tableIn (off := 890) (tgt := 923) hx hb dL_law_33 (by decide) (by decide) rfl (by decide) ?_
      exact lc_23 C hX hbl hk hL Z hXS hO hl hroom1 hroom2 hK.2.2.2.2.2.2.2.2.2.2.2.2.2.2.2.2.2.2.2.2.2.2.2.2.1 nxt
    · refine lv_tableIn (off := 923) (tgt := 956) hx hb dL_law_33 (by decide) (by decide) rfl (by decide) ?_
      exact lc_24 C hX hbl hk hL Z hXS hO hl hroom1 hroom2 hK.2.2.2.2.2.2.2.2.2.2.2.2.2.2.2.2.2.2.2.2.2.2.2.2.2.1 nxt
    · refine lv_tableIn (off := 936) (tgt := 969) hx hb dL_law_33 (by decide) (by decide) rfl (by decide) ?_
      exact lc_25 C hX hbl hk hL Z hXS hO hl hroom1 hroom2 hK.2.2.2.2.2.2.2.2.2.2.2.2.2.2.2.2.2.2.2.2.2.2.2.2.2.2.1 nxt
    · refine lv_tableIn (off := 969) (tgt := 1002) hx hb dL_law_33 (by decide) (by decide) rfl (by decide) ?_
      exact lc_26 C hX hbl hk hL Z hXS hO hl hroom1 hroom2 hK.2.2.2.2.2.2.2.2.2.2.2.2.2.2.2.2.2.2.2.2.2.2.2.2.2.2.2.1 nxt
    · refine lv_tableIn (off := 982) (tgt := 1015) hx hb dL_law_33 (by decide) (by decide) rfl (by decide) ?_
      exact lc_27 C hX hbl hk hL Z hXS hO hl hroom1 hroom2 hK.2.2.2.2.2.2.2.2.2.2.2.2.2.2.2.2.2.2.2.2.2.2.2.2.2.2.2.2.1 nxt
    · refine lv_tableIn (off := 1005) (tgt := 1038) hx hb dL_law_33 (by decide) (by decide) rfl (by decide) ?_
      exact lc_28 C hX hbl hk hL Z hXS hO hl hroom1 hroom2 hK.2.2.2.2.2.2.2.2.2.2.2.2.2.2.2.2.2.2.2.2.2.2.2.2.2.2.2.2.2.1 nxt
    · refine lv_tableIn (off := 1028) (tgt := 1061) hx hb dL_law_33 (by decide) (by decide) rfl (by decide) ?_
      exact lc_29 C hX hbl hk hL Z hXS hO hl hroom1 hroom2 hK.2.2.2.2.2.2.2.2.2.2.2.2.2.2.2.2.2.2.2.2.2.2.2.2.2.2.2.2.2.2.1 nxt
    · refine lv_tableIn (off := 1051) (tgt := 1084) hx hb dL_law_33 (by decide) (by decide) rfl (by decide) ?_
      exact lc_30 C hX hbl hk hL Z hXS hO hl hroom1 hroom2 hK.2.2.2.2.2.2.2.2.2.2.2.2.2.2.2.2.2.2.2.2.2.2.2.2.2.2.2.2.2.2.2.1 nxt
    · refine lv_tableIn (off := 1074) (tgt := 1107) hx hb dL_law_33 (by decide) (by decide) rfl (by decide) ?_
      exact lc_31 C hX hbl hk hL Z hXS hO hl hroom1 hroom2 hK.2.2.2.2.2.2.2.2.2.2.2.2.2.2.2.2.2.2.2.2.2.2.2.2.2.2.2.2.2.2.2.2.1 nxt
    · refine lv_tableIn (off := 1097) (tgt := 1130) hx hb dL_law_33 (by decide) (by decide) rfl (by decide) ?_
      exact lc_32 C hX hbl hk hL Z hXS hO hl hroom1 hroom2 hK.2.2.2.2.2.2.2.2.2.2.2.2.2.2.2.2.2.2.2.2.2.2.2.2.2.2.2.2.2.2.2.2.2.1 nxt
    · refine lv_tableIn (off := 1140) (tgt := 1173) hx hb dL_law_33 (by decide) (by decide) rfl (by decide) ?_
      exact lc_33 C hX hbl hk hL Z hXS hO hl hroom1 hroom2 hK.2.2.2.2.2.2.2.2.2.2.2.2.2.2.2.2.2.2.2.2.2.2.2.2.2.2.2.2.2.2.2.2.2.2.1 nxt
    · refine lv_tableIn (off := 1163) (tgt := 1196) hx hb dL_law_33 (by decide) (by decide) rfl (by decide) ?_
      exact lc_34 C hX hbl hk hL Z hXS hO hl hroom1 hroom2 hK.2.2.2.2.2.2.2.2.2.2.2.2.2.2.2.2.2.2.2.2.2.2.2.2.2.2.2.2.2.2.2.2.2.2.2.1 nxt
    · refine lv_tableIn (off := 1206) (tgt := 1239) hx hb dL_law_33 (by decide) (by decide) rfl (by decide) ?_
      exact lc_35 C hX hbl hk hL Z hXS hO hl hroom1 hroom2 hK.2.2.2.2.2.2.2.2.2.2.2.2.2.2.2.2.2.2.2.2.2.2.2.2.2.2.2.2.2.2.2.2.2.2.2.2.1 nxt
    · refine lv_tableIn (off := 1249) (tgt := 1282) hx hb dL_law_33 (by decide) (by decide) rfl (by decide) ?_
      exact lc_36 C hX hbl hk hL Z hXS hO hl hroom1 hroom2 hK.2.2.2.2.2.2.2.2.2.2.2.2.2.2.2.2.2.2.2.2.2.2.2.2.2.2.2.2.2.2.2.2.2.2.2.2.2.1 nxt
    · refine lv_tableIn (off := 1312) (tgt := 1345) hx hb dL_law_33 (by decide) (by decide) rfl (by decide) ?_
      exact lc_37 C hX hbl hk hL Z hXS hO hl hroom1 hroom2 hK.2.2.2.2.2.2.2.2.2.2.2.2.2.2.2.2.2.2.2.2.2.2.2.2.2.2.2.2.2.2.2.2.2.2.2.2.2.2.1 nxt
    · refine lv_tableIn (off := 1335) (tgt := 1368) hx hb dL_law_33 (by decide) (by decide) rfl (by decide) ?_
      exact lc_38 C hX hbl hk hL Z hXS hO hl hroom1 hroom2 hK.2.2.2.2.2.2.2.2.2.2.2.2.2.2.2.2.2.2.2.2.2.2.2.2.2.2.2.2.2.2.2.2.2.2.2.2.2.2.2.1 nxt
    · refine lv_tableIn (off := 1348) (tgt := 1381) hx hb dL_law_33 (by decide) (by decide) rfl (by decide) ?_
      exact lc_39 C hX hbl hk hL Z hXS hO hl hroom1 hroom2 hK.2.2.2.2.2.2.2.2.2.2.2.2.2.2.2.2.2.2.2.2.2.2.2.2.2.2.2.2.2.2.2.2.2.2.2.2.2.2.2.2.1 nxt
    · refine lv_tableIn (off := 1361) (tgt := 1394) hx hb dL_law_33 (by decide) (by decide) rfl (by decide) ?_
      exact lc_40 C hX hbl hk hL Z hXS hO hl hroom1 hroom2 hK.2.2.2.2.2.2.2.2.2.2.2.2.2.2.2.2.2.2.2.2.2.2.2.2.2.2.2.2.2.2.2.2.2.2.2.2.2.2.2.2.2.1 nxt
    · refine lv_tableIn (off := 1384) (tgt := 1417) hx hb dL_law_33 (by decide) (by decide) rfl (by decide) ?_
      exact lc_41 C hX hbl hk hL Z hXS hO hl hroom1 hroom2 hK.2.2.2.2.2.2.2.2.2.2.2.2.2.2.2.2.2.2.2.2.2.2.2.2.2.2.2.2.2.2.2.2.2.2.2.2.2.2.2.2.2.2.1 nxt
    · refine lv_tableIn (off := 1397) (tgt := 1430) hx hb dL_law_33 (by decide) (by decide) rfl (by decide) ?_
      exact lc_42 C hX hbl hk hL Z hXS hO hl hroom1 hroom2 hK.2.2.2.2.2.2.2.2.2.2.2.2.2.2.2.2.2.2.2.2.2.2.2.2.2.2.2.2.2.2.2.2.2.2.2.2.2.2.2.2.2.2.2.1 nxt
    · refine lv_tableIn (off := 1420) (tgt := 1453) hx hb dL_law_33 (by decide) (by decide) rfl (by decide) ?_
      exact lc_43 C hX hbl hk hL Z hXS hO hl hroom1 hroom2 hK.2.2.2.2.2.2.2.2.2.2.2.2.2.2.2.2.2.2.2.2.2.2.2.2.2.2.2.2.2.2.2.2.2.2.2.2.2.2.2.2.2.2.2.2 nxt
