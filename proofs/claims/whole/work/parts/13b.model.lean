section
variable {p : Program} {l : Launch} {e : Env} {R : Room} {s : State} {m : MethodId} {args : Array Value} {below : List Frame} {meth : Method} {c : Code} {H : Heap} {locs : List Loc} {cells slots : Nat} {QQ : State → Prop}
variable {cc : ByteArray} {nL : Nat} {own : String} {pc index : Nat} {ls : Array Slot} {rest : List Value} {T : Nat → ClassId} {D : va_G} {ad : Nat → Nat} {A : Nat → Prop} {H0 : Heap}
def P_X12_finds (M : Mem) (x1 : Int32) (Q1 : Int32 → Mem → Prop) : Prop :=
  vp_in x1 6 ∧ vp_in x1 6 ∧ ∀ M2 : Mem, M2 = sf M 4 x1.toNatClampNeg ((M 4 x1.toNatClampNeg) + 1) → Q1 ((-1000000000) - x1) M2
set_option maxRecDepth 100000 in
set_option maxHeartbeats 4000000 in
theorem c_X12_finds {l : Launch} {T : Nat → ClassId} {D : va_G} {ad : Nat → Nat} {M : Mem} {x1 : Int32} {sz : Nat} {Q1 : Int32 → Mem → Prop} (hB : P_X12_finds M x1 Q1) : Met l yX12_finds (Cond.code yX12_finds cX12_finds 2 (some .int) :: TB) (RM 1) (va_Pc [.ref (ad 0), .int x1] (WrP EM T D ad 16 M sz)) (QcW EM T D ad 16 (AA ad 16 sz) Q1) 0 0 (AA ad 16 sz) := by
  refine st_W (by decide) (Nat.le_of_ble_eq_true rfl) (fun p e s m args below meth c ls C hr hlk hsz Z hl => ?_)
  have hl : lv_has ls 2 [(0, .ref (ad 0)), (1, .int x1)] := hl
  generalize AA ad 16 sz = A at Z ⊢
  have hx := C.x
  have hb := C.b
  delta P_X12_finds at hB
  refine lv_aload_n hx hb dX12_finds_0 rfl (lv_at hl 0 rfl) ?_
  refine gf_X12_4 C Z.1 tw_5_102 dX12_finds_1 ?_
  refine lv_iload_n hx hb dX12_finds_4 rfl (lv_at hl 1 rfl) ?_
  refine lv_dup2_11 hx hb dX12_finds_5 rfl rfl ?_
  obtain ⟨q1, hB⟩ := hB
  refine a_ld C Z.1 aM_4 q1 dX12_finds_6 ?_
  refine lv_iconst (v := 1) hx hb dX12_finds_7 (by decide) ?_
  refine lv_iadd hx hb dX12_finds_8 ?_
  obtain ⟨q3, hB⟩ := hB
  refine a_st C Z aM_4 q3 dX12_finds_9 (fun M2 H locs eM2 Z => ?_)
  have hB := hB M2 eM2
  refine lv_ldc hx hb C.1.2.2.2.1 (C.1.2.2.2.2 _ tw_5_198) dX12_finds_10 ?_
  refine lv_iload_n hx hb dX12_finds_12 rfl (lv_at hl 1 rfl) ?_
  refine lv_isub hx hb dX12_finds_13 ?_
  exact e_iW C hr hlk Z dX12_finds_14 hB
set_option maxRecDepth 100000 in
set_option maxHeartbeats 4000000 in
theorem v_X12_finds {M : Mem} {x1 : Int32} {Q1 : Int32 → Mem → Prop} (C : Cx T D p s m args c cc nL own) (hls : ls.size = nL) (Z : Zz EM T D ad 16 A H0 M H locs) (hlink : Cond.methodLink own index yX12_finds ∈ TB) (hR : 1 + 1 ≤ R.frames ∧ 8 + (2 + 11) + 48 * 1 ≤ R.locals) (hcs : cells ≤ R.cells ∧ slots ≤ R.slots) (hcat : (rest.map fun v => v.category).sum ≤ 8) (hdg : decode cc pc = .ok (.invokevirtual index, 3)) (hB : P_X12_finds M x1 Q1)
    (kk : ∀ (r : Int32) (M1 : Mem) (H1 : Heap) (locs1 : List Loc), Q1 r M1 → Zz EM T D ad 16 A H0 M1 H1 locs1 → W p l e R s m args below meth c H1 locs1 cells slots QQ (F0 m (pc + 3) ls (.int r :: rest))) : W p l e R s m args below meth c H locs cells slots QQ (F0 m pc ls (.int x1 :: .ref (ad 0) :: rest)) :=
  k_VW (ci := 12) (n := 1) (c_X12_finds hB) tw_5_197 tw_5_196 tw_s_20 tw_1_12 ⟨rfl, by decide, by decide, by decide +kernel⟩ rfl rfl C hls Z oM hlink hR hcs hcat rfl hdg kk
def P_X12_in (x0 : Int64) (x2 : Int64) (x4 : Int64) (Q1 : Int32 → Prop) : Prop :=
  (((lg_cmp x0 x2) < 0 → Q1 0) ∧
    (¬ (lg_cmp x0 x2) < 0 → ((0 < (lg_cmp x0 x4) → Q1 0) ∧
      (¬ 0 < (lg_cmp x0 x4) → Q1 1))))
set_option maxRecDepth 100000 in
set_option maxHeartbeats 4000000 in
theorem c_X12_in {l : Launch} {x0 : Int64} {x2 : Int64} {x4 : Int64} {Q1 : Int32 → Prop} (hB : P_X12_in x0 x2 x4 Q1) : Met l yX12_in (Cond.code yX12_in cX12_in 6 (some .boolean) :: TB) (RM 1) (va_Pc [.long x0, .long x2, .long x4] StP) (QcR Q1) 0 0 (fun _ => False) := by
  refine st_S (by decide) (Nat.le_of_ble_eq_true rfl) (fun p e s m args below meth c ls C hr hlk hl => ?_)
  have hl : lv_has ls 6 [(0, .long x0), (2, .long x2), (4, .long x4)] := hl
  have hx := C.1
  have hb := C.2.1
  delta P_X12_in at hB
  refine lv_lload_n hx hb dX12_in_0 rfl (lv_at hl 0 rfl) ?_
  refine lv_lload_n hx hb dX12_in_1 rfl (lv_at hl 1 rfl) ?_
  refine W.lcmp hx hb dX12_in_2 ?_
  refine lv_if_lt (tgt := 17) hx hb dX12_in_3 (by decide) (fun q1 => ?_) (fun q1 => ?_)
  · have hB := hB.1 q1
    refine lv_iconst (v := 0) hx hb dX12_in_17 (by decide) ?_
    exact e_zR C hr hlk dX12_in_18 (Or.inl rfl) hB
  · have hB := hB.2 q1
    refine lv_lload_n hx hb dX12_in_6 rfl (lv_at hl 0 rfl) ?_
    refine lv_lload hx hb dX12_in_7 (lv_at hl 2 rfl) ?_
    refine W.lcmp hx hb dX12_in_9 ?_
    refine lv_if_gt (tgt := 17) hx hb dX12_in_10 (by decide) (fun q2 => ?_) (fun q2 => ?_)
    · have hB := hB.1 q2
      refine lv_iconst (v := 0) hx hb dX12_in_17 (by decide) ?_
      exact e_zR C hr hlk dX12_in_18 (Or.inl rfl) hB
    · have hB := hB.2 q2
      refine lv_iconst (v := 1) hx hb dX12_in_13 (by decide) ?_
      refine lv_goto (tgt := 18) hx hb dX12_in_14 (by decide) ?_
      exact e_zR C hr hlk dX12_in_18 (Or.inr rfl) hB
set_option maxRecDepth 100000 in
set_option maxHeartbeats 4000000 in
theorem v_X12_in {x0 : Int64} {x2 : Int64} {x4 : Int64} {Q1 : Int32 → Prop} (C : CallFix p m c cc nL s args TB own) (hls : ls.size = nL) (hlink : Cond.methodLink own index yX12_in ∈ TB) (hR : 1 + 1 ≤ R.frames ∧ 8 + (6 + 11) + 48 * 1 ≤ R.locals) (hcs : cells ≤ R.cells ∧ slots ≤ R.slots) (hcat : (rest.map fun v => v.category).sum ≤ 8) (hdg : decode cc pc = .ok (.invokestatic index, 3)) (hB : P_X12_in x0 x2 x4 Q1)
    (kk : ∀ r : Int32, Q1 r → W p l e R s m args below meth c H locs cells slots QQ (F0 m (pc + 3) ls (.int r :: rest))) : W p l e R s m args below meth c H locs cells slots QQ (F0 m pc ls (.long x4 :: .long x2 :: .long x0 :: rest)) :=
  k_S (n := 3) (c_X12_in hB) tw_5_193 tw_5_192 tw_1_12 ⟨by decide, by decide, by decide +kernel⟩ rfl C hls  hlink hR hcs hcat rfl hdg kk
def P_X12_held (x0 : Int32) (x1 : Int32) (x2 : Int32) (Q1 : Int32 → Prop) : Prop :=
  ((x1 ≤ x0 → ((x0 ≤ x2 → Q1 x0) ∧
      (¬ x0 ≤ x2 → Q1 x2))) ∧
    (¬ x1 ≤ x0 → Q1 x1))
set_option maxRecDepth 100000 in
set_option maxHeartbeats 4000000 in
theorem c_X12_held {l : Launch} {x0 : Int32} {x1 : Int32} {x2 : Int32} {Q1 : Int32 → Prop} (hB : P_X12_held x0 x1 x2 Q1) : Met l yX12_held (Cond.code yX12_held cX12_held 3 (some .int) :: TB) (RM 1) (va_Pc [.int x0, .int x1, .int x2] StP) (QcR Q1) 0 0 (fun _ => False) := by
  refine st_S (by decide) (Nat.le_of_ble_eq_true rfl) (fun p e s m args below meth c ls C hr hlk hl => ?_)
  have hl : lv_has ls 3 [(0, .int x0), (1, .int x1), (2, .int x2)] := hl
  have hx := C.1
  have hb := C.2.1
  delta P_X12_held at hB
  refine lv_iload_n hx hb dX12_held_0 rfl (lv_at hl 0 rfl) ?_
  refine lv_iload_n hx hb dX12_held_1 rfl (lv_at hl 1 rfl) ?_
  refine lv_icmp_ge (tgt := 9) hx hb dX12_held_2 (by decide) (fun q1 => ?_) (fun q1 => ?_)
  · have hB := hB.1 q1
    refine lv_iload_n hx hb dX12_held_9 rfl (lv_at hl 0 rfl) ?_
    refine lv_iload_n hx hb dX12_held_10 rfl (lv_at hl 2 rfl) ?_
    refine lv_icmp_le (tgt := 18) hx hb dX12_held_11 (by decide) (fun q2 => ?_) (fun q2 => ?_)
    · have hB := hB.1 q2
      refine lv_iload_n hx hb dX12_held_18 rfl (lv_at hl 0 rfl) ?_
      exact e_iR C hr hlk dX12_held_19 hB
    · have hB := hB.2 q2
      refine lv_iload_n hx hb dX12_held_14 rfl (lv_at hl 2 rfl) ?_
      refine lv_goto (tgt := 19) hx hb dX12_held_15 (by decide) ?_
      exact e_iR C hr hlk dX12_held_19 hB
  · have hB := hB.2 q1
    refine lv_iload_n hx hb dX12_held_5 rfl (lv_at hl 1 rfl) ?_
    refine lv_goto (tgt := 19) hx hb dX12_held_6 (by decide) ?_
    exact e_iR C hr hlk dX12_held_19 hB
set_option maxRecDepth 100000 in
set_option maxHeartbeats 4000000 in
theorem v_X12_held {x0 : Int32} {x1 : Int32} {x2 : Int32} {Q1 : Int32 → Prop} (C : CallFix p m c cc nL s args TB own) (hls : ls.size = nL) (hlink : Cond.methodLink own index yX12_held ∈ TB) (hR : 1 + 1 ≤ R.frames ∧ 8 + (3 + 11) + 48 * 1 ≤ R.locals) (hcs : cells ≤ R.cells ∧ slots ≤ R.slots) (hcat : (rest.map fun v => v.category).sum ≤ 8) (hdg : decode cc pc = .ok (.invokestatic index, 3)) (hB : P_X12_held x0 x1 x2 Q1)
    (kk : ∀ r : Int32, Q1 r → W p l e R s m args below meth c H locs cells slots QQ (F0 m (pc + 3) ls (.int r :: rest))) : W p l e R s m args below meth c H locs cells slots QQ (F0 m pc ls (.int x2 :: .int x1 :: .int x0 :: rest)) :=
  k_S (n := 3) (c_X12_held hB) tw_6_20 tw_6_19 tw_1_12 ⟨by decide, by decide, by decide +kernel⟩ rfl C hls  hlink hR hcs hcat rfl hdg kk
def P_X12_isWindow (M : Mem) (x1 : Int32) (Q1 : Int32 → Prop) : Prop :=
  P_X12_in (x1.toInt64) 0 (((M 1 0) - 1).toInt64) (fun v1 => (v1 = 0 ∨ v1 = 1) ∧ Q1 v1)
set_option maxRecDepth 100000 in
set_option maxHeartbeats 4000000 in
theorem c_X12_isWindow {l : Launch} {T : Nat → ClassId} {D : va_G} {ad : Nat → Nat} {M : Mem} {x1 : Int32} {Q1 : Int32 → Prop} (hB : P_X12_isWindow M x1 Q1) : Met l yX12_isWindow (Cond.code yX12_isWindow cX12_isWindow 2 (some .boolean) :: TB) (RM 2) (va_Pc [.ref (ad 0), .int x1] (RdP EM T D ad 16 M)) (QcR Q1) 0 0 (fun _ => False) := by
  refine st_R (by decide) (Nat.le_of_ble_eq_true rfl) (fun p e s m args below meth c ls C hr hlk hP hl => ?_)
  have hl : lv_has ls 2 [(0, .ref (ad 0)), (1, .int x1)] := hl
  have hx := C.x
  have hb := C.b
  delta P_X12_isWindow at hB
  refine lv_iload_n hx hb dX12_isWindow_0 rfl (lv_at hl 1 rfl) ?_
  refine lv_i2l hx hb dX12_isWindow_1 rfl ?_
  refine lv_lconst (v := 0) hx hb dX12_isWindow_2 (by decide) ?_
  refine lv_aload_n hx hb dX12_isWindow_3 rfl (lv_at hl 0 rfl) ?_
  refine gf_X12_0 C hP tw_5_98 dX12_isWindow_4 ?_
  refine lv_iconst (v := 0) hx hb dX12_isWindow_7 (by decide) ?_
  refine a_ldc C hP aM_1 (vin rfl) (j := 0) rfl dX12_isWindow_8 ?_
  refine lv_iconst (v := 1) hx hb dX12_isWindow_9 (by decide) ?_
  refine lv_isub hx hb dX12_isWindow_10 ?_
  refine lv_i2l hx hb dX12_isWindow_11 rfl ?_
  refine v_X12_in C.1 hl.1 tw_5_191 ⟨Nat.le_of_ble_eq_true rfl, Nat.le_of_ble_eq_true rfl⟩ ⟨Nat.le_refl _, Nat.le_refl _⟩ (Nat.le_of_ble_eq_true rfl) dX12_isWindow_12 hB (fun v1 hB => ?_)
  exact e_zR C.1 hr hlk dX12_isWindow_15 hB.1 hB.2
set_option maxRecDepth 100000 in
set_option maxHeartbeats 4000000 in
theorem v_X12_isWindow {M : Mem} {x1 : Int32} {Q1 : Int32 → Prop} (C : Cx T D p s m args c cc nL own) (hls : ls.size = nL) (hP : Pw EM T D ad 16 M H) (hlink : Cond.methodLink own index yX12_isWindow ∈ TB) (hR : 2 + 1 ≤ R.frames ∧ 8 + (2 + 11) + 48 * 2 ≤ R.locals) (hcs : cells ≤ R.cells ∧ slots ≤ R.slots) (hcat : (rest.map fun v => v.category).sum ≤ 8) (hdg : decode cc pc = .ok (.invokevirtual index, 3)) (hB : P_X12_isWindow M x1 Q1)
    (kk : ∀ r : Int32, Q1 r → W p l e R s m args below meth c H locs cells slots QQ (F0 m (pc + 3) ls (.int r :: rest))) : W p l e R s m args below meth c H locs cells slots QQ (F0 m pc ls (.int x1 :: .ref (ad 0) :: rest)) :=
  k_V (ci := 12) (n := 1) (c_X12_isWindow hB) tw_6_54 tw_6_53 tw_s_35 tw_1_12 ⟨rfl, by decide, by decide, by decide +kernel⟩ rfl rfl C hls hP oM hlink hR hcs hcat rfl hdg kk
def P_X12_isLodger (M : Mem) (x1 : Int32) (Q1 : Int32 → Prop) : Prop :=
  P_X12_in (x1.toInt64) 0 (((M 1 2) - 1).toInt64) (fun v1 => (v1 = 0 ∨ v1 = 1) ∧ Q1 v1)
set_option maxRecDepth 100000 in
set_option maxHeartbeats 4000000 in
theorem c_X12_isLodger {l : Launch} {T : Nat → ClassId} {D : va_G} {ad : Nat → Nat} {M : Mem} {x1 : Int32} {Q1 : Int32 → Prop} (hB : P_X12_isLodger M x1 Q1) : Met l yX12_isLodger (Cond.code yX12_isLodger cX12_isLodger 2 (some .boolean) :: TB) (RM 2) (va_Pc [.ref (ad 0), .int x1] (RdP EM T D ad 16 M)) (QcR Q1) 0 0 (fun _ => False) := by
  refine st_R (by decide) (Nat.le_of_ble_eq_true rfl) (fun p e s m args below meth c ls C hr hlk hP hl => ?_)
  have hl : lv_has ls 2 [(0, .ref (ad 0)), (1, .int x1)] := hl
  have hx := C.x
  have hb := C.b
  delta P_X12_isLodger at hB
  refine lv_iload_n hx hb dX12_isLodger_0 rfl (lv_at hl 1 rfl) ?_
  refine lv_i2l hx hb dX12_isLodger_1 rfl ?_
  refine lv_lconst (v := 0) hx hb dX12_isLodger_2 (by decide) ?_
  refine lv_aload_n hx hb dX12_isLodger_3 rfl (lv_at hl 0 rfl) ?_
  refine gf_X12_0 C hP tw_5_98 dX12_isLodger_4 ?_
  refine lv_iconst (v := 2) hx hb dX12_isLodger_7 (by decide) ?_
  refine a_ldc C hP aM_1 (vin rfl) (j := 2) rfl dX12_isLodger_8 ?_
  refine lv_iconst (v := 1) hx hb dX12_isLodger_9 (by decide) ?_
  refine lv_isub hx hb dX12_isLodger_10 ?_
  refine lv_i2l hx hb dX12_isLodger_11 rfl ?_
  refine v_X12_in C.1 hl.1 tw_5_191 ⟨Nat.le_of_ble_eq_true rfl, Nat.le_of_ble_eq_true rfl⟩ ⟨Nat.le_refl _, Nat.le_refl _⟩ (Nat.le_of_ble_eq_true rfl) dX12_isLodger_12 hB (fun v1 hB => ?_)
  exact e_zR C.1 hr hlk dX12_isLodger_15 hB.1 hB.2
set_option maxRecDepth 100000 in
set_option maxHeartbeats 4000000 in
theorem v_X12_isLodger {M : Mem} {x1 : Int32} {Q1 : Int32 → Prop} (C : Cx T D p s m args c cc nL own) (hls : ls.size = nL) (hP : Pw EM T D ad 16 M H) (hlink : Cond.methodLink own index yX12_isLodger ∈ TB) (hR : 2 + 1 ≤ R.frames ∧ 8 + (2 + 11) + 48 * 2 ≤ R.locals) (hcs : cells ≤ R.cells ∧ slots ≤ R.slots) (hcat : (rest.map fun v => v.category).sum ≤ 8) (hdg : decode cc pc = .ok (.invokevirtual index, 3)) (hB : P_X12_isLodger M x1 Q1)
    (kk : ∀ r : Int32, Q1 r → W p l e R s m args below meth c H locs cells slots QQ (F0 m (pc + 3) ls (.int r :: rest))) : W p l e R s m args below meth c H locs cells slots QQ (F0 m pc ls (.int x1 :: .ref (ad 0) :: rest)) :=
  k_V (ci := 12) (n := 1) (c_X12_isLodger hB) tw_6_127 tw_6_126 tw_s_45 tw_1_12 ⟨rfl, by decide, by decide, by decide +kernel⟩ rfl rfl C hls hP oM hlink hR hcs hcat rfl hdg kk
def P_X12_its (M : Mem) (x1 : Int32) (x2 : Int32) (Q1 : Int32 → Prop) : Prop :=
  vp_in ((12 + (4 * x1)) + x2) 264 ∧ Q1 (M 1 ((12 + (4 * x1)) + x2).toNatClampNeg)
set_option maxRecDepth 100000 in
set_option maxHeartbeats 4000000 in
theorem c_X12_its {l : Launch} {T : Nat → ClassId} {D : va_G} {ad : Nat → Nat} {M : Mem} {x1 : Int32} {x2 : Int32} {Q1 : Int32 → Prop} (hB : P_X12_its M x1 x2 Q1) : Met l yX12_its (Cond.code yX12_its cX12_its 3 (some .int) :: TB) (RM 1) (va_Pc [.ref (ad 0), .int x1, .int x2] (RdP EM T D ad 16 M)) (QcR Q1) 0 0 (fun _ => False) := by
  refine st_R (by decide) (Nat.le_of_ble_eq_true rfl) (fun p e s m args below meth c ls C hr hlk hP hl => ?_)
  have hl : lv_has ls 3 [(0, .ref (ad 0)), (1, .int x1), (2, .int x2)] := hl
  have hx := C.x
  have hb := C.b
  delta P_X12_its at hB
  refine lv_aload_n hx hb dX12_its_0 rfl (lv_at hl 0 rfl) ?_
  refine gf_X12_0 C hP tw_5_98 dX12_its_1 ?_
  refine lv_bipush (v := 12) hx hb dX12_its_4 (by decide) ?_
  refine lv_iconst (v := 4) hx hb dX12_its_6 (by decide) ?_
  refine lv_iload_n hx hb dX12_its_7 rfl (lv_at hl 1 rfl) ?_
  refine lv_imul hx hb dX12_its_8 ?_
  refine lv_iadd hx hb dX12_its_9 ?_
  refine lv_iload_n hx hb dX12_its_10 rfl (lv_at hl 2 rfl) ?_
  refine lv_iadd hx hb dX12_its_11 ?_
  obtain ⟨q1, hB⟩ := hB
  refine a_ld C hP aM_1 q1 dX12_its_12 ?_
  exact e_iR C.1 hr hlk dX12_its_13 hB
set_option maxRecDepth 100000 in
set_option maxHeartbeats 4000000 in
theorem v_X12_its {M : Mem} {x1 : Int32} {x2 : Int32} {Q1 : Int32 → Prop} (C : Cx T D p s m args c cc nL own) (hls : ls.size = nL) (hP : Pw EM T D ad 16 M H) (hlink : Cond.methodLink own index yX12_its ∈ TB) (hR : 1 + 1 ≤ R.frames ∧ 8 + (3 + 11) + 48 * 1 ≤ R.locals) (hcs : cells ≤ R.cells ∧ slots ≤ R.slots) (hcat : (rest.map fun v => v.category).sum ≤ 8) (hdg : decode cc pc = .ok (.invokevirtual index, 3)) (hB : P_X12_its M x1 x2 Q1)
    (kk : ∀ r : Int32, Q1 r → W p l e R s m args below meth c H locs cells slots QQ (F0 m (pc + 3) ls (.int r :: rest))) : W p l e R s m args below meth c H locs cells slots QQ (F0 m pc ls (.int x2 :: .int x1 :: .ref (ad 0) :: rest)) :=
  k_V (ci := 12) (n := 2) (c_X12_its hB) tw_6_42 tw_6_41 tw_s_34 tw_1_12 ⟨rfl, by decide, by decide, by decide +kernel⟩ rfl rfl C hls hP oM hlink hR hcs hcat rfl hdg kk
def P_X12_puts (M : Mem) (x1 : Int32) (x2 : Int32) (x3 : Int32) (Q1 : Mem → Prop) : Prop :=
  vp_in ((12 + (4 * x1)) + x2) 264 ∧ ∀ M1 : Mem, M1 = sf M 1 ((12 + (4 * x1)) + x2).toNatClampNeg x3 → Q1 M1
set_option maxRecDepth 100000 in
set_option maxHeartbeats 4000000 in
theorem c_X12_puts {l : Launch} {T : Nat → ClassId} {D : va_G} {ad : Nat → Nat} {M : Mem} {x1 : Int32} {x2 : Int32} {x3 : Int32} {sz : Nat} {Q1 : Mem → Prop} (hB : P_X12_puts M x1 x2 x3 Q1) : Met l yX12_puts (Cond.code yX12_puts cX12_puts 4 none :: TB) (RM 1) (va_Pc [.ref (ad 0), .int x1, .int x2, .int x3] (WrP EM T D ad 16 M sz)) (QcV EM T D ad 16 (AA ad 16 sz) Q1) 0 0 (AA ad 16 sz) := by
  refine st_W (by decide) (Nat.le_of_ble_eq_true rfl) (fun p e s m args below meth c ls C hr hlk hsz Z hl => ?_)
  have hl : lv_has ls 4 [(0, .ref (ad 0)), (1, .int x1), (2, .int x2), (3, .int x3)] := hl
  generalize AA ad 16 sz = A at Z ⊢
  have hx := C.x
  have hb := C.b
  delta P_X12_puts at hB
  refine lv_aload_n hx hb dX12_puts_0 rfl (lv_at hl 0 rfl) ?_
  refine gf_X12_0 C Z.1 tw_5_98 dX12_puts_1 ?_
  refine lv_bipush (v := 12) hx hb dX12_puts_4 (by decide) ?_
  refine lv_iconst (v := 4) hx hb dX12_puts_6 (by decide) ?_
  refine lv_iload_n hx hb dX12_puts_7 rfl (lv_at hl 1 rfl) ?_
  refine lv_imul hx hb dX12_puts_8 ?_
  refine lv_iadd hx hb dX12_puts_9 ?_
  refine lv_iload_n hx hb dX12_puts_10 rfl (lv_at hl 2 rfl) ?_
  refine lv_iadd hx hb dX12_puts_11 ?_
  refine lv_iload_n hx hb dX12_puts_12 rfl (lv_at hl 3 rfl) ?_
  obtain ⟨q2, hB⟩ := hB
  refine a_st C Z aM_1 q2 dX12_puts_13 (fun M1 H locs eM1 Z => ?_)
  have hB := hB M1 eM1
  exact e_vW C hr hlk Z dX12_puts_14 hB
set_option maxRecDepth 100000 in
set_option maxHeartbeats 4000000 in
theorem v_X12_puts {M : Mem} {x1 : Int32} {x2 : Int32} {x3 : Int32} {Q1 : Mem → Prop} (C : Cx T D p s m args c cc nL own) (hls : ls.size = nL) (Z : Zz EM T D ad 16 A H0 M H locs) (hlink : Cond.methodLink own index yX12_puts ∈ TB) (hR : 1 + 1 ≤ R.frames ∧ 8 + (4 + 11) + 48 * 1 ≤ R.locals) (hcs : cells ≤ R.cells ∧ slots ≤ R.slots) (hcat : (rest.map fun v => v.category).sum ≤ 8) (hdg : decode cc pc = .ok (.invokevirtual index, 3)) (hB : P_X12_puts M x1 x2 x3 Q1)
    (kk : ∀ (M1 : Mem) (H1 : Heap) (locs1 : List Loc), Q1 M1 → Zz EM T D ad 16 A H0 M1 H1 locs1 → W p l e R s m args below meth c H1 locs1 cells slots QQ (F0 m (pc + 3) ls rest)) : W p l e R s m args below meth c H locs cells slots QQ (F0 m pc ls (.int x3 :: .int x2 :: .int x1 :: .ref (ad 0) :: rest)) :=
  k_VV (ci := 12) (n := 3) (c_X12_puts hB) tw_6_29 tw_6_28 tw_s_33 tw_1_12 ⟨rfl, by decide, by decide, by decide +kernel⟩ rfl rfl C hls Z oM hlink hR hcs hcat rfl hdg kk
def P_X12_of (M : Mem) (x1 : Int32) (x2 : Int32) (Q1 : Int32 → Prop) : Prop :=
  vp_in ((44 + (3 * x1)) + x2) 264 ∧ Q1 (M 1 ((44 + (3 * x1)) + x2).toNatClampNeg)
set_option maxRecDepth 100000 in
set_option maxHeartbeats 4000000 in
theorem c_X12_of {l : Launch} {T : Nat → ClassId} {D : va_G} {ad : Nat → Nat} {M : Mem} {x1 : Int32} {x2 : Int32} {Q1 : Int32 → Prop} (hB : P_X12_of M x1 x2 Q1) : Met l yX12_of (Cond.code yX12_of cX12_of 3 (some .int) :: TB) (RM 1) (va_Pc [.ref (ad 0), .int x1, .int x2] (RdP EM T D ad 16 M)) (QcR Q1) 0 0 (fun _ => False) := by
  refine st_R (by decide) (Nat.le_of_ble_eq_true rfl) (fun p e s m args below meth c ls C hr hlk hP hl => ?_)
  have hl : lv_has ls 3 [(0, .ref (ad 0)), (1, .int x1), (2, .int x2)] := hl
  have hx := C.x
  have hb := C.b
  delta P_X12_of at hB
  refine lv_aload_n hx hb dX12_of_0 rfl (lv_at hl 0 rfl) ?_
  refine gf_X12_0 C hP tw_5_98 dX12_of_1 ?_
  refine lv_bipush (v := 44) hx hb dX12_of_4 (by decide) ?_
  refine lv_iconst (v := 3) hx hb dX12_of_6 (by decide) ?_
  refine lv_iload_n hx hb dX12_of_7 rfl (lv_at hl 1 rfl) ?_
  refine lv_imul hx hb dX12_of_8 ?_
  refine lv_iadd hx hb dX12_of_9 ?_
  refine lv_iload_n hx hb dX12_of_10 rfl (lv_at hl 2 rfl) ?_
  refine lv_iadd hx hb dX12_of_11 ?_
  obtain ⟨q1, hB⟩ := hB
  refine a_ld C hP aM_1 q1 dX12_of_12 ?_
  exact e_iR C.1 hr hlk dX12_of_13 hB
set_option maxRecDepth 100000 in
set_option maxHeartbeats 4000000 in
theorem v_X12_of {M : Mem} {x1 : Int32} {x2 : Int32} {Q1 : Int32 → Prop} (C : Cx T D p s m args c cc nL own) (hls : ls.size = nL) (hP : Pw EM T D ad 16 M H) (hlink : Cond.methodLink own index yX12_of ∈ TB) (hR : 1 + 1 ≤ R.frames ∧ 8 + (3 + 11) + 48 * 1 ≤ R.locals) (hcs : cells ≤ R.cells ∧ slots ≤ R.slots) (hcat : (rest.map fun v => v.category).sum ≤ 8) (hdg : decode cc pc = .ok (.invokevirtual index, 3)) (hB : P_X12_of M x1 x2 Q1)
    (kk : ∀ r : Int32, Q1 r → W p l e R s m args below meth c H locs cells slots QQ (F0 m (pc + 3) ls (.int r :: rest))) : W p l e R s m args below meth c H locs cells slots QQ (F0 m pc ls (.int x2 :: .int x1 :: .ref (ad 0) :: rest)) :=
  k_V (ci := 12) (n := 2) (c_X12_of hB) tw_6_136 tw_6_135 tw_s_47 tw_1_12 ⟨rfl, by decide, by decide, by decide +kernel⟩ rfl rfl C hls hP oM hlink hR hcs hcat rfl hdg kk
def P_X12_sets (M : Mem) (x1 : Int32) (x2 : Int32) (x3 : Int32) (Q1 : Mem → Prop) : Prop :=
  vp_in ((44 + (3 * x1)) + x2) 264 ∧ ∀ M1 : Mem, M1 = sf M 1 ((44 + (3 * x1)) + x2).toNatClampNeg x3 → Q1 M1
set_option maxRecDepth 100000 in
set_option maxHeartbeats 4000000 in
theorem c_X12_sets {l : Launch} {T : Nat → ClassId} {D : va_G} {ad : Nat → Nat} {M : Mem} {x1 : Int32} {x2 : Int32} {x3 : Int32} {sz : Nat} {Q1 : Mem → Prop} (hB : P_X12_sets M x1 x2 x3 Q1) : Met l yX12_sets (Cond.code yX12_sets cX12_sets 4 none :: TB) (RM 1) (va_Pc [.ref (ad 0), .int x1, .int x2, .int x3] (WrP EM T D ad 16 M sz)) (QcV EM T D ad 16 (AA ad 16 sz) Q1) 0 0 (AA ad 16 sz) := by
  refine st_W (by decide) (Nat.le_of_ble_eq_true rfl) (fun p e s m args below meth c ls C hr hlk hsz Z hl => ?_)
  have hl : lv_has ls 4 [(0, .ref (ad 0)), (1, .int x1), (2, .int x2), (3, .int x3)] := hl
  generalize AA ad 16 sz = A at Z ⊢
  have hx := C.x
  have hb := C.b
  delta P_X12_sets at hB
  refine lv_aload_n hx hb dX12_sets_0 rfl (lv_at hl 0 rfl) ?_
  refine gf_X12_0 C Z.1 tw_5_98 dX12_sets_1 ?_
  refine lv_bipush (v := 44) hx hb dX12_sets_4 (by decide) ?_
  refine lv_iconst (v := 3) hx hb dX12_sets_6 (by decide) ?_
  refine lv_iload_n hx hb dX12_sets_7 rfl (lv_at hl 1 rfl) ?_
  refine lv_imul hx hb dX12_sets_8 ?_
  refine lv_iadd hx hb dX12_sets_9 ?_
  refine lv_iload_n hx hb dX12_sets_10 rfl (lv_at hl 2 rfl) ?_
  refine lv_iadd hx hb dX12_sets_11 ?_
  refine lv_iload_n hx hb dX12_sets_12 rfl (lv_at hl 3 rfl) ?_
  obtain ⟨q2, hB⟩ := hB
  refine a_st C Z aM_1 q2 dX12_sets_13 (fun M1 H locs eM1 Z => ?_)
  have hB := hB M1 eM1
  exact e_vW C hr hlk Z dX12_sets_14 hB
set_option maxRecDepth 100000 in
set_option maxHeartbeats 4000000 in
theorem v_X12_sets {M : Mem} {x1 : Int32} {x2 : Int32} {x3 : Int32} {Q1 : Mem → Prop} (C : Cx T D p s m args c cc nL own) (hls : ls.size = nL) (Z : Zz EM T D ad 16 A H0 M H locs) (hlink : Cond.methodLink own index yX12_sets ∈ TB) (hR : 1 + 1 ≤ R.frames ∧ 8 + (4 + 11) + 48 * 1 ≤ R.locals) (hcs : cells ≤ R.cells ∧ slots ≤ R.slots) (hcat : (rest.map fun v => v.category).sum ≤ 8) (hdg : decode cc pc = .ok (.invokevirtual index, 3)) (hB : P_X12_sets M x1 x2 x3 Q1)
    (kk : ∀ (M1 : Mem) (H1 : Heap) (locs1 : List Loc), Q1 M1 → Zz EM T D ad 16 A H0 M1 H1 locs1 → W p l e R s m args below meth c H1 locs1 cells slots QQ (F0 m (pc + 3) ls rest)) : W p l e R s m args below meth c H locs cells slots QQ (F0 m pc ls (.int x3 :: .int x2 :: .int x1 :: .ref (ad 0) :: rest)) :=
  k_VV (ci := 12) (n := 3) (c_X12_sets hB) tw_6_119 tw_6_118 tw_s_44 tw_1_12 ⟨rfl, by decide, by decide, by decide +kernel⟩ rfl rfl C hls Z oM hlink hR hcs hcat rfl hdg kk
def B_X12_keepAside_2 (Q1 : Mem → Prop) (x1 : Int32) (M : Mem) : Prop :=
  ∀ X2 : Int32 → Mem → Prop, (∀ (x1 : Int32) (M : Mem), (((90 ≤ x1 → Q1 M) ∧
    (¬ 90 ≤ x1 → vp_in x1 264 ∧ vp_in x1 90 ∧ ∀ M3 : Mem, M3 = sf M 3 x1.toNatClampNeg (M 1 x1.toNatClampNeg) → ∀ x1_5 : Int32, x1_5 = x1 + 1 → X2 x1_5 M3))) → X2 x1 M) → X2 x1 M
def P_X12_keepAside (M : Mem) (Q1 : Mem → Prop) : Prop :=
  B_X12_keepAside_2 Q1 0 M
set_option maxRecDepth 100000 in
set_option maxHeartbeats 4000000 in
theorem w_X12_keepAside_2 {M : Mem} {Q1 : Mem → Prop} {x1 : Int32} (C : Cx T D p s m args c cX12_keepAside 2 "OneOfTwoModel") (hr : meth.sig.returnType = none) (hlk : meth.locks = false) (Z : Zz EM T D ad 16 A s.heap M H locs) {ls : Array Slot} (hl : lv_has ls 2 [(0, .ref (ad 0)), (1, .int x1)]) (hB : B_X12_keepAside_2 Q1 x1 M) : W p l e (RM 1) s m args below meth c H locs 0 0 (MQ below (QcV EM T D ad 16 A Q1) args s 0 0 A) (F0 m 2 ls []) := by
  delta B_X12_keepAside_2 at hB
  obtain ⟨X2, hX2, hY2⟩ : ∃ X2 : Int32 → Mem → Prop, (∀ (x1 : Int32) (M : Mem), X2 x1 M → ∀ (H : Heap) (locs : List Loc) (ls : Array Slot), Zz EM T D ad 16 A s.heap M H locs → lv_has ls 2 [(0, .ref (ad 0)), (1, .int x1)] → W p l e (RM 1) s m args below meth c H locs 0 0 (MQ below (QcV EM T D ad 16 A Q1) args s 0 0 A) (F0 m 2 ls [])) ∧ (∀ (x1 : Int32) (M : Mem), (∀ (H : Heap) (locs : List Loc) (ls : Array Slot), Zz EM T D ad 16 A s.heap M H locs → lv_has ls 2 [(0, .ref (ad 0)), (1, .int x1)] → W p l e (RM 1) s m args below meth c H locs 0 0 (MQ below (QcV EM T D ad 16 A Q1) args s 0 0 A) (F0 m 2 ls [])) → X2 x1 M) := ⟨fun (x1 : Int32) (M : Mem) => ∀ (H : Heap) (locs : List Loc) (ls : Array Slot), Zz EM T D ad 16 A s.heap M H locs → lv_has ls 2 [(0, .ref (ad 0)), (1, .int x1)] → W p l e (RM 1) s m args below meth c H locs 0 0 (MQ below (QcV EM T D ad 16 A Q1) args s 0 0 A) (F0 m 2 ls []), fun _ _ h => h, fun _ _ h => h⟩
  refine hX2 _ _ (hB X2 (fun x1 M hB => hY2 _ _ (fun H locs ls Z hl => ?_))) _ _ _ Z hl
  have hx := C.x
  have hb := C.b
  refine lv_iload_n hx hb dX12_keepAside_2 rfl (lv_at hl 1 rfl) ?_
  refine lv_bipush (v := 90) hx hb dX12_keepAside_3 (by decide) ?_
  refine lv_icmp_ge (tgt := 26) hx hb dX12_keepAside_5 (by decide) (fun q1 => ?_) (fun q1 => ?_)
  · have hB := hB.1 q1
    exact e_vW C hr hlk Z dX12_keepAside_26 hB
  · have hB := hB.2 q1
    refine lv_aload_n hx hb dX12_keepAside_8 rfl (lv_at hl 0 rfl) ?_
    refine gf_X12_2 C Z.1 tw_5_100 dX12_keepAside_9 ?_
    refine lv_iload_n hx hb dX12_keepAside_12 rfl (lv_at hl 1 rfl) ?_
    refine lv_aload_n hx hb dX12_keepAside_13 rfl (lv_at hl 0 rfl) ?_
    refine gf_X12_0 C Z.1 tw_5_98 dX12_keepAside_14 ?_
    refine lv_iload_n hx hb dX12_keepAside_17 rfl (lv_at hl 1 rfl) ?_
    obtain ⟨q2, hB⟩ := hB
    refine a_ld C Z.1 aM_1 q2 dX12_keepAside_18 ?_
    obtain ⟨q4, hB⟩ := hB
    refine a_st C Z aM_3 q4 dX12_keepAside_19 (fun M3 H locs eM3 Z => ?_)
    have hB := hB M3 eM3
    obtain ⟨x1_5, ex1_5⟩ : ∃ y : Int32, y = x1 + 1 := ⟨_, rfl⟩
    have hB := hB x1_5 ex1_5
    refine lv_iinc (v := x1_5) (lv' := [(1, .int x1_5), (0, .ref (ad 0))]) hx hb dX12_keepAside_20 hl (k := 1) rfl (by rw [ex1_5]; rfl) (by decide) rfl (fun ls hl => ?_)
    refine lv_goto (tgt := 2) hx hb dX12_keepAside_23 (by decide) ?_
    exact hX2 _ _ hB _ _ _ Z (lv_sub hl [1, 0] rfl)
set_option maxRecDepth 100000 in
set_option maxHeartbeats 4000000 in
theorem c_X12_keepAside {l : Launch} {T : Nat → ClassId} {D : va_G} {ad : Nat → Nat} {M : Mem} {sz : Nat} {Q1 : Mem → Prop} (hB : P_X12_keepAside M Q1) : Met l yX12_keepAside (Cond.code yX12_keepAside cX12_keepAside 2 none :: TB) (RM 1) (va_Pc [.ref (ad 0)] (WrP EM T D ad 16 M sz)) (QcV EM T D ad 16 (AA ad 16 sz) Q1) 0 0 (AA ad 16 sz) := by
  refine st_W (by decide) (Nat.le_of_ble_eq_true rfl) (fun p e s m args below meth c ls C hr hlk hsz Z hl => ?_)
  have hl : lv_has ls 2 [(0, .ref (ad 0))] := hl
  generalize AA ad 16 sz = A at Z ⊢
  have hx := C.x
  have hb := C.b
  delta P_X12_keepAside at hB
  refine lv_iconst (v := 0) hx hb dX12_keepAside_0 (by decide) ?_
  refine lv_istore_n (lv' := [(1, .int 0), (0, .ref (ad 0))]) hx hb dX12_keepAside_1 rfl hl (by decide) rfl (fun ls hl => ?_)
  exact w_X12_keepAside_2 C hr hlk Z (lv_sub hl [1, 0] rfl) hB
set_option maxRecDepth 100000 in
set_option maxHeartbeats 4000000 in
theorem v_X12_keepAside {M : Mem} {Q1 : Mem → Prop} (C : Cx T D p s m args c cc nL own) (hls : ls.size = nL) (Z : Zz EM T D ad 16 A H0 M H locs) (hlink : Cond.methodLink own index yX12_keepAside ∈ TB) (hR : 1 + 1 ≤ R.frames ∧ 8 + (2 + 11) + 48 * 1 ≤ R.locals) (hcs : cells ≤ R.cells ∧ slots ≤ R.slots) (hcat : (rest.map fun v => v.category).sum ≤ 8) (hdg : decode cc pc = .ok (.invokevirtual index, 3)) (hB : P_X12_keepAside M Q1)
    (kk : ∀ (M1 : Mem) (H1 : Heap) (locs1 : List Loc), Q1 M1 → Zz EM T D ad 16 A H0 M1 H1 locs1 → W p l e R s m args below meth c H1 locs1 cells slots QQ (F0 m (pc + 3) ls rest)) : W p l e R s m args below meth c H locs cells slots QQ (F0 m pc ls (.ref (ad 0) :: rest)) :=
  k_VV (ci := 12) (n := 0) (c_X12_keepAside hB) tw_6_231 tw_6_230 tw_s_58 tw_1_12 ⟨rfl, by decide, by decide, by decide +kernel⟩ rfl rfl C hls Z oM hlink hR hcs hcat rfl hdg kk
def B_X12_putBack_2 (Q1 : Mem → Prop) (x1 : Int32) (M : Mem) : Prop :=
  ∀ X2 : Int32 → Mem → Prop, (∀ (x1 : Int32) (M : Mem), (((90 ≤ x1 → Q1 M) ∧
    (¬ 90 ≤ x1 → vp_in x1 90 ∧ vp_in x1 264 ∧ ∀ M3 : Mem, M3 = sf M 1 x1.toNatClampNeg (M 3 x1.toNatClampNeg) → ∀ x1_5 : Int32, x1_5 = x1 + 1 → X2 x1_5 M3))) → X2 x1 M) → X2 x1 M
def P_X12_putBack (M : Mem) (Q1 : Mem → Prop) : Prop :=
  B_X12_putBack_2 Q1 0 M
set_option maxRecDepth 100000 in
set_option maxHeartbeats 4000000 in
theorem w_X12_putBack_2 {M : Mem} {Q1 : Mem → Prop} {x1 : Int32} (C : Cx T D p s m args c cX12_putBack 2 "OneOfTwoModel") (hr : meth.sig.returnType = none) (hlk : meth.locks = false) (Z : Zz EM T D ad 16 A s.heap M H locs) {ls : Array Slot} (hl : lv_has ls 2 [(0, .ref (ad 0)), (1, .int x1)]) (hB : B_X12_putBack_2 Q1 x1 M) : W p l e (RM 1) s m args below meth c H locs 0 0 (MQ below (QcV EM T D ad 16 A Q1) args s 0 0 A) (F0 m 2 ls []) := by
  delta B_X12_putBack_2 at hB
  obtain ⟨X2, hX2, hY2⟩ : ∃ X2 : Int32 → Mem → Prop, (∀ (x1 : Int32) (M : Mem), X2 x1 M → ∀ (H : Heap) (locs : List Loc) (ls : Array Slot), Zz EM T D ad 16 A s.heap M H locs → lv_has ls 2 [(0, .ref (ad 0)), (1, .int x1)] → W p l e (RM 1) s m args below meth c H locs 0 0 (MQ below (QcV EM T D ad 16 A Q1) args s 0 0 A) (F0 m 2 ls [])) ∧ (∀ (x1 : Int32) (M : Mem), (∀ (H : Heap) (locs : List Loc) (ls : Array Slot), Zz EM T D ad 16 A s.heap M H locs → lv_has ls 2 [(0, .ref (ad 0)), (1, .int x1)] → W p l e (RM 1) s m args below meth c H locs 0 0 (MQ below (QcV EM T D ad 16 A Q1) args s 0 0 A) (F0 m 2 ls [])) → X2 x1 M) := ⟨fun (x1 : Int32) (M : Mem) => ∀ (H : Heap) (locs : List Loc) (ls : Array Slot), Zz EM T D ad 16 A s.heap M H locs → lv_has ls 2 [(0, .ref (ad 0)), (1, .int x1)] → W p l e (RM 1) s m args below meth c H locs 0 0 (MQ below (QcV EM T D ad 16 A Q1) args s 0 0 A) (F0 m 2 ls []), fun _ _ h => h, fun _ _ h => h⟩
  refine hX2 _ _ (hB X2 (fun x1 M hB => hY2 _ _ (fun H locs ls Z hl => ?_))) _ _ _ Z hl
  have hx := C.x
  have hb := C.b
  refine lv_iload_n hx hb dX12_putBack_2 rfl (lv_at hl 1 rfl) ?_
  refine lv_bipush (v := 90) hx hb dX12_putBack_3 (by decide) ?_
  refine lv_icmp_ge (tgt := 26) hx hb dX12_putBack_5 (by decide) (fun q1 => ?_) (fun q1 => ?_)
  · have hB := hB.1 q1
    exact e_vW C hr hlk Z dX12_putBack_26 hB
  · have hB := hB.2 q1
    refine lv_aload_n hx hb dX12_putBack_8 rfl (lv_at hl 0 rfl) ?_
    refine gf_X12_0 C Z.1 tw_5_98 dX12_putBack_9 ?_
    refine lv_iload_n hx hb dX12_putBack_12 rfl (lv_at hl 1 rfl) ?_
    refine lv_aload_n hx hb dX12_putBack_13 rfl (lv_at hl 0 rfl) ?_
    refine gf_X12_2 C Z.1 tw_5_100 dX12_putBack_14 ?_
    refine lv_iload_n hx hb dX12_putBack_17 rfl (lv_at hl 1 rfl) ?_
    obtain ⟨q2, hB⟩ := hB
    refine a_ld C Z.1 aM_3 q2 dX12_putBack_18 ?_
    obtain ⟨q4, hB⟩ := hB
    refine a_st C Z aM_1 q4 dX12_putBack_19 (fun M3 H locs eM3 Z => ?_)
    have hB := hB M3 eM3
    obtain ⟨x1_5, ex1_5⟩ : ∃ y : Int32, y = x1 + 1 := ⟨_, rfl⟩
    have hB := hB x1_5 ex1_5
    refine lv_iinc (v := x1_5) (lv' := [(1, .int x1_5), (0, .ref (ad 0))]) hx hb dX12_putBack_20 hl (k := 1) rfl (by rw [ex1_5]; rfl) (by decide) rfl (fun ls hl => ?_)
    refine lv_goto (tgt := 2) hx hb dX12_putBack_23 (by decide) ?_
    exact hX2 _ _ hB _ _ _ Z (lv_sub hl [1, 0] rfl)
set_option maxRecDepth 100000 in
set_option maxHeartbeats 4000000 in
theorem c_X12_putBack {l : Launch} {T : Nat → ClassId} {D : va_G} {ad : Nat → Nat} {M : Mem} {sz : Nat} {Q1 : Mem → Prop} (hB : P_X12_putBack M Q1) : Met l yX12_putBack (Cond.code yX12_putBack cX12_putBack 2 none :: TB) (RM 1) (va_Pc [.ref (ad 0)] (WrP EM T D ad 16 M sz)) (QcV EM T D ad 16 (AA ad 16 sz) Q1) 0 0 (AA ad 16 sz) := by
  refine st_W (by decide) (Nat.le_of_ble_eq_true rfl) (fun p e s m args below meth c ls C hr hlk hsz Z hl => ?_)
  have hl : lv_has ls 2 [(0, .ref (ad 0))] := hl
  generalize AA ad 16 sz = A at Z ⊢
  have hx := C.x
  have hb := C.b
  delta P_X12_putBack at hB
  refine lv_iconst (v := 0) hx hb dX12_putBack_0 (by decide) ?_
  refine lv_istore_n (lv' := [(1, .int 0), (0, .ref (ad 0))]) hx hb dX12_putBack_1 rfl hl (by decide) rfl (fun ls hl => ?_)
  exact w_X12_putBack_2 C hr hlk Z (lv_sub hl [1, 0] rfl) hB
set_option maxRecDepth 100000 in
set_option maxHeartbeats 4000000 in
theorem v_X12_putBack {M : Mem} {Q1 : Mem → Prop} (C : Cx T D p s m args c cc nL own) (hls : ls.size = nL) (Z : Zz EM T D ad 16 A H0 M H locs) (hlink : Cond.methodLink own index yX12_putBack ∈ TB) (hR : 1 + 1 ≤ R.frames ∧ 8 + (2 + 11) + 48 * 1 ≤ R.locals) (hcs : cells ≤ R.cells ∧ slots ≤ R.slots) (hcat : (rest.map fun v => v.category).sum ≤ 8) (hdg : decode cc pc = .ok (.invokevirtual index, 3)) (hB : P_X12_putBack M Q1)
    (kk : ∀ (M1 : Mem) (H1 : Heap) (locs1 : List Loc), Q1 M1 → Zz EM T D ad 16 A H0 M1 H1 locs1 → W p l e R s m args below meth c H1 locs1 cells slots QQ (F0 m (pc + 3) ls rest)) : W p l e R s m args below meth c H locs cells slots QQ (F0 m pc ls (.ref (ad 0) :: rest)) :=
  k_VV (ci := 12) (n := 0) (c_X12_putBack hB) tw_6_235 tw_6_234 tw_s_59 tw_1_12 ⟨rfl, by decide, by decide, by decide +kernel⟩ rfl rfl C hls Z oM hlink hR hcs hcat rfl hdg kk
def P_X12_here (M : Mem) (Q1 : Int32 → Prop) : Prop :=
  (((M 0 7) ≤ (M 0 6) → Q1 (-1)) ∧
    (¬ (M 0 7) ≤ (M 0 6) → ((0 ≤ (M 0 8) → Q1 (-1)) ∧
      (¬ 0 ≤ (M 0 8) → vp_in ((M 0 5) + (M 0 6)) 264 ∧ Q1 (M 1 ((M 0 5) + (M 0 6)).toNatClampNeg)))))
set_option maxRecDepth 100000 in
set_option maxHeartbeats 4000000 in
theorem c_X12_here {l : Launch} {T : Nat → ClassId} {D : va_G} {ad : Nat → Nat} {M : Mem} {Q1 : Int32 → Prop} (hB : P_X12_here M Q1) : Met l yX12_here (Cond.code yX12_here cX12_here 1 (some .int) :: TB) (RM 1) (va_Pc [.ref (ad 0)] (RdP EM T D ad 16 M)) (QcR Q1) 0 0 (fun _ => False) := by
  refine st_R (by decide) (Nat.le_of_ble_eq_true rfl) (fun p e s m args below meth c ls C hr hlk hP hl => ?_)
  have hl : lv_has ls 1 [(0, .ref (ad 0))] := hl
  have hx := C.x
  have hb := C.b
  delta P_X12_here at hB
  refine lv_aload_n hx hb dX12_here_0 rfl (lv_at hl 0 rfl) ?_
  refine gf_X12_6 C hP tw_5_104 dX12_here_1 ?_
  refine lv_aload_n hx hb dX12_here_4 rfl (lv_at hl 0 rfl) ?_
  refine gf_X12_7 C hP tw_5_105 dX12_here_5 ?_
  refine lv_icmp_ge (tgt := 35) hx hb dX12_here_8 (by decide) (fun q1 => ?_) (fun q1 => ?_)
  · have hB := hB.1 q1
    refine lv_iconst (v := (-1)) hx hb dX12_here_35 (by decide) ?_
    exact e_iR C.1 hr hlk dX12_here_36 hB
  · have hB := hB.2 q1
    refine lv_aload_n hx hb dX12_here_11 rfl (lv_at hl 0 rfl) ?_
    refine gf_X12_8 C hP tw_5_106 dX12_here_12 ?_
    refine lv_if_ge (tgt := 35) hx hb dX12_here_15 (by decide) (fun q2 => ?_) (fun q2 => ?_)
    · have hB := hB.1 q2
      refine lv_iconst (v := (-1)) hx hb dX12_here_35 (by decide) ?_
      exact e_iR C.1 hr hlk dX12_here_36 hB
    · have hB := hB.2 q2
      refine lv_aload_n hx hb dX12_here_18 rfl (lv_at hl 0 rfl) ?_
      refine gf_X12_0 C hP tw_5_98 dX12_here_19 ?_
      refine lv_aload_n hx hb dX12_here_22 rfl (lv_at hl 0 rfl) ?_
      refine gf_X12_5 C hP tw_5_103 dX12_here_23 ?_
      refine lv_aload_n hx hb dX12_here_26 rfl (lv_at hl 0 rfl) ?_
      refine gf_X12_6 C hP tw_5_104 dX12_here_27 ?_
      refine lv_iadd hx hb dX12_here_30 ?_
      obtain ⟨q3, hB⟩ := hB
      refine a_ld C hP aM_1 q3 dX12_here_31 ?_
      refine lv_goto (tgt := 36) hx hb dX12_here_32 (by decide) ?_
      exact e_iR C.1 hr hlk dX12_here_36 hB
set_option maxRecDepth 100000 in
set_option maxHeartbeats 4000000 in
theorem v_X12_here {M : Mem} {Q1 : Int32 → Prop} (C : Cx T D p s m args c cc nL own) (hls : ls.size = nL) (hP : Pw EM T D ad 16 M H) (hlink : Cond.methodLink own index yX12_here ∈ TB) (hR : 1 + 1 ≤ R.frames ∧ 8 + (1 + 11) + 48 * 1 ≤ R.locals) (hcs : cells ≤ R.cells ∧ slots ≤ R.slots) (hcat : (rest.map fun v => v.category).sum ≤ 8) (hdg : decode cc pc = .ok (.invokevirtual index, 3)) (hB : P_X12_here M Q1)
    (kk : ∀ r : Int32, Q1 r → W p l e R s m args below meth c H locs cells slots QQ (F0 m (pc + 3) ls (.int r :: rest))) : W p l e R s m args below meth c H locs cells slots QQ (F0 m pc ls (.ref (ad 0) :: rest)) :=
  k_V (ci := 12) (n := 0) (c_X12_here hB) tw_5_235 tw_5_234 tw_s_28 tw_1_12 ⟨rfl, by decide, by decide, by decide +kernel⟩ rfl rfl C hls hP oM hlink hR hcs hcat rfl hdg kk
def P_X12_wrong (M : Mem) (Q1 : Int32 → Mem → Prop) : Prop :=
  ((0 ≤ (M 0 8) → ∀ v2 : Int32, v2 = M 0 8 → ∀ M3 : Mem, M3 = sf M 0 8 v2 → Q1 0 M3) ∧
    (¬ 0 ≤ (M 0 8) → ∀ v4 : Int32, v4 = M 0 6 → ∀ M5 : Mem, M5 = sf M 0 8 v4 → Q1 0 M5))
set_option maxRecDepth 100000 in
set_option maxHeartbeats 4000000 in
theorem c_X12_wrong {l : Launch} {T : Nat → ClassId} {D : va_G} {ad : Nat → Nat} {M : Mem} {sz : Nat} {Q1 : Int32 → Mem → Prop} (hB : P_X12_wrong M Q1) : Met l yX12_wrong (Cond.code yX12_wrong cX12_wrong 1 (some .int) :: TB) (RM 1) (va_Pc [.ref (ad 0)] (WrP EM T D ad 16 M sz)) (QcW EM T D ad 16 (AA ad 16 sz) Q1) 0 0 (AA ad 16 sz) := by
  refine st_W (by decide) (Nat.le_of_ble_eq_true rfl) (fun p e s m args below meth c ls C hr hlk hsz Z hl => ?_)
  have hl : lv_has ls 1 [(0, .ref (ad 0))] := hl
  generalize AA ad 16 sz = A at Z ⊢
  have hx := C.x
  have hb := C.b
  delta P_X12_wrong at hB
  refine lv_aload_n hx hb dX12_wrong_0 rfl (lv_at hl 0 rfl) ?_
  refine lv_aload_n hx hb dX12_wrong_1 rfl (lv_at hl 0 rfl) ?_
  refine gf_X12_8 C Z.1 tw_5_106 dX12_wrong_2 ?_
  refine lv_if_ge (tgt := 15) hx hb dX12_wrong_5 (by decide) (fun q1 => ?_) (fun q1 => ?_)
  · have hB := hB.1 q1
    refine lv_aload_n hx hb dX12_wrong_15 rfl (lv_at hl 0 rfl) ?_
    refine gf_X12_8 C Z.1 tw_5_106 dX12_wrong_16 ?_
    refine lv_topi (fun v2 ev2 => ?_)
    have hB := hB v2 ev2
    refine pf_X12_8 C Z tw_5_106 dX12_wrong_19 (fun M3 H locs eM3 Z => ?_)
    have hB := hB M3 eM3
    refine lv_iconst (v := 0) hx hb dX12_wrong_22 (by decide) ?_
    exact e_iW C hr hlk Z dX12_wrong_23 hB
  · have hB := hB.2 q1
    refine lv_aload_n hx hb dX12_wrong_8 rfl (lv_at hl 0 rfl) ?_
    refine gf_X12_6 C Z.1 tw_5_104 dX12_wrong_9 ?_
    refine lv_goto (tgt := 19) hx hb dX12_wrong_12 (by decide) ?_
    refine lv_topi (fun v4 ev4 => ?_)
    have hB := hB v4 ev4
    refine pf_X12_8 C Z tw_5_106 dX12_wrong_19 (fun M5 H locs eM5 Z => ?_)
    have hB := hB M5 eM5
    refine lv_iconst (v := 0) hx hb dX12_wrong_22 (by decide) ?_
    exact e_iW C hr hlk Z dX12_wrong_23 hB
set_option maxRecDepth 100000 in
set_option maxHeartbeats 4000000 in
theorem v_X12_wrong {M : Mem} {Q1 : Int32 → Mem → Prop} (C : Cx T D p s m args c cc nL own) (hls : ls.size = nL) (Z : Zz EM T D ad 16 A H0 M H locs) (hlink : Cond.methodLink own index yX12_wrong ∈ TB) (hR : 1 + 1 ≤ R.frames ∧ 8 + (1 + 11) + 48 * 1 ≤ R.locals) (hcs : cells ≤ R.cells ∧ slots ≤ R.slots) (hcat : (rest.map fun v => v.category).sum ≤ 8) (hdg : decode cc pc = .ok (.invokevirtual index, 3)) (hB : P_X12_wrong M Q1)
    (kk : ∀ (r : Int32) (M1 : Mem) (H1 : Heap) (locs1 : List Loc), Q1 r M1 → Zz EM T D ad 16 A H0 M1 H1 locs1 → W p l e R s m args below meth c H1 locs1 cells slots QQ (F0 m (pc + 3) ls (.int r :: rest))) : W p l e R s m args below meth c H locs cells slots QQ (F0 m pc ls (.ref (ad 0) :: rest)) :=
  k_VW (ci := 12) (n := 0) (c_X12_wrong hB) tw_5_239 tw_5_238 tw_s_29 tw_1_12 ⟨rfl, by decide, by decide, by decide +kernel⟩ rfl rfl C hls Z oM hlink hR hcs hcat rfl hdg kk
def P_X12_takes (M : Mem) (x1 : Int32) (Q1 : Int32 → Mem → Prop) : Prop :=
  P_X12_here M (fun v1 => ((v1 = x1 → ∀ v3 : Int32, v3 = (M 0 6) + 1 → ∀ M4 : Mem, M4 = sf M 0 6 v3 → Q1 1 M4) ∧
    (¬ v1 = x1 → Q1 0 M)))
set_option maxRecDepth 100000 in
set_option maxHeartbeats 4000000 in
theorem c_X12_takes {l : Launch} {T : Nat → ClassId} {D : va_G} {ad : Nat → Nat} {M : Mem} {x1 : Int32} {sz : Nat} {Q1 : Int32 → Mem → Prop} (hB : P_X12_takes M x1 Q1) : Met l yX12_takes (Cond.code yX12_takes cX12_takes 2 (some .boolean) :: TB) (RM 2) (va_Pc [.ref (ad 0), .int x1] (WrP EM T D ad 16 M sz)) (QcW EM T D ad 16 (AA ad 16 sz) Q1) 0 0 (AA ad 16 sz) := by
  refine st_W (by decide) (Nat.le_of_ble_eq_true rfl) (fun p e s m args below meth c ls C hr hlk hsz Z hl => ?_)
  have hl : lv_has ls 2 [(0, .ref (ad 0)), (1, .int x1)] := hl
  generalize AA ad 16 sz = A at Z ⊢
  have hx := C.x
  have hb := C.b
  delta P_X12_takes at hB
  refine lv_aload_n hx hb dX12_takes_0 rfl (lv_at hl 0 rfl) ?_
  refine v_X12_here C hl.1 Z.1 tw_5_232 ⟨Nat.le_of_ble_eq_true rfl, Nat.le_of_ble_eq_true rfl⟩ ⟨Nat.le_refl _, Nat.le_refl _⟩ (Nat.le_of_ble_eq_true rfl) dX12_takes_1 hB (fun v1 hB => ?_)
  refine lv_iload_n hx hb dX12_takes_4 rfl (lv_at hl 1 rfl) ?_
  refine lv_icmp_eq (tgt := 10) hx hb dX12_takes_5 (by decide) (fun q2 => ?_) (fun q2 => ?_)
  · have hB := hB.1 q2
    refine lv_aload_n hx hb dX12_takes_10 rfl (lv_at hl 0 rfl) ?_
    refine lv_dup hx hb dX12_takes_11 rfl ?_
    refine gf_X12_6 C Z.1 tw_5_104 dX12_takes_12 ?_
    refine lv_iconst (v := 1) hx hb dX12_takes_15 (by decide) ?_
    refine lv_iadd hx hb dX12_takes_16 ?_
    refine lv_topi (fun v3 ev3 => ?_)
    have hB := hB v3 ev3
    refine pf_X12_6 C Z tw_5_104 dX12_takes_17 (fun M4 H locs eM4 Z => ?_)
    have hB := hB M4 eM4
    refine lv_iconst (v := 1) hx hb dX12_takes_20 (by decide) ?_
    exact e_zW C hr hlk Z dX12_takes_21 (Or.inr rfl) hB
  · have hB := hB.2 q2
    refine lv_iconst (v := 0) hx hb dX12_takes_8 (by decide) ?_
    exact e_zW C hr hlk Z dX12_takes_9 (Or.inl rfl) hB
set_option maxRecDepth 100000 in
set_option maxHeartbeats 4000000 in
theorem v_X12_takes {M : Mem} {x1 : Int32} {Q1 : Int32 → Mem → Prop} (C : Cx T D p s m args c cc nL own) (hls : ls.size = nL) (Z : Zz EM T D ad 16 A H0 M H locs) (hlink : Cond.methodLink own index yX12_takes ∈ TB) (hR : 2 + 1 ≤ R.frames ∧ 8 + (2 + 11) + 48 * 2 ≤ R.locals) (hcs : cells ≤ R.cells ∧ slots ≤ R.slots) (hcat : (rest.map fun v => v.category).sum ≤ 8) (hdg : decode cc pc = .ok (.invokevirtual index, 3)) (hB : P_X12_takes M x1 Q1)
    (kk : ∀ (r : Int32) (M1 : Mem) (H1 : Heap) (locs1 : List Loc), Q1 r M1 → Zz EM T D ad 16 A H0 M1 H1 locs1 → W p l e R s m args below meth c H1 locs1 cells slots QQ (F0 m (pc + 3) ls (.int r :: rest))) : W p l e R s m args below meth c H locs cells slots QQ (F0 m pc ls (.int x1 :: .ref (ad 0) :: rest)) :=
  k_VW (ci := 12) (n := 1) (c_X12_takes hB) tw_6_3 tw_6_2 tw_s_30 tw_1_12 ⟨rfl, by decide, by decide, by decide +kernel⟩ rfl rfl C hls Z oM hlink hR hcs hcat rfl hdg kk
def P_X12_nameOf (M : Mem) (x1 : Int32) (Q1 : Int32 → Prop) : Prop :=
  (((M 0 10) = 0 → ((¬ x1 = 111 → ((¬ x1 = 110 → ((¬ x1 = 104 → Q1 (-1)) ∧
          (x1 = 104 → Q1 2))) ∧
        (x1 = 110 → Q1 1))) ∧
      (x1 = 111 → Q1 0))) ∧
    (¬ (M 0 10) = 0 → ((¬ x1 = 99 → ((¬ x1 = 104 → ((¬ x1 = 112 → Q1 (-1)) ∧
          (x1 = 112 → Q1 2))) ∧
        (x1 = 104 → Q1 1))) ∧
      (x1 = 99 → Q1 0))))
set_option maxRecDepth 100000 in
set_option maxHeartbeats 4000000 in
theorem c_X12_nameOf {l : Launch} {T : Nat → ClassId} {D : va_G} {ad : Nat → Nat} {M : Mem} {x1 : Int32} {Q1 : Int32 → Prop} (hB : P_X12_nameOf M x1 Q1) : Met l yX12_nameOf (Cond.code yX12_nameOf cX12_nameOf 2 (some .int) :: TB) (RM 1) (va_Pc [.ref (ad 0), .int x1] (RdP EM T D ad 16 M)) (QcR Q1) 0 0 (fun _ => False) := by
  refine st_R (by decide) (Nat.le_of_ble_eq_true rfl) (fun p e s m args below meth c ls C hr hlk hP hl => ?_)
  have hl : lv_has ls 2 [(0, .ref (ad 0)), (1, .int x1)] := hl
  have hx := C.x
  have hb := C.b
  delta P_X12_nameOf at hB
  refine lv_aload_n hx hb dX12_nameOf_0 rfl (lv_at hl 0 rfl) ?_
  refine gf_X12_10 C hP tw_5_108 dX12_nameOf_1 ?_
  refine lv_if_eq (tgt := 39) hx hb dX12_nameOf_4 (by decide) (fun q1 => ?_) (fun q1 => ?_)
  · have hB := hB.1 q1
    refine lv_iload_n hx hb dX12_nameOf_39 rfl (lv_at hl 1 rfl) ?_
    refine lv_bipush (v := 111) hx hb dX12_nameOf_40 (by decide) ?_
    refine lv_icmp_ne (tgt := 49) hx hb dX12_nameOf_42 (by decide) (fun q2 => ?_) (fun q2 => ?_)
    · have hB := hB.1 q2
      refine lv_iload_n hx hb dX12_nameOf_49 rfl (lv_at hl 1 rfl) ?_
      refine lv_bipush (v := 110) hx hb dX12_nameOf_50 (by decide) ?_
      refine lv_icmp_ne (tgt := 59) hx hb dX12_nameOf_52 (by decide) (fun q3 => ?_) (fun q3 => ?_)
      · have hB := hB.1 q3
        refine lv_iload_n hx hb dX12_nameOf_59 rfl (lv_at hl 1 rfl) ?_
        refine lv_bipush (v := 104) hx hb dX12_nameOf_60 (by decide) ?_
        refine lv_icmp_ne (tgt := 69) hx hb dX12_nameOf_62 (by decide) (fun q4 => ?_) (fun q4 => ?_)
        · have hB := hB.1 q4
          refine lv_iconst (v := (-1)) hx hb dX12_nameOf_69 (by decide) ?_
          exact e_iR C.1 hr hlk dX12_nameOf_70 hB
        · have hB := hB.2 q4
          refine lv_iconst (v := 2) hx hb dX12_nameOf_65 (by decide) ?_
          refine lv_goto (tgt := 70) hx hb dX12_nameOf_66 (by decide) ?_
          exact e_iR C.1 hr hlk dX12_nameOf_70 hB
      · have hB := hB.2 q3
        refine lv_iconst (v := 1) hx hb dX12_nameOf_55 (by decide) ?_
        refine lv_goto (tgt := 70) hx hb dX12_nameOf_56 (by decide) ?_
        exact e_iR C.1 hr hlk dX12_nameOf_70 hB
    · have hB := hB.2 q2
      refine lv_iconst (v := 0) hx hb dX12_nameOf_45 (by decide) ?_
      refine lv_goto (tgt := 70) hx hb dX12_nameOf_46 (by decide) ?_
      exact e_iR C.1 hr hlk dX12_nameOf_70 hB
  · have hB := hB.2 q1
    refine lv_iload_n hx hb dX12_nameOf_7 rfl (lv_at hl 1 rfl) ?_
    refine lv_bipush (v := 99) hx hb dX12_nameOf_8 (by decide) ?_
    refine lv_icmp_ne (tgt := 17) hx hb dX12_nameOf_10 (by decide) (fun q5 => ?_) (fun q5 => ?_)
    · have hB := hB.1 q5
      refine lv_iload_n hx hb dX12_nameOf_17 rfl (lv_at hl 1 rfl) ?_
      refine lv_bipush (v := 104) hx hb dX12_nameOf_18 (by decide) ?_
      refine lv_icmp_ne (tgt := 27) hx hb dX12_nameOf_20 (by decide) (fun q6 => ?_) (fun q6 => ?_)
      · have hB := hB.1 q6
        refine lv_iload_n hx hb dX12_nameOf_27 rfl (lv_at hl 1 rfl) ?_
        refine lv_bipush (v := 112) hx hb dX12_nameOf_28 (by decide) ?_
        refine lv_icmp_ne (tgt := 37) hx hb dX12_nameOf_30 (by decide) (fun q7 => ?_) (fun q7 => ?_)
        · have hB := hB.1 q7
          refine lv_iconst (v := (-1)) hx hb dX12_nameOf_37 (by decide) ?_
          exact e_iR C.1 hr hlk dX12_nameOf_38 hB
        · have hB := hB.2 q7
          refine lv_iconst (v := 2) hx hb dX12_nameOf_33 (by decide) ?_
          refine lv_goto (tgt := 38) hx hb dX12_nameOf_34 (by decide) ?_
          exact e_iR C.1 hr hlk dX12_nameOf_38 hB
      · have hB := hB.2 q6
        refine lv_iconst (v := 1) hx hb dX12_nameOf_23 (by decide) ?_
        refine lv_goto (tgt := 38) hx hb dX12_nameOf_24 (by decide) ?_
        exact e_iR C.1 hr hlk dX12_nameOf_38 hB
    · have hB := hB.2 q5
      refine lv_iconst (v := 0) hx hb dX12_nameOf_13 (by decide) ?_
      refine lv_goto (tgt := 38) hx hb dX12_nameOf_14 (by decide) ?_
      exact e_iR C.1 hr hlk dX12_nameOf_38 hB
set_option maxRecDepth 100000 in
set_option maxHeartbeats 4000000 in
theorem v_X12_nameOf {M : Mem} {x1 : Int32} {Q1 : Int32 → Prop} (C : Cx T D p s m args c cc nL own) (hls : ls.size = nL) (hP : Pw EM T D ad 16 M H) (hlink : Cond.methodLink own index yX12_nameOf ∈ TB) (hR : 1 + 1 ≤ R.frames ∧ 8 + (2 + 11) + 48 * 1 ≤ R.locals) (hcs : cells ≤ R.cells ∧ slots ≤ R.slots) (hcat : (rest.map fun v => v.category).sum ≤ 8) (hdg : decode cc pc = .ok (.invokevirtual index, 3)) (hB : P_X12_nameOf M x1 Q1)
    (kk : ∀ r : Int32, Q1 r → W p l e R s m args below meth c H locs cells slots QQ (F0 m (pc + 3) ls (.int r :: rest))) : W p l e R s m args below meth c H locs cells slots QQ (F0 m pc ls (.int x1 :: .ref (ad 0) :: rest)) :=
  k_V (ci := 12) (n := 1) (c_X12_nameOf hB) tw_6_7 tw_6_6 tw_s_31 tw_1_12 ⟨rfl, by decide, by decide, by decide +kernel⟩ rfl rfl C hls hP oM hlink hR hcs hcat rfl hdg kk
set_option maxRecDepth 100000 in
set_option maxHeartbeats 4000000 in
theorem vm_X12_unit {M : Mem} {n : Nat} {Q1 : Int32 → Mem → Prop} (C : Cx T D p s m args c cc nL own) (hls : ls.size = nL) (Z : Zz EM T D ad 16 A H0 M H locs) (hlink : Cond.methodLink own index yX12_unit ∈ TB) (hR : (n + 1) + 1 ≤ R.frames ∧ 8 + (5 + 11) + 48 * (n + 1) ≤ R.locals) (hcs : cells ≤ R.cells ∧ slots ≤ R.slots) (hcat : (rest.map fun v => v.category).sum ≤ 8) (hdg : decode cc pc = .ok (.invokevirtual index, 3)) (hB : Met l yX12_unit (Cond.code yX12_unit cX12_unit 5 (some .int) :: TB) (RM (n + 1)) (va_Pc [.ref (ad 0)] (WrP EM T D ad 16 M H.size)) (QcW EM T D ad 16 (AA ad 16 H.size) Q1) 0 0 (AA ad 16 H.size))
    (kk : ∀ (r : Int32) (M1 : Mem) (H1 : Heap) (locs1 : List Loc), Q1 r M1 → Zz EM T D ad 16 A H0 M1 H1 locs1 → W p l e R s m args below meth c H1 locs1 cells slots QQ (F0 m (pc + 3) ls (.int r :: rest))) : W p l e R s m args below meth c H locs cells slots QQ (F0 m pc ls (.ref (ad 0) :: rest)) :=
  k_VW (lv := n + 1) (ci := 12) (n := 0) hB tw_5_231 tw_5_230 tw_s_27 tw_1_12 ⟨rfl, by decide, by decide, by decide +kernel⟩ rfl rfl C hls Z oM hlink hR hcs hcat rfl hdg kk
def B_X12_product_32 (u : Mem → (Int32 → Mem → Prop) → Prop) (Q1 : Int32 → Mem → Prop) (X5 : Int32 → Mem → Prop) (x1 : Int32) (M : Mem) : Prop :=
  P_X12_here M (fun v5 => ∀ v6 : Int32, v6 = (M 0 6) + 1 → ∀ M7 : Mem, M7 = sf M 0 6 v6 → u M7 (fun v8 M9 => ((¬ v5 = 42 → ((¬ v8 = 0 → ((¬ v5 = 47 → ¬ v8 = 0 ∧ ∀ x1_14 : Int32, x1_14 = x1 - x1 / v8 * v8 → X5 x1_14 M9) ∧
        (v5 = 47 → ¬ v8 = 0 ∧ ∀ x1_16 : Int32, x1_16 = x1 / v8 → X5 x1_16 M9))) ∧
      (v8 = 0 → X5 0 M9))) ∧
    (v5 = 42 → ∀ x1_17 : Int32, x1_17 = x1 * v8 → X5 x1_17 M9))))
def B_X12_product_5 (u : Mem → (Int32 → Mem → Prop) → Prop) (Q1 : Int32 → Mem → Prop) (x1 : Int32) (M : Mem) : Prop :=
  ∀ X5 : Int32 → Mem → Prop, (∀ (x1 : Int32) (M : Mem), (P_X12_here M (fun v3 => ((v3 = 42 → B_X12_product_32 u Q1 X5 x1 M) ∧
    (¬ v3 = 42 → P_X12_here M (fun v18 => ((v18 = 47 → B_X12_product_32 u Q1 X5 x1 M) ∧
      (¬ v18 = 47 → P_X12_here M (fun v20 => ((¬ v20 = 37 → Q1 x1 M) ∧
        (v20 = 37 → B_X12_product_32 u Q1 X5 x1 M)))))))))) → X5 x1 M) → X5 x1 M
def P_X12_product (u : Mem → (Int32 → Mem → Prop) → Prop) (M : Mem) (Q1 : Int32 → Mem → Prop) : Prop :=
  u M (fun v1 M2 => B_X12_product_5 u Q1 v1 M2)
set_option maxRecDepth 100000 in
set_option maxHeartbeats 4000000 in
theorem w_X12_product_32 {u : Mem → (Int32 → Mem → Prop) → Prop} {n : Nat} {M : Mem} {Q1 : Int32 → Mem → Prop} {X5 : Int32 → Mem → Prop} {x1 : Int32} (C : Cx T D p s m args c cX12_product 4 "OneOfTwoModel") (hr : meth.sig.returnType = (some .int)) (hlk : meth.locks = false) (Z : Zz EM T D ad 16 A s.heap M H locs) (hu : ∀ (M : Mem) (sz : Nat) (Q1 : Int32 → Mem → Prop), u M  Q1 → Met l yX12_unit (Cond.code yX12_unit cX12_unit 5 (some .int) :: TB) (RM (n + 1)) (va_Pc [.ref (ad 0)] (WrP EM T D ad 16 M sz)) (QcW EM T D ad 16 (AA ad 16 sz) Q1) 0 0 (AA ad 16 sz)) (hX5 : ∀ (x1 : Int32) (M : Mem), X5 x1 M → ∀ (H : Heap) (locs : List Loc) (ls : Array Slot), Zz EM T D ad 16 A s.heap M H locs → lv_has ls 4 [(0, .ref (ad 0)), (1, .int x1)] → W p l e (RM (n + 3)) s m args below meth c H locs 0 0 (MQ below (QcW EM T D ad 16 A Q1) args s 0 0 A) (F0 m 5 ls [])) {ls : Array Slot} (hl : lv_has ls 4 [(0, .ref (ad 0)), (1, .int x1)]) (hB : B_X12_product_32 u Q1 X5 x1 M) : W p l e (RM (n + 3)) s m args below meth c H locs 0 0 (MQ below (QcW EM T D ad 16 A Q1) args s 0 0 A) (F0 m 32 ls []) := by
  have hx := C.x
  have hb := C.b
  delta B_X12_product_32 at hB
  refine lv_aload_n hx hb dX12_product_32 rfl (lv_at hl 0 rfl) ?_
  refine v_X12_here C hl.1 Z.1 tw_5_232 (rmk (by omega) (by omega)) ⟨Nat.le_refl _, Nat.le_refl _⟩ (Nat.le_of_ble_eq_true rfl) dX12_product_33 hB (fun v5 hB => ?_)
  refine lv_istore_n (lv' := [(2, .int v5), (0, .ref (ad 0)), (1, .int x1)]) hx hb dX12_product_36 rfl hl (by decide) rfl (fun ls hl => ?_)
  refine lv_aload_n hx hb dX12_product_37 rfl (lv_at hl 1 rfl) ?_
  refine lv_dup hx hb dX12_product_38 rfl ?_
  refine gf_X12_6 C Z.1 tw_5_104 dX12_product_39 ?_
  refine lv_iconst (v := 1) hx hb dX12_product_42 (by decide) ?_
  refine lv_iadd hx hb dX12_product_43 ?_
  refine lv_topi (fun v6 ev6 => ?_)
  have hB := hB v6 ev6
  refine pf_X12_6 C Z tw_5_104 dX12_product_44 (fun M7 H locs eM7 Z => ?_)
  have hB := hB M7 eM7
  refine lv_aload_n hx hb dX12_product_47 rfl (lv_at hl 1 rfl) ?_
  refine vm_X12_unit C hl.1 Z tw_5_228 (rmk (by omega) (by omega)) ⟨Nat.le_refl _, Nat.le_refl _⟩ (Nat.le_of_ble_eq_true rfl) dX12_product_48 (hu _ _ _ hB) (fun v8 M9 H locs hB Z => ?_)
  refine lv_istore_n (lv' := [(3, .int v8), (2, .int v5), (0, .ref (ad 0)), (1, .int x1)]) hx hb dX12_product_51 rfl hl (by decide) rfl (fun ls hl => ?_)
  refine lv_iload_n hx hb dX12_product_52 rfl (lv_at hl 1 rfl) ?_
  refine lv_bipush (v := 42) hx hb dX12_product_53 (by decide) ?_
  refine lv_icmp_ne (tgt := 64) hx hb dX12_product_55 (by decide) (fun q10 => ?_) (fun q10 => ?_)
  · have hB := hB.1 q10
    refine lv_iload_n hx hb dX12_product_64 rfl (lv_at hl 0 rfl) ?_
    refine lv_if_ne (tgt := 72) hx hb dX12_product_65 (by decide) (fun q11 => ?_) (fun q11 => ?_)
    · have hB := hB.1 q11
      refine lv_iload_n hx hb dX12_product_72 rfl (lv_at hl 1 rfl) ?_
      refine lv_bipush (v := 47) hx hb dX12_product_73 (by decide) ?_
      refine lv_icmp_ne (tgt := 84) hx hb dX12_product_75 (by decide) (fun q12 => ?_) (fun q12 => ?_)
      · have hB := hB.1 q12
        refine lv_iload_n hx hb dX12_product_84 rfl (lv_at hl 3 rfl) ?_
        refine lv_iload_n hx hb dX12_product_85 rfl (lv_at hl 0 rfl) ?_
        obtain ⟨q13, hB⟩ := hB
        refine lv_irem hx hb dX12_product_86 q13 ?_
        refine lv_topi (fun x1_14 ex1_14 => ?_)
        have hB := hB x1_14 ex1_14
        refine lv_istore_n (lv' := [(1, .int x1_14), (3, .int v8), (2, .int v5), (0, .ref (ad 0))]) hx hb dX12_product_87 rfl hl (by decide) rfl (fun ls hl => ?_)
        refine lv_goto (tgt := 5) hx hb dX12_product_88 (by decide) ?_
        exact hX5 _ _ hB _ _ _ Z (lv_sub hl [3, 0] rfl)
      · have hB := hB.2 q12
        refine lv_iload_n hx hb dX12_product_78 rfl (lv_at hl 3 rfl) ?_
        refine lv_iload_n hx hb dX12_product_79 rfl (lv_at hl 0 rfl) ?_
        obtain ⟨q15, hB⟩ := hB
        refine lv_idiv hx hb dX12_product_80 q15 ?_
        refine lv_goto (tgt := 87) hx hb dX12_product_81 (by decide) ?_
        refine lv_topi (fun x1_16 ex1_16 => ?_)
        have hB := hB x1_16 ex1_16
        refine lv_istore_n (lv' := [(1, .int x1_16), (3, .int v8), (2, .int v5), (0, .ref (ad 0))]) hx hb dX12_product_87 rfl hl (by decide) rfl (fun ls hl => ?_)
        refine lv_goto (tgt := 5) hx hb dX12_product_88 (by decide) ?_
        exact hX5 _ _ hB _ _ _ Z (lv_sub hl [3, 0] rfl)
    · have hB := hB.2 q11
      refine lv_iconst (v := 0) hx hb dX12_product_68 (by decide) ?_
      refine lv_goto (tgt := 87) hx hb dX12_product_69 (by decide) ?_
      refine lv_istore_n (lv' := [(1, .int 0), (3, .int v8), (2, .int v5), (0, .ref (ad 0))]) hx hb dX12_product_87 rfl hl (by decide) rfl (fun ls hl => ?_)
      refine lv_goto (tgt := 5) hx hb dX12_product_88 (by decide) ?_
      exact hX5 _ _ hB _ _ _ Z (lv_sub hl [3, 0] rfl)
  · have hB := hB.2 q10
    refine lv_iload_n hx hb dX12_product_58 rfl (lv_at hl 3 rfl) ?_
    refine lv_iload_n hx hb dX12_product_59 rfl (lv_at hl 0 rfl) ?_
    refine lv_imul hx hb dX12_product_60 ?_
    refine lv_goto (tgt := 87) hx hb dX12_product_61 (by decide) ?_
    refine lv_topi (fun x1_17 ex1_17 => ?_)
    have hB := hB x1_17 ex1_17
    refine lv_istore_n (lv' := [(1, .int x1_17), (3, .int v8), (2, .int v5), (0, .ref (ad 0))]) hx hb dX12_product_87 rfl hl (by decide) rfl (fun ls hl => ?_)
    refine lv_goto (tgt := 5) hx hb dX12_product_88 (by decide) ?_
    exact hX5 _ _ hB _ _ _ Z (lv_sub hl [3, 0] rfl)
set_option maxRecDepth 100000 in
set_option maxHeartbeats 4000000 in
theorem w_X12_product_5 {u : Mem → (Int32 → Mem → Prop) → Prop} {n : Nat} {M : Mem} {Q1 : Int32 → Mem → Prop} {x1 : Int32} (C : Cx T D p s m args c cX12_product 4 "OneOfTwoModel") (hr : meth.sig.returnType = (some .int)) (hlk : meth.locks = false) (Z : Zz EM T D ad 16 A s.heap M H locs) (hu : ∀ (M : Mem) (sz : Nat) (Q1 : Int32 → Mem → Prop), u M  Q1 → Met l yX12_unit (Cond.code yX12_unit cX12_unit 5 (some .int) :: TB) (RM (n + 1)) (va_Pc [.ref (ad 0)] (WrP EM T D ad 16 M sz)) (QcW EM T D ad 16 (AA ad 16 sz) Q1) 0 0 (AA ad 16 sz)) {ls : Array Slot} (hl : lv_has ls 4 [(0, .ref (ad 0)), (1, .int x1)]) (hB : B_X12_product_5 u Q1 x1 M) : W p l e (RM (n + 3)) s m args below meth c H locs 0 0 (MQ below (QcW EM T D ad 16 A Q1) args s 0 0 A) (F0 m 5 ls []) := by
  delta B_X12_product_5 at hB
  obtain ⟨X5, hX5, hY5⟩ : ∃ X5 : Int32 → Mem → Prop, (∀ (x1 : Int32) (M : Mem), X5 x1 M → ∀ (H : Heap) (locs : List Loc) (ls : Array Slot), Zz EM T D ad 16 A s.heap M H locs → lv_has ls 4 [(0, .ref (ad 0)), (1, .int x1)] → W p l e (RM (n + 3)) s m args below meth c H locs 0 0 (MQ below (QcW EM T D ad 16 A Q1) args s 0 0 A) (F0 m 5 ls [])) ∧ (∀ (x1 : Int32) (M : Mem), (∀ (H : Heap) (locs : List Loc) (ls : Array Slot), Zz EM T D ad 16 A s.heap M H locs → lv_has ls 4 [(0, .ref (ad 0)), (1, .int x1)] → W p l e (RM (n + 3)) s m args below meth c H locs 0 0 (MQ below (QcW EM T D ad 16 A Q1) args s 0 0 A) (F0 m 5 ls [])) → X5 x1 M) := ⟨fun (x1 : Int32) (M : Mem) => ∀ (H : Heap) (locs : List Loc) (ls : Array Slot), Zz EM T D ad 16 A s.heap M H locs → lv_has ls 4 [(0, .ref (ad 0)), (1, .int x1)] → W p l e (RM (n + 3)) s m args below meth c H locs 0 0 (MQ below (QcW EM T D ad 16 A Q1) args s 0 0 A) (F0 m 5 ls []), fun _ _ h => h, fun _ _ h => h⟩
  refine hX5 _ _ (hB X5 (fun x1 M hB => hY5 _ _ (fun H locs ls Z hl => ?_))) _ _ _ Z hl
  have hx := C.x
  have hb := C.b
  refine lv_aload_n hx hb dX12_product_5 rfl (lv_at hl 0 rfl) ?_
  refine v_X12_here C hl.1 Z.1 tw_5_232 (rmk (by omega) (by omega)) ⟨Nat.le_refl _, Nat.le_refl _⟩ (Nat.le_of_ble_eq_true rfl) dX12_product_6 hB (fun v3 hB => ?_)
  refine lv_bipush (v := 42) hx hb dX12_product_9 (by decide) ?_
  refine lv_icmp_eq (tgt := 32) hx hb dX12_product_11 (by decide) (fun q4 => ?_) (fun q4 => ?_)
  · have hB := hB.1 q4
    exact w_X12_product_32 C hr hlk Z hu hX5 (lv_sub hl [0, 1] rfl) hB
  · have hB := hB.2 q4
    refine lv_aload_n hx hb dX12_product_14 rfl (lv_at hl 0 rfl) ?_
    refine v_X12_here C hl.1 Z.1 tw_5_232 (rmk (by omega) (by omega)) ⟨Nat.le_refl _, Nat.le_refl _⟩ (Nat.le_of_ble_eq_true rfl) dX12_product_15 hB (fun v18 hB => ?_)
    refine lv_bipush (v := 47) hx hb dX12_product_18 (by decide) ?_
    refine lv_icmp_eq (tgt := 32) hx hb dX12_product_20 (by decide) (fun q19 => ?_) (fun q19 => ?_)
    · have hB := hB.1 q19
      exact w_X12_product_32 C hr hlk Z hu hX5 (lv_sub hl [0, 1] rfl) hB
    · have hB := hB.2 q19
      refine lv_aload_n hx hb dX12_product_23 rfl (lv_at hl 0 rfl) ?_
      refine v_X12_here C hl.1 Z.1 tw_5_232 (rmk (by omega) (by omega)) ⟨Nat.le_refl _, Nat.le_refl _⟩ (Nat.le_of_ble_eq_true rfl) dX12_product_24 hB (fun v20 hB => ?_)
      refine lv_bipush (v := 37) hx hb dX12_product_27 (by decide) ?_
      refine lv_icmp_ne (tgt := 91) hx hb dX12_product_29 (by decide) (fun q21 => ?_) (fun q21 => ?_)
      · have hB := hB.1 q21
        refine lv_iload_n hx hb dX12_product_91 rfl (lv_at hl 1 rfl) ?_
        exact e_iW C hr hlk Z dX12_product_92 hB
      · have hB := hB.2 q21
        exact w_X12_product_32 C hr hlk Z hu hX5 (lv_sub hl [0, 1] rfl) hB
set_option maxRecDepth 100000 in
set_option maxHeartbeats 4000000 in
theorem c_X12_product {l : Launch} {T : Nat → ClassId} {D : va_G} {ad : Nat → Nat} {u : Mem → (Int32 → Mem → Prop) → Prop} {M : Mem} {n : Nat} {sz : Nat} {Q1 : Int32 → Mem → Prop} (hu : ∀ (M : Mem) (sz : Nat) (Q1 : Int32 → Mem → Prop), u M  Q1 → Met l yX12_unit (Cond.code yX12_unit cX12_unit 5 (some .int) :: TB) (RM (n + 1)) (va_Pc [.ref (ad 0)] (WrP EM T D ad 16 M sz)) (QcW EM T D ad 16 (AA ad 16 sz) Q1) 0 0 (AA ad 16 sz)) (hB : P_X12_product u M Q1) : Met l yX12_product (Cond.code yX12_product cX12_product 4 (some .int) :: TB) (RM (n + 3)) (va_Pc [.ref (ad 0)] (WrP EM T D ad 16 M sz)) (QcW EM T D ad 16 (AA ad 16 sz) Q1) 0 0 (AA ad 16 sz) := by
  refine st_W (by decide) (Nat.le_of_ble_eq_true rfl) (fun p e s m args below meth c ls C hr hlk hsz Z hl => ?_)
  have hl : lv_has ls 4 [(0, .ref (ad 0))] := hl
  generalize AA ad 16 sz = A at Z ⊢
  have hx := C.x
  have hb := C.b
  delta P_X12_product at hB
  refine lv_aload_n hx hb dX12_product_0 rfl (lv_at hl 0 rfl) ?_
  refine vm_X12_unit C hl.1 Z tw_5_228 (rmk (by omega) (by omega)) ⟨Nat.le_refl _, Nat.le_refl _⟩ (Nat.le_of_ble_eq_true rfl) dX12_product_1 (hu _ _ _ hB) (fun v1 M2 H locs hB Z => ?_)
  refine lv_istore_n (lv' := [(1, .int v1), (0, .ref (ad 0))]) hx hb dX12_product_4 rfl hl (by decide) rfl (fun ls hl => ?_)
  exact w_X12_product_5 C hr hlk Z hu (lv_sub hl [1, 0] rfl) hB
set_option maxRecDepth 100000 in
set_option maxHeartbeats 4000000 in
theorem v_X12_product {u : Mem → (Int32 → Mem → Prop) → Prop} {M : Mem} {n : Nat} {Q1 : Int32 → Mem → Prop} (hu : ∀ (M : Mem) (sz : Nat) (Q1 : Int32 → Mem → Prop), u M  Q1 → Met l yX12_unit (Cond.code yX12_unit cX12_unit 5 (some .int) :: TB) (RM (n + 1)) (va_Pc [.ref (ad 0)] (WrP EM T D ad 16 M sz)) (QcW EM T D ad 16 (AA ad 16 sz) Q1) 0 0 (AA ad 16 sz)) (C : Cx T D p s m args c cc nL own) (hls : ls.size = nL) (Z : Zz EM T D ad 16 A H0 M H locs) (hlink : Cond.methodLink own index yX12_product ∈ TB) (hR : (n + 3) + 1 ≤ R.frames ∧ 8 + (4 + 11) + 48 * (n + 3) ≤ R.locals) (hcs : cells ≤ R.cells ∧ slots ≤ R.slots) (hcat : (rest.map fun v => v.category).sum ≤ 8) (hdg : decode cc pc = .ok (.invokevirtual index, 3)) (hB : P_X12_product u M Q1)
    (kk : ∀ (r : Int32) (M1 : Mem) (H1 : Heap) (locs1 : List Loc), Q1 r M1 → Zz EM T D ad 16 A H0 M1 H1 locs1 → W p l e R s m args below meth c H1 locs1 cells slots QQ (F0 m (pc + 3) ls (.int r :: rest))) : W p l e R s m args below meth c H locs cells slots QQ (F0 m pc ls (.ref (ad 0) :: rest)) :=
  k_VW (lv := (n + 3)) (ci := 12) (n := 0) (c_X12_product hu hB) tw_5_227 tw_5_226 tw_s_26 tw_1_12 ⟨rfl, by decide, by decide, by decide +kernel⟩ rfl rfl C hls Z oM hlink hR hcs hcat rfl hdg kk
def B_X12_sum_23 (u : Mem → (Int32 → Mem → Prop) → Prop) (Q1 : Int32 → Mem → Prop) (X5 : Int32 → Mem → Prop) (x1 : Int32) (M : Mem) : Prop :=
  P_X12_here M (fun v5 => ∀ v6 : Int32, v6 = (M 0 6) + 1 → ∀ M7 : Mem, M7 = sf M 0 6 v6 → P_X12_product u M7 (fun v8 M9 => ((¬ v5 = 43 → ∀ x1_11 : Int32, x1_11 = x1 - v8 → X5 x1_11 M9) ∧
    (v5 = 43 → ∀ x1_12 : Int32, x1_12 = x1 + v8 → X5 x1_12 M9))))
def B_X12_sum_5 (u : Mem → (Int32 → Mem → Prop) → Prop) (Q1 : Int32 → Mem → Prop) (x1 : Int32) (M : Mem) : Prop :=
  ∀ X5 : Int32 → Mem → Prop, (∀ (x1 : Int32) (M : Mem), (P_X12_here M (fun v3 => ((v3 = 43 → B_X12_sum_23 u Q1 X5 x1 M) ∧
    (¬ v3 = 43 → P_X12_here M (fun v13 => ((¬ v13 = 45 → Q1 x1 M) ∧
      (v13 = 45 → B_X12_sum_23 u Q1 X5 x1 M))))))) → X5 x1 M) → X5 x1 M
def P_X12_sum (u : Mem → (Int32 → Mem → Prop) → Prop) (M : Mem) (Q1 : Int32 → Mem → Prop) : Prop :=
  P_X12_product u M (fun v1 M2 => B_X12_sum_5 u Q1 v1 M2)
set_option maxRecDepth 100000 in
set_option maxHeartbeats 4000000 in
theorem w_X12_sum_23 {u : Mem → (Int32 → Mem → Prop) → Prop} {n : Nat} {M : Mem} {Q1 : Int32 → Mem → Prop} {X5 : Int32 → Mem → Prop} {x1 : Int32} (C : Cx T D p s m args c cX12_sum 4 "OneOfTwoModel") (hr : meth.sig.returnType = (some .int)) (hlk : meth.locks = false) (Z : Zz EM T D ad 16 A s.heap M H locs) (hu : ∀ (M : Mem) (sz : Nat) (Q1 : Int32 → Mem → Prop), u M  Q1 → Met l yX12_unit (Cond.code yX12_unit cX12_unit 5 (some .int) :: TB) (RM (n + 1)) (va_Pc [.ref (ad 0)] (WrP EM T D ad 16 M sz)) (QcW EM T D ad 16 (AA ad 16 sz) Q1) 0 0 (AA ad 16 sz)) (hX5 : ∀ (x1 : Int32) (M : Mem), X5 x1 M → ∀ (H : Heap) (locs : List Loc) (ls : Array Slot), Zz EM T D ad 16 A s.heap M H locs → lv_has ls 4 [(0, .ref (ad 0)), (1, .int x1)] → W p l e (RM (n + 4)) s m args below meth c H locs 0 0 (MQ below (QcW EM T D ad 16 A Q1) args s 0 0 A) (F0 m 5 ls [])) {ls : Array Slot} (hl : lv_has ls 4 [(0, .ref (ad 0)), (1, .int x1)]) (hB : B_X12_sum_23 u Q1 X5 x1 M) : W p l e (RM (n + 4)) s m args below meth c H locs 0 0 (MQ below (QcW EM T D ad 16 A Q1) args s 0 0 A) (F0 m 23 ls []) := by
  have hx := C.x
  have hb := C.b
  delta B_X12_sum_23 at hB
  refine lv_aload_n hx hb dX12_sum_23 rfl (lv_at hl 0 rfl) ?_
  refine v_X12_here C hl.1 Z.1 tw_5_232 (rmk (by omega) (by omega)) ⟨Nat.le_refl _, Nat.le_refl _⟩ (Nat.le_of_ble_eq_true rfl) dX12_sum_24 hB (fun v5 hB => ?_)
  refine lv_istore_n (lv' := [(2, .int v5), (0, .ref (ad 0)), (1, .int x1)]) hx hb dX12_sum_27 rfl hl (by decide) rfl (fun ls hl => ?_)
  refine lv_aload_n hx hb dX12_sum_28 rfl (lv_at hl 1 rfl) ?_
  refine lv_dup hx hb dX12_sum_29 rfl ?_
  refine gf_X12_6 C Z.1 tw_5_104 dX12_sum_30 ?_
  refine lv_iconst (v := 1) hx hb dX12_sum_33 (by decide) ?_
  refine lv_iadd hx hb dX12_sum_34 ?_
  refine lv_topi (fun v6 ev6 => ?_)
  have hB := hB v6 ev6
  refine pf_X12_6 C Z tw_5_104 dX12_sum_35 (fun M7 H locs eM7 Z => ?_)
  have hB := hB M7 eM7
  refine lv_aload_n hx hb dX12_sum_38 rfl (lv_at hl 1 rfl) ?_
  refine v_X12_product hu C hl.1 Z tw_5_224 (rmk (by omega) (by omega)) ⟨Nat.le_refl _, Nat.le_refl _⟩ (Nat.le_of_ble_eq_true rfl) dX12_sum_39 hB (fun v8 M9 H locs hB Z => ?_)
  refine lv_istore_n (lv' := [(3, .int v8), (2, .int v5), (0, .ref (ad 0)), (1, .int x1)]) hx hb dX12_sum_42 rfl hl (by decide) rfl (fun ls hl => ?_)
  refine lv_iload_n hx hb dX12_sum_43 rfl (lv_at hl 1 rfl) ?_
  refine lv_bipush (v := 43) hx hb dX12_sum_44 (by decide) ?_
  refine lv_icmp_ne (tgt := 55) hx hb dX12_sum_46 (by decide) (fun q10 => ?_) (fun q10 => ?_)
  · have hB := hB.1 q10
    refine lv_iload_n hx hb dX12_sum_55 rfl (lv_at hl 3 rfl) ?_
    refine lv_iload_n hx hb dX12_sum_56 rfl (lv_at hl 0 rfl) ?_
    refine lv_isub hx hb dX12_sum_57 ?_
    refine lv_topi (fun x1_11 ex1_11 => ?_)
    have hB := hB x1_11 ex1_11
    refine lv_istore_n (lv' := [(1, .int x1_11), (3, .int v8), (2, .int v5), (0, .ref (ad 0))]) hx hb dX12_sum_58 rfl hl (by decide) rfl (fun ls hl => ?_)
    refine lv_goto (tgt := 5) hx hb dX12_sum_59 (by decide) ?_
    exact hX5 _ _ hB _ _ _ Z (lv_sub hl [3, 0] rfl)
  · have hB := hB.2 q10
    refine lv_iload_n hx hb dX12_sum_49 rfl (lv_at hl 3 rfl) ?_
    refine lv_iload_n hx hb dX12_sum_50 rfl (lv_at hl 0 rfl) ?_
    refine lv_iadd hx hb dX12_sum_51 ?_
    refine lv_goto (tgt := 58) hx hb dX12_sum_52 (by decide) ?_
    refine lv_topi (fun x1_12 ex1_12 => ?_)
    have hB := hB x1_12 ex1_12
    refine lv_istore_n (lv' := [(1, .int x1_12), (3, .int v8), (2, .int v5), (0, .ref (ad 0))]) hx hb dX12_sum_58 rfl hl (by decide) rfl (fun ls hl => ?_)
    refine lv_goto (tgt := 5) hx hb dX12_sum_59 (by decide) ?_
    exact hX5 _ _ hB _ _ _ Z (lv_sub hl [3, 0] rfl)
set_option maxRecDepth 100000 in
set_option maxHeartbeats 4000000 in
theorem w_X12_sum_5 {u : Mem → (Int32 → Mem → Prop) → Prop} {n : Nat} {M : Mem} {Q1 : Int32 → Mem → Prop} {x1 : Int32} (C : Cx T D p s m args c cX12_sum 4 "OneOfTwoModel") (hr : meth.sig.returnType = (some .int)) (hlk : meth.locks = false) (Z : Zz EM T D ad 16 A s.heap M H locs) (hu : ∀ (M : Mem) (sz : Nat) (Q1 : Int32 → Mem → Prop), u M  Q1 → Met l yX12_unit (Cond.code yX12_unit cX12_unit 5 (some .int) :: TB) (RM (n + 1)) (va_Pc [.ref (ad 0)] (WrP EM T D ad 16 M sz)) (QcW EM T D ad 16 (AA ad 16 sz) Q1) 0 0 (AA ad 16 sz)) {ls : Array Slot} (hl : lv_has ls 4 [(0, .ref (ad 0)), (1, .int x1)]) (hB : B_X12_sum_5 u Q1 x1 M) : W p l e (RM (n + 4)) s m args below meth c H locs 0 0 (MQ below (QcW EM T D ad 16 A Q1) args s 0 0 A) (F0 m 5 ls []) := by
  delta B_X12_sum_5 at hB
  obtain ⟨X5, hX5, hY5⟩ : ∃ X5 : Int32 → Mem → Prop, (∀ (x1 : Int32) (M : Mem), X5 x1 M → ∀ (H : Heap) (locs : List Loc) (ls : Array Slot), Zz EM T D ad 16 A s.heap M H locs → lv_has ls 4 [(0, .ref (ad 0)), (1, .int x1)] → W p l e (RM (n + 4)) s m args below meth c H locs 0 0 (MQ below (QcW EM T D ad 16 A Q1) args s 0 0 A) (F0 m 5 ls [])) ∧ (∀ (x1 : Int32) (M : Mem), (∀ (H : Heap) (locs : List Loc) (ls : Array Slot), Zz EM T D ad 16 A s.heap M H locs → lv_has ls 4 [(0, .ref (ad 0)), (1, .int x1)] → W p l e (RM (n + 4)) s m args below meth c H locs 0 0 (MQ below (QcW EM T D ad 16 A Q1) args s 0 0 A) (F0 m 5 ls [])) → X5 x1 M) := ⟨fun (x1 : Int32) (M : Mem) => ∀ (H : Heap) (locs : List Loc) (ls : Array Slot), Zz EM T D ad 16 A s.heap M H locs → lv_has ls 4 [(0, .ref (ad 0)), (1, .int x1)] → W p l e (RM (n + 4)) s m args below meth c H locs 0 0 (MQ below (QcW EM T D ad 16 A Q1) args s 0 0 A) (F0 m 5 ls []), fun _ _ h => h, fun _ _ h => h⟩
  refine hX5 _ _ (hB X5 (fun x1 M hB => hY5 _ _ (fun H locs ls Z hl => ?_))) _ _ _ Z hl
  have hx := C.x
  have hb := C.b
  refine lv_aload_n hx hb dX12_sum_5 rfl (lv_at hl 0 rfl) ?_
  refine v_X12_here C hl.1 Z.1 tw_5_232 (rmk (by omega) (by omega)) ⟨Nat.le_refl _, Nat.le_refl _⟩ (Nat.le_of_ble_eq_true rfl) dX12_sum_6 hB (fun v3 hB => ?_)
  refine lv_bipush (v := 43) hx hb dX12_sum_9 (by decide) ?_
  refine lv_icmp_eq (tgt := 23) hx hb dX12_sum_11 (by decide) (fun q4 => ?_) (fun q4 => ?_)
  · have hB := hB.1 q4
    exact w_X12_sum_23 C hr hlk Z hu hX5 (lv_sub hl [0, 1] rfl) hB
  · have hB := hB.2 q4
    refine lv_aload_n hx hb dX12_sum_14 rfl (lv_at hl 0 rfl) ?_
    refine v_X12_here C hl.1 Z.1 tw_5_232 (rmk (by omega) (by omega)) ⟨Nat.le_refl _, Nat.le_refl _⟩ (Nat.le_of_ble_eq_true rfl) dX12_sum_15 hB (fun v13 hB => ?_)
    refine lv_bipush (v := 45) hx hb dX12_sum_18 (by decide) ?_
    refine lv_icmp_ne (tgt := 62) hx hb dX12_sum_20 (by decide) (fun q14 => ?_) (fun q14 => ?_)
    · have hB := hB.1 q14
      refine lv_iload_n hx hb dX12_sum_62 rfl (lv_at hl 1 rfl) ?_
      exact e_iW C hr hlk Z dX12_sum_63 hB
    · have hB := hB.2 q14
      exact w_X12_sum_23 C hr hlk Z hu hX5 (lv_sub hl [0, 1] rfl) hB
set_option maxRecDepth 100000 in
set_option maxHeartbeats 4000000 in
theorem c_X12_sum {l : Launch} {T : Nat → ClassId} {D : va_G} {ad : Nat → Nat} {u : Mem → (Int32 → Mem → Prop) → Prop} {M : Mem} {n : Nat} {sz : Nat} {Q1 : Int32 → Mem → Prop} (hu : ∀ (M : Mem) (sz : Nat) (Q1 : Int32 → Mem → Prop), u M  Q1 → Met l yX12_unit (Cond.code yX12_unit cX12_unit 5 (some .int) :: TB) (RM (n + 1)) (va_Pc [.ref (ad 0)] (WrP EM T D ad 16 M sz)) (QcW EM T D ad 16 (AA ad 16 sz) Q1) 0 0 (AA ad 16 sz)) (hB : P_X12_sum u M Q1) : Met l yX12_sum (Cond.code yX12_sum cX12_sum 4 (some .int) :: TB) (RM (n + 4)) (va_Pc [.ref (ad 0)] (WrP EM T D ad 16 M sz)) (QcW EM T D ad 16 (AA ad 16 sz) Q1) 0 0 (AA ad 16 sz) := by
  refine st_W (by decide) (Nat.le_of_ble_eq_true rfl) (fun p e s m args below meth c ls C hr hlk hsz Z hl => ?_)
  have hl : lv_has ls 4 [(0, .ref (ad 0))] := hl
  generalize AA ad 16 sz = A at Z ⊢
  have hx := C.x
  have hb := C.b
  delta P_X12_sum at hB
  refine lv_aload_n hx hb dX12_sum_0 rfl (lv_at hl 0 rfl) ?_
  refine v_X12_product hu C hl.1 Z tw_5_224 (rmk (by omega) (by omega)) ⟨Nat.le_refl _, Nat.le_refl _⟩ (Nat.le_of_ble_eq_true rfl) dX12_sum_1 hB (fun v1 M2 H locs hB Z => ?_)
  refine lv_istore_n (lv' := [(1, .int v1), (0, .ref (ad 0))]) hx hb dX12_sum_4 rfl hl (by decide) rfl (fun ls hl => ?_)
  exact w_X12_sum_5 C hr hlk Z hu (lv_sub hl [1, 0] rfl) hB
set_option maxRecDepth 100000 in
set_option maxHeartbeats 4000000 in
theorem v_X12_sum {u : Mem → (Int32 → Mem → Prop) → Prop} {M : Mem} {n : Nat} {Q1 : Int32 → Mem → Prop} (hu : ∀ (M : Mem) (sz : Nat) (Q1 : Int32 → Mem → Prop), u M  Q1 → Met l yX12_unit (Cond.code yX12_unit cX12_unit 5 (some .int) :: TB) (RM (n + 1)) (va_Pc [.ref (ad 0)] (WrP EM T D ad 16 M sz)) (QcW EM T D ad 16 (AA ad 16 sz) Q1) 0 0 (AA ad 16 sz)) (C : Cx T D p s m args c cc nL own) (hls : ls.size = nL) (Z : Zz EM T D ad 16 A H0 M H locs) (hlink : Cond.methodLink own index yX12_sum ∈ TB) (hR : (n + 4) + 1 ≤ R.frames ∧ 8 + (4 + 11) + 48 * (n + 4) ≤ R.locals) (hcs : cells ≤ R.cells ∧ slots ≤ R.slots) (hcat : (rest.map fun v => v.category).sum ≤ 8) (hdg : decode cc pc = .ok (.invokevirtual index, 3)) (hB : P_X12_sum u M Q1)
    (kk : ∀ (r : Int32) (M1 : Mem) (H1 : Heap) (locs1 : List Loc), Q1 r M1 → Zz EM T D ad 16 A H0 M1 H1 locs1 → W p l e R s m args below meth c H1 locs1 cells slots QQ (F0 m (pc + 3) ls (.int r :: rest))) : W p l e R s m args below meth c H locs cells slots QQ (F0 m pc ls (.ref (ad 0) :: rest)) :=
  k_VW (lv := (n + 4)) (ci := 12) (n := 0) (c_X12_sum hu hB) tw_5_223 tw_5_222 tw_s_25 tw_1_12 ⟨rfl, by decide, by decide, by decide +kernel⟩ rfl rfl C hls Z oM hlink hR hcs hcat rfl hdg kk
def B_X12_compared_30 (u : Mem → (Int32 → Mem → Prop) → Prop) (Q1 : Int32 → Mem → Prop) (x1 : Int32) (x2 : Int32) (M : Mem) : Prop :=
  ∀ v5 : Int32, v5 = (M 0 6) + 1 → ∀ M6 : Mem, M6 = sf M 0 6 v5 → P_X12_sum u M6 (fun v7 M8 => ((¬ x2 = 60 → ((¬ x2 = 61 → ((x1 ≤ v7 → Q1 0 M8) ∧
        (¬ x1 ≤ v7 → Q1 1 M8))) ∧
      (x2 = 61 → ((¬ x1 = v7 → Q1 0 M8) ∧
        (x1 = v7 → Q1 1 M8))))) ∧
    (x2 = 60 → ((v7 ≤ x1 → Q1 0 M8) ∧
      (¬ v7 ≤ x1 → Q1 1 M8)))))
def P_X12_compared (u : Mem → (Int32 → Mem → Prop) → Prop) (M : Mem) (Q1 : Int32 → Mem → Prop) : Prop :=
  P_X12_sum u M (fun v1 M2 => P_X12_here M2 (fun v3 => ((v3 = 60 → B_X12_compared_30 u Q1 v1 v3 M2) ∧
    (¬ v3 = 60 → ((v3 = 61 → B_X12_compared_30 u Q1 v1 v3 M2) ∧
      (¬ v3 = 61 → ((v3 = 62 → B_X12_compared_30 u Q1 v1 v3 M2) ∧
        (¬ v3 = 62 → Q1 v1 M2))))))))
set_option maxRecDepth 100000 in
set_option maxHeartbeats 4000000 in
theorem w_X12_compared_30 {u : Mem → (Int32 → Mem → Prop) → Prop} {n : Nat} {M : Mem} {Q1 : Int32 → Mem → Prop} {x1 : Int32} {x2 : Int32} (C : Cx T D p s m args c cX12_compared 4 "OneOfTwoModel") (hr : meth.sig.returnType = (some .int)) (hlk : meth.locks = false) (Z : Zz EM T D ad 16 A s.heap M H locs) (hu : ∀ (M : Mem) (sz : Nat) (Q1 : Int32 → Mem → Prop), u M  Q1 → Met l yX12_unit (Cond.code yX12_unit cX12_unit 5 (some .int) :: TB) (RM (n + 1)) (va_Pc [.ref (ad 0)] (WrP EM T D ad 16 M sz)) (QcW EM T D ad 16 (AA ad 16 sz) Q1) 0 0 (AA ad 16 sz)) {ls : Array Slot} (hl : lv_has ls 4 [(0, .ref (ad 0)), (1, .int x1), (2, .int x2)]) (hB : B_X12_compared_30 u Q1 x1 x2 M) : W p l e (RM (n + 5)) s m args below meth c H locs 0 0 (MQ below (QcW EM T D ad 16 A Q1) args s 0 0 A) (F0 m 30 ls []) := by
  have hx := C.x
  have hb := C.b
  delta B_X12_compared_30 at hB
  refine lv_aload_n hx hb dX12_compared_30 rfl (lv_at hl 0 rfl) ?_
  refine lv_dup hx hb dX12_compared_31 rfl ?_
  refine gf_X12_6 C Z.1 tw_5_104 dX12_compared_32 ?_
  refine lv_iconst (v := 1) hx hb dX12_compared_35 (by decide) ?_
  refine lv_iadd hx hb dX12_compared_36 ?_
  refine lv_topi (fun v5 ev5 => ?_)
  have hB := hB v5 ev5
  refine pf_X12_6 C Z tw_5_104 dX12_compared_37 (fun M6 H locs eM6 Z => ?_)
  have hB := hB M6 eM6
  refine lv_aload_n hx hb dX12_compared_40 rfl (lv_at hl 0 rfl) ?_
  refine v_X12_sum hu C hl.1 Z tw_5_220 (rmk (by omega) (by omega)) ⟨Nat.le_refl _, Nat.le_refl _⟩ (Nat.le_of_ble_eq_true rfl) dX12_compared_41 hB (fun v7 M8 H locs hB Z => ?_)
  refine lv_istore_n (lv' := [(3, .int v7), (0, .ref (ad 0)), (1, .int x1), (2, .int x2)]) hx hb dX12_compared_44 rfl hl (by decide) rfl (fun ls hl => ?_)
  refine lv_iload_n hx hb dX12_compared_45 rfl (lv_at hl 3 rfl) ?_
  refine lv_bipush (v := 60) hx hb dX12_compared_46 (by decide) ?_
  refine lv_icmp_ne (tgt := 59) hx hb dX12_compared_48 (by decide) (fun q9 => ?_) (fun q9 => ?_)
  · have hB := hB.1 q9
    refine lv_iload_n hx hb dX12_compared_59 rfl (lv_at hl 3 rfl) ?_
    refine lv_bipush (v := 61) hx hb dX12_compared_60 (by decide) ?_
    refine lv_icmp_ne (tgt := 73) hx hb dX12_compared_62 (by decide) (fun q10 => ?_) (fun q10 => ?_)
    · have hB := hB.1 q10
      refine lv_iload_n hx hb dX12_compared_73 rfl (lv_at hl 2 rfl) ?_
      refine lv_iload_n hx hb dX12_compared_74 rfl (lv_at hl 0 rfl) ?_
      refine lv_icmp_le (tgt := 82) hx hb dX12_compared_75 (by decide) (fun q11 => ?_) (fun q11 => ?_)
      · have hB := hB.1 q11
        refine lv_iconst (v := 0) hx hb dX12_compared_82 (by decide) ?_
        exact e_iW C hr hlk Z dX12_compared_83 hB
      · have hB := hB.2 q11
        refine lv_iconst (v := 1) hx hb dX12_compared_78 (by decide) ?_
        refine lv_goto (tgt := 83) hx hb dX12_compared_79 (by decide) ?_
        exact e_iW C hr hlk Z dX12_compared_83 hB
    · have hB := hB.2 q10
      refine lv_iload_n hx hb dX12_compared_65 rfl (lv_at hl 2 rfl) ?_
      refine lv_iload_n hx hb dX12_compared_66 rfl (lv_at hl 0 rfl) ?_
      refine lv_icmp_ne (tgt := 82) hx hb dX12_compared_67 (by decide) (fun q12 => ?_) (fun q12 => ?_)
      · have hB := hB.1 q12
        refine lv_iconst (v := 0) hx hb dX12_compared_82 (by decide) ?_
        exact e_iW C hr hlk Z dX12_compared_83 hB
      · have hB := hB.2 q12
        refine lv_goto (tgt := 78) hx hb dX12_compared_70 (by decide) ?_
        refine lv_iconst (v := 1) hx hb dX12_compared_78 (by decide) ?_
        refine lv_goto (tgt := 83) hx hb dX12_compared_79 (by decide) ?_
        exact e_iW C hr hlk Z dX12_compared_83 hB
  · have hB := hB.2 q9
    refine lv_iload_n hx hb dX12_compared_51 rfl (lv_at hl 2 rfl) ?_
    refine lv_iload_n hx hb dX12_compared_52 rfl (lv_at hl 0 rfl) ?_
    refine lv_icmp_ge (tgt := 82) hx hb dX12_compared_53 (by decide) (fun q13 => ?_) (fun q13 => ?_)
    · have hB := hB.1 q13
      refine lv_iconst (v := 0) hx hb dX12_compared_82 (by decide) ?_
      exact e_iW C hr hlk Z dX12_compared_83 hB
    · have hB := hB.2 q13
      refine lv_goto (tgt := 78) hx hb dX12_compared_56 (by decide) ?_
      refine lv_iconst (v := 1) hx hb dX12_compared_78 (by decide) ?_
      refine lv_goto (tgt := 83) hx hb dX12_compared_79 (by decide) ?_
      exact e_iW C hr hlk Z dX12_compared_83 hB
set_option maxRecDepth 100000 in
set_option maxHeartbeats 4000000 in
theorem c_X12_compared {l : Launch} {T : Nat → ClassId} {D : va_G} {ad : Nat → Nat} {u : Mem → (Int32 → Mem → Prop) → Prop} {M : Mem} {n : Nat} {sz : Nat} {Q1 : Int32 → Mem → Prop} (hu : ∀ (M : Mem) (sz : Nat) (Q1 : Int32 → Mem → Prop), u M  Q1 → Met l yX12_unit (Cond.code yX12_unit cX12_unit 5 (some .int) :: TB) (RM (n + 1)) (va_Pc [.ref (ad 0)] (WrP EM T D ad 16 M sz)) (QcW EM T D ad 16 (AA ad 16 sz) Q1) 0 0 (AA ad 16 sz)) (hB : P_X12_compared u M Q1) : Met l yX12_compared (Cond.code yX12_compared cX12_compared 4 (some .int) :: TB) (RM (n + 5)) (va_Pc [.ref (ad 0)] (WrP EM T D ad 16 M sz)) (QcW EM T D ad 16 (AA ad 16 sz) Q1) 0 0 (AA ad 16 sz) := by
  refine st_W (by decide) (Nat.le_of_ble_eq_true rfl) (fun p e s m args below meth c ls C hr hlk hsz Z hl => ?_)
  have hl : lv_has ls 4 [(0, .ref (ad 0))] := hl
  generalize AA ad 16 sz = A at Z ⊢
  have hx := C.x
  have hb := C.b
  delta P_X12_compared at hB
  refine lv_aload_n hx hb dX12_compared_0 rfl (lv_at hl 0 rfl) ?_
  refine v_X12_sum hu C hl.1 Z tw_5_220 (rmk (by omega) (by omega)) ⟨Nat.le_refl _, Nat.le_refl _⟩ (Nat.le_of_ble_eq_true rfl) dX12_compared_1 hB (fun v1 M2 H locs hB Z => ?_)
  refine lv_istore_n (lv' := [(1, .int v1), (0, .ref (ad 0))]) hx hb dX12_compared_4 rfl hl (by decide) rfl (fun ls hl => ?_)
  refine lv_aload_n hx hb dX12_compared_5 rfl (lv_at hl 1 rfl) ?_
  refine v_X12_here C hl.1 Z.1 tw_5_232 (rmk (by omega) (by omega)) ⟨Nat.le_refl _, Nat.le_refl _⟩ (Nat.le_of_ble_eq_true rfl) dX12_compared_6 hB (fun v3 hB => ?_)
  refine lv_istore_n (lv' := [(2, .int v3), (1, .int v1), (0, .ref (ad 0))]) hx hb dX12_compared_9 rfl hl (by decide) rfl (fun ls hl => ?_)
  refine lv_iload_n hx hb dX12_compared_10 rfl (lv_at hl 0 rfl) ?_
  refine lv_bipush (v := 60) hx hb dX12_compared_11 (by decide) ?_
  refine lv_icmp_eq (tgt := 30) hx hb dX12_compared_13 (by decide) (fun q4 => ?_) (fun q4 => ?_)
  · have hB := hB.1 q4
    exact w_X12_compared_30 C hr hlk Z hu (lv_sub hl [2, 1, 0] rfl) hB
  · have hB := hB.2 q4
    refine lv_iload_n hx hb dX12_compared_16 rfl (lv_at hl 0 rfl) ?_
    refine lv_bipush (v := 61) hx hb dX12_compared_17 (by decide) ?_
    refine lv_icmp_eq (tgt := 30) hx hb dX12_compared_19 (by decide) (fun q14 => ?_) (fun q14 => ?_)
    · have hB := hB.1 q14
      exact w_X12_compared_30 C hr hlk Z hu (lv_sub hl [2, 1, 0] rfl) hB
    · have hB := hB.2 q14
      refine lv_iload_n hx hb dX12_compared_22 rfl (lv_at hl 0 rfl) ?_
      refine lv_bipush (v := 62) hx hb dX12_compared_23 (by decide) ?_
      refine lv_icmp_eq (tgt := 30) hx hb dX12_compared_25 (by decide) (fun q15 => ?_) (fun q15 => ?_)
      · have hB := hB.1 q15
        exact w_X12_compared_30 C hr hlk Z hu (lv_sub hl [2, 1, 0] rfl) hB
      · have hB := hB.2 q15
        refine lv_iload_n hx hb dX12_compared_28 rfl (lv_at hl 1 rfl) ?_
        exact e_iW C hr hlk Z dX12_compared_29 hB
set_option maxRecDepth 100000 in
set_option maxHeartbeats 4000000 in
theorem v_X12_compared {u : Mem → (Int32 → Mem → Prop) → Prop} {M : Mem} {n : Nat} {Q1 : Int32 → Mem → Prop} (hu : ∀ (M : Mem) (sz : Nat) (Q1 : Int32 → Mem → Prop), u M  Q1 → Met l yX12_unit (Cond.code yX12_unit cX12_unit 5 (some .int) :: TB) (RM (n + 1)) (va_Pc [.ref (ad 0)] (WrP EM T D ad 16 M sz)) (QcW EM T D ad 16 (AA ad 16 sz) Q1) 0 0 (AA ad 16 sz)) (C : Cx T D p s m args c cc nL own) (hls : ls.size = nL) (Z : Zz EM T D ad 16 A H0 M H locs) (hlink : Cond.methodLink own index yX12_compared ∈ TB) (hR : (n + 5) + 1 ≤ R.frames ∧ 8 + (4 + 11) + 48 * (n + 5) ≤ R.locals) (hcs : cells ≤ R.cells ∧ slots ≤ R.slots) (hcat : (rest.map fun v => v.category).sum ≤ 8) (hdg : decode cc pc = .ok (.invokevirtual index, 3)) (hB : P_X12_compared u M Q1)
    (kk : ∀ (r : Int32) (M1 : Mem) (H1 : Heap) (locs1 : List Loc), Q1 r M1 → Zz EM T D ad 16 A H0 M1 H1 locs1 → W p l e R s m args below meth c H1 locs1 cells slots QQ (F0 m (pc + 3) ls (.int r :: rest))) : W p l e R s m args below meth c H locs cells slots QQ (F0 m pc ls (.ref (ad 0) :: rest)) :=
  k_VW (lv := (n + 5)) (ci := 12) (n := 0) (c_X12_compared hu hB) tw_5_219 tw_5_218 tw_s_24 tw_1_12 ⟨rfl, by decide, by decide, by decide +kernel⟩ rfl rfl C hls Z oM hlink hR hcs hcat rfl hdg kk
def B_X12_both_5 (u : Mem → (Int32 → Mem → Prop) → Prop) (Q1 : Int32 → Mem → Prop) (x1 : Int32) (M : Mem) : Prop :=
  ∀ X5 : Int32 → Mem → Prop, (∀ (x1 : Int32) (M : Mem), (P_X12_takes M 38 (fun v3 M4 => ((v3 = 0 → Q1 x1 M4) ∧
    (¬ v3 = 0 → P_X12_compared u M4 (fun v6 M7 => ((x1 = 0 → X5 0 M7) ∧
      (¬ x1 = 0 → ((v6 = 0 → X5 0 M7) ∧
        (¬ v6 = 0 → X5 1 M7))))))))) → X5 x1 M) → X5 x1 M
def P_X12_both (u : Mem → (Int32 → Mem → Prop) → Prop) (M : Mem) (Q1 : Int32 → Mem → Prop) : Prop :=
  P_X12_compared u M (fun v1 M2 => B_X12_both_5 u Q1 v1 M2)
set_option maxRecDepth 100000 in
set_option maxHeartbeats 4000000 in
theorem w_X12_both_5 {u : Mem → (Int32 → Mem → Prop) → Prop} {n : Nat} {M : Mem} {Q1 : Int32 → Mem → Prop} {x1 : Int32} (C : Cx T D p s m args c cX12_both 3 "OneOfTwoModel") (hr : meth.sig.returnType = (some .int)) (hlk : meth.locks = false) (Z : Zz EM T D ad 16 A s.heap M H locs) (hu : ∀ (M : Mem) (sz : Nat) (Q1 : Int32 → Mem → Prop), u M  Q1 → Met l yX12_unit (Cond.code yX12_unit cX12_unit 5 (some .int) :: TB) (RM (n + 1)) (va_Pc [.ref (ad 0)] (WrP EM T D ad 16 M sz)) (QcW EM T D ad 16 (AA ad 16 sz) Q1) 0 0 (AA ad 16 sz)) {ls : Array Slot} (hl : lv_has ls 3 [(0, .ref (ad 0)), (1, .int x1)]) (hB : B_X12_both_5 u Q1 x1 M) : W p l e (RM (n + 6)) s m args below meth c H locs 0 0 (MQ below (QcW EM T D ad 16 A Q1) args s 0 0 A) (F0 m 5 ls []) := by
  delta B_X12_both_5 at hB
  obtain ⟨X5, hX5, hY5⟩ : ∃ X5 : Int32 → Mem → Prop, (∀ (x1 : Int32) (M : Mem), X5 x1 M → ∀ (H : Heap) (locs : List Loc) (ls : Array Slot), Zz EM T D ad 16 A s.heap M H locs → lv_has ls 3 [(0, .ref (ad 0)), (1, .int x1)] → W p l e (RM (n + 6)) s m args below meth c H locs 0 0 (MQ below (QcW EM T D ad 16 A Q1) args s 0 0 A) (F0 m 5 ls [])) ∧ (∀ (x1 : Int32) (M : Mem), (∀ (H : Heap) (locs : List Loc) (ls : Array Slot), Zz EM T D ad 16 A s.heap M H locs → lv_has ls 3 [(0, .ref (ad 0)), (1, .int x1)] → W p l e (RM (n + 6)) s m args below meth c H locs 0 0 (MQ below (QcW EM T D ad 16 A Q1) args s 0 0 A) (F0 m 5 ls [])) → X5 x1 M) := ⟨fun (x1 : Int32) (M : Mem) => ∀ (H : Heap) (locs : List Loc) (ls : Array Slot), Zz EM T D ad 16 A s.heap M H locs → lv_has ls 3 [(0, .ref (ad 0)), (1, .int x1)] → W p l e (RM (n + 6)) s m args below meth c H locs 0 0 (MQ below (QcW EM T D ad 16 A Q1) args s 0 0 A) (F0 m 5 ls []), fun _ _ h => h, fun _ _ h => h⟩
  refine hX5 _ _ (hB X5 (fun x1 M hB => hY5 _ _ (fun H locs ls Z hl => ?_))) _ _ _ Z hl
  have hx := C.x
  have hb := C.b
  refine lv_aload_n hx hb dX12_both_5 rfl (lv_at hl 0 rfl) ?_
  refine lv_bipush (v := 38) hx hb dX12_both_6 (by decide) ?_
  refine v_X12_takes C hl.1 Z tw_6_0 (rmk (by omega) (by omega)) ⟨Nat.le_refl _, Nat.le_refl _⟩ (Nat.le_of_ble_eq_true rfl) dX12_both_8 hB (fun v3 M4 H locs hB Z => ?_)
  refine lv_if_eq (tgt := 36) hx hb dX12_both_11 (by decide) (fun q5 => ?_) (fun q5 => ?_)
  · have hB := hB.1 q5
    refine lv_iload_n hx hb dX12_both_36 rfl (lv_at hl 1 rfl) ?_
    exact e_iW C hr hlk Z dX12_both_37 hB
  · have hB := hB.2 q5
    refine lv_aload_n hx hb dX12_both_14 rfl (lv_at hl 0 rfl) ?_
    refine v_X12_compared hu C hl.1 Z tw_5_216 (rmk (by omega) (by omega)) ⟨Nat.le_refl _, Nat.le_refl _⟩ (Nat.le_of_ble_eq_true rfl) dX12_both_15 hB (fun v6 M7 H locs hB Z => ?_)
    refine lv_istore_n (lv' := [(2, .int v6), (0, .ref (ad 0)), (1, .int x1)]) hx hb dX12_both_18 rfl hl (by decide) rfl (fun ls hl => ?_)
    refine lv_iload_n hx hb dX12_both_19 rfl (lv_at hl 2 rfl) ?_
    refine lv_if_eq (tgt := 31) hx hb dX12_both_20 (by decide) (fun q8 => ?_) (fun q8 => ?_)
    · have hB := hB.1 q8
      refine lv_iconst (v := 0) hx hb dX12_both_31 (by decide) ?_
      refine lv_istore_n (lv' := [(1, .int 0), (2, .int v6), (0, .ref (ad 0))]) hx hb dX12_both_32 rfl hl (by decide) rfl (fun ls hl => ?_)
      refine lv_goto (tgt := 5) hx hb dX12_both_33 (by decide) ?_
      exact hX5 _ _ hB _ _ _ Z (lv_sub hl [2, 0] rfl)
    · have hB := hB.2 q8
      refine lv_iload_n hx hb dX12_both_23 rfl (lv_at hl 0 rfl) ?_
      refine lv_if_eq (tgt := 31) hx hb dX12_both_24 (by decide) (fun q9 => ?_) (fun q9 => ?_)
      · have hB := hB.1 q9
        refine lv_iconst (v := 0) hx hb dX12_both_31 (by decide) ?_
        refine lv_istore_n (lv' := [(1, .int 0), (2, .int v6), (0, .ref (ad 0))]) hx hb dX12_both_32 rfl hl (by decide) rfl (fun ls hl => ?_)
        refine lv_goto (tgt := 5) hx hb dX12_both_33 (by decide) ?_
        exact hX5 _ _ hB _ _ _ Z (lv_sub hl [2, 0] rfl)
      · have hB := hB.2 q9
        refine lv_iconst (v := 1) hx hb dX12_both_27 (by decide) ?_
        refine lv_goto (tgt := 32) hx hb dX12_both_28 (by decide) ?_
        refine lv_istore_n (lv' := [(1, .int 1), (2, .int v6), (0, .ref (ad 0))]) hx hb dX12_both_32 rfl hl (by decide) rfl (fun ls hl => ?_)
        refine lv_goto (tgt := 5) hx hb dX12_both_33 (by decide) ?_
        exact hX5 _ _ hB _ _ _ Z (lv_sub hl [2, 0] rfl)
set_option maxRecDepth 100000 in
set_option maxHeartbeats 4000000 in
theorem c_X12_both {l : Launch} {T : Nat → ClassId} {D : va_G} {ad : Nat → Nat} {u : Mem → (Int32 → Mem → Prop) → Prop} {M : Mem} {n : Nat} {sz : Nat} {Q1 : Int32 → Mem → Prop} (hu : ∀ (M : Mem) (sz : Nat) (Q1 : Int32 → Mem → Prop), u M  Q1 → Met l yX12_unit (Cond.code yX12_unit cX12_unit 5 (some .int) :: TB) (RM (n + 1)) (va_Pc [.ref (ad 0)] (WrP EM T D ad 16 M sz)) (QcW EM T D ad 16 (AA ad 16 sz) Q1) 0 0 (AA ad 16 sz)) (hB : P_X12_both u M Q1) : Met l yX12_both (Cond.code yX12_both cX12_both 3 (some .int) :: TB) (RM (n + 6)) (va_Pc [.ref (ad 0)] (WrP EM T D ad 16 M sz)) (QcW EM T D ad 16 (AA ad 16 sz) Q1) 0 0 (AA ad 16 sz) := by
  refine st_W (by decide) (Nat.le_of_ble_eq_true rfl) (fun p e s m args below meth c ls C hr hlk hsz Z hl => ?_)
  have hl : lv_has ls 3 [(0, .ref (ad 0))] := hl
  generalize AA ad 16 sz = A at Z ⊢
  have hx := C.x
  have hb := C.b
  delta P_X12_both at hB
  refine lv_aload_n hx hb dX12_both_0 rfl (lv_at hl 0 rfl) ?_
  refine v_X12_compared hu C hl.1 Z tw_5_216 (rmk (by omega) (by omega)) ⟨Nat.le_refl _, Nat.le_refl _⟩ (Nat.le_of_ble_eq_true rfl) dX12_both_1 hB (fun v1 M2 H locs hB Z => ?_)
  refine lv_istore_n (lv' := [(1, .int v1), (0, .ref (ad 0))]) hx hb dX12_both_4 rfl hl (by decide) rfl (fun ls hl => ?_)
  exact w_X12_both_5 C hr hlk Z hu (lv_sub hl [1, 0] rfl) hB
set_option maxRecDepth 100000 in
set_option maxHeartbeats 4000000 in
theorem v_X12_both {u : Mem → (Int32 → Mem → Prop) → Prop} {M : Mem} {n : Nat} {Q1 : Int32 → Mem → Prop} (hu : ∀ (M : Mem) (sz : Nat) (Q1 : Int32 → Mem → Prop), u M  Q1 → Met l yX12_unit (Cond.code yX12_unit cX12_unit 5 (some .int) :: TB) (RM (n + 1)) (va_Pc [.ref (ad 0)] (WrP EM T D ad 16 M sz)) (QcW EM T D ad 16 (AA ad 16 sz) Q1) 0 0 (AA ad 16 sz)) (C : Cx T D p s m args c cc nL own) (hls : ls.size = nL) (Z : Zz EM T D ad 16 A H0 M H locs) (hlink : Cond.methodLink own index yX12_both ∈ TB) (hR : (n + 6) + 1 ≤ R.frames ∧ 8 + (3 + 11) + 48 * (n + 6) ≤ R.locals) (hcs : cells ≤ R.cells ∧ slots ≤ R.slots) (hcat : (rest.map fun v => v.category).sum ≤ 8) (hdg : decode cc pc = .ok (.invokevirtual index, 3)) (hB : P_X12_both u M Q1)
    (kk : ∀ (r : Int32) (M1 : Mem) (H1 : Heap) (locs1 : List Loc), Q1 r M1 → Zz EM T D ad 16 A H0 M1 H1 locs1 → W p l e R s m args below meth c H1 locs1 cells slots QQ (F0 m (pc + 3) ls (.int r :: rest))) : W p l e R s m args below meth c H locs cells slots QQ (F0 m pc ls (.ref (ad 0) :: rest)) :=
  k_VW (lv := (n + 6)) (ci := 12) (n := 0) (c_X12_both hu hB) tw_5_215 tw_5_214 tw_s_23 tw_1_12 ⟨rfl, by decide, by decide, by decide +kernel⟩ rfl rfl C hls Z oM hlink hR hcs hcat rfl hdg kk
def B_X12_either_5 (u : Mem → (Int32 → Mem → Prop) → Prop) (Q1 : Int32 → Mem → Prop) (x1 : Int32) (M : Mem) : Prop :=
  ∀ X5 : Int32 → Mem → Prop, (∀ (x1 : Int32) (M : Mem), (P_X12_takes M 124 (fun v3 M4 => ((v3 = 0 → Q1 x1 M4) ∧
    (¬ v3 = 0 → P_X12_both u M4 (fun v6 M7 => ((¬ x1 = 0 → X5 1 M7) ∧
      (x1 = 0 → ((v6 = 0 → X5 0 M7) ∧
        (¬ v6 = 0 → X5 1 M7))))))))) → X5 x1 M) → X5 x1 M
def P_X12_either (u : Mem → (Int32 → Mem → Prop) → Prop) (M : Mem) (Q1 : Int32 → Mem → Prop) : Prop :=
  P_X12_both u M (fun v1 M2 => B_X12_either_5 u Q1 v1 M2)
set_option maxRecDepth 100000 in
set_option maxHeartbeats 4000000 in
theorem w_X12_either_5 {u : Mem → (Int32 → Mem → Prop) → Prop} {n : Nat} {M : Mem} {Q1 : Int32 → Mem → Prop} {x1 : Int32} (C : Cx T D p s m args c cX12_either 3 "OneOfTwoModel") (hr : meth.sig.returnType = (some .int)) (hlk : meth.locks = false) (Z : Zz EM T D ad 16 A s.heap M H locs) (hu : ∀ (M : Mem) (sz : Nat) (Q1 : Int32 → Mem → Prop), u M  Q1 → Met l yX12_unit (Cond.code yX12_unit cX12_unit 5 (some .int) :: TB) (RM (n + 1)) (va_Pc [.ref (ad 0)] (WrP EM T D ad 16 M sz)) (QcW EM T D ad 16 (AA ad 16 sz) Q1) 0 0 (AA ad 16 sz)) {ls : Array Slot} (hl : lv_has ls 3 [(0, .ref (ad 0)), (1, .int x1)]) (hB : B_X12_either_5 u Q1 x1 M) : W p l e (RM (n + 7)) s m args below meth c H locs 0 0 (MQ below (QcW EM T D ad 16 A Q1) args s 0 0 A) (F0 m 5 ls []) := by
  delta B_X12_either_5 at hB
  obtain ⟨X5, hX5, hY5⟩ : ∃ X5 : Int32 → Mem → Prop, (∀ (x1 : Int32) (M : Mem), X5 x1 M → ∀ (H : Heap) (locs : List Loc) (ls : Array Slot), Zz EM T D ad 16 A s.heap M H locs → lv_has ls 3 [(0, .ref (ad 0)), (1, .int x1)] → W p l e (RM (n + 7)) s m args below meth c H locs 0 0 (MQ below (QcW EM T D ad 16 A Q1) args s 0 0 A) (F0 m 5 ls [])) ∧ (∀ (x1 : Int32) (M : Mem), (∀ (H : Heap) (locs : List Loc) (ls : Array Slot), Zz EM T D ad 16 A s.heap M H locs → lv_has ls 3 [(0, .ref (ad 0)), (1, .int x1)] → W p l e (RM (n + 7)) s m args below meth c H locs 0 0 (MQ below (QcW EM T D ad 16 A Q1) args s 0 0 A) (F0 m 5 ls [])) → X5 x1 M) := ⟨fun (x1 : Int32) (M : Mem) => ∀ (H : Heap) (locs : List Loc) (ls : Array Slot), Zz EM T D ad 16 A s.heap M H locs → lv_has ls 3 [(0, .ref (ad 0)), (1, .int x1)] → W p l e (RM (n + 7)) s m args below meth c H locs 0 0 (MQ below (QcW EM T D ad 16 A Q1) args s 0 0 A) (F0 m 5 ls []), fun _ _ h => h, fun _ _ h => h⟩
  refine hX5 _ _ (hB X5 (fun x1 M hB => hY5 _ _ (fun H locs ls Z hl => ?_))) _ _ _ Z hl
  have hx := C.x
  have hb := C.b
  refine lv_aload_n hx hb dX12_either_5 rfl (lv_at hl 0 rfl) ?_
  refine lv_bipush (v := 124) hx hb dX12_either_6 (by decide) ?_
  refine v_X12_takes C hl.1 Z tw_6_0 (rmk (by omega) (by omega)) ⟨Nat.le_refl _, Nat.le_refl _⟩ (Nat.le_of_ble_eq_true rfl) dX12_either_8 hB (fun v3 M4 H locs hB Z => ?_)
  refine lv_if_eq (tgt := 36) hx hb dX12_either_11 (by decide) (fun q5 => ?_) (fun q5 => ?_)
  · have hB := hB.1 q5
    refine lv_iload_n hx hb dX12_either_36 rfl (lv_at hl 1 rfl) ?_
    exact e_iW C hr hlk Z dX12_either_37 hB
  · have hB := hB.2 q5
    refine lv_aload_n hx hb dX12_either_14 rfl (lv_at hl 0 rfl) ?_
    refine v_X12_both hu C hl.1 Z tw_5_212 (rmk (by omega) (by omega)) ⟨Nat.le_refl _, Nat.le_refl _⟩ (Nat.le_of_ble_eq_true rfl) dX12_either_15 hB (fun v6 M7 H locs hB Z => ?_)
    refine lv_istore_n (lv' := [(2, .int v6), (0, .ref (ad 0)), (1, .int x1)]) hx hb dX12_either_18 rfl hl (by decide) rfl (fun ls hl => ?_)
    refine lv_iload_n hx hb dX12_either_19 rfl (lv_at hl 2 rfl) ?_
    refine lv_if_ne (tgt := 27) hx hb dX12_either_20 (by decide) (fun q8 => ?_) (fun q8 => ?_)
    · have hB := hB.1 q8
      refine lv_iconst (v := 1) hx hb dX12_either_27 (by decide) ?_
      refine lv_goto (tgt := 32) hx hb dX12_either_28 (by decide) ?_
      refine lv_istore_n (lv' := [(1, .int 1), (2, .int v6), (0, .ref (ad 0))]) hx hb dX12_either_32 rfl hl (by decide) rfl (fun ls hl => ?_)
      refine lv_goto (tgt := 5) hx hb dX12_either_33 (by decide) ?_
      exact hX5 _ _ hB _ _ _ Z (lv_sub hl [2, 0] rfl)
    · have hB := hB.2 q8
      refine lv_iload_n hx hb dX12_either_23 rfl (lv_at hl 0 rfl) ?_
      refine lv_if_eq (tgt := 31) hx hb dX12_either_24 (by decide) (fun q9 => ?_) (fun q9 => ?_)
      · have hB := hB.1 q9
        refine lv_iconst (v := 0) hx hb dX12_either_31 (by decide) ?_
        refine lv_istore_n (lv' := [(1, .int 0), (2, .int v6), (0, .ref (ad 0))]) hx hb dX12_either_32 rfl hl (by decide) rfl (fun ls hl => ?_)
        refine lv_goto (tgt := 5) hx hb dX12_either_33 (by decide) ?_
        exact hX5 _ _ hB _ _ _ Z (lv_sub hl [2, 0] rfl)
      · have hB := hB.2 q9
        refine lv_iconst (v := 1) hx hb dX12_either_27 (by decide) ?_
        refine lv_goto (tgt := 32) hx hb dX12_either_28 (by decide) ?_
        refine lv_istore_n (lv' := [(1, .int 1), (2, .int v6), (0, .ref (ad 0))]) hx hb dX12_either_32 rfl hl (by decide) rfl (fun ls hl => ?_)
        refine lv_goto (tgt := 5) hx hb dX12_either_33 (by decide) ?_
        exact hX5 _ _ hB _ _ _ Z (lv_sub hl [2, 0] rfl)
set_option maxRecDepth 100000 in
set_option maxHeartbeats 4000000 in
theorem c_X12_either {l : Launch} {T : Nat → ClassId} {D : va_G} {ad : Nat → Nat} {u : Mem → (Int32 → Mem → Prop) → Prop} {M : Mem} {n : Nat} {sz : Nat} {Q1 : Int32 → Mem → Prop} (hu : ∀ (M : Mem) (sz : Nat) (Q1 : Int32 → Mem → Prop), u M  Q1 → Met l yX12_unit (Cond.code yX12_unit cX12_unit 5 (some .int) :: TB) (RM (n + 1)) (va_Pc [.ref (ad 0)] (WrP EM T D ad 16 M sz)) (QcW EM T D ad 16 (AA ad 16 sz) Q1) 0 0 (AA ad 16 sz)) (hB : P_X12_either u M Q1) : Met l yX12_either (Cond.code yX12_either cX12_either 3 (some .int) :: TB) (RM (n + 7)) (va_Pc [.ref (ad 0)] (WrP EM T D ad 16 M sz)) (QcW EM T D ad 16 (AA ad 16 sz) Q1) 0 0 (AA ad 16 sz) := by
  refine st_W (by decide) (Nat.le_of_ble_eq_true rfl) (fun p e s m args below meth c ls C hr hlk hsz Z hl => ?_)
  have hl : lv_has ls 3 [(0, .ref (ad 0))] := hl
  generalize AA ad 16 sz = A at Z ⊢
  have hx := C.x
  have hb := C.b
  delta P_X12_either at hB
  refine lv_aload_n hx hb dX12_either_0 rfl (lv_at hl 0 rfl) ?_
  refine v_X12_both hu C hl.1 Z tw_5_212 (rmk (by omega) (by omega)) ⟨Nat.le_refl _, Nat.le_refl _⟩ (Nat.le_of_ble_eq_true rfl) dX12_either_1 hB (fun v1 M2 H locs hB Z => ?_)
  refine lv_istore_n (lv' := [(1, .int v1), (0, .ref (ad 0))]) hx hb dX12_either_4 rfl hl (by decide) rfl (fun ls hl => ?_)
  exact w_X12_either_5 C hr hlk Z hu (lv_sub hl [1, 0] rfl) hB
set_option maxRecDepth 100000 in
set_option maxHeartbeats 4000000 in
theorem v_X12_either {u : Mem → (Int32 → Mem → Prop) → Prop} {M : Mem} {n : Nat} {Q1 : Int32 → Mem → Prop} (hu : ∀ (M : Mem) (sz : Nat) (Q1 : Int32 → Mem → Prop), u M  Q1 → Met l yX12_unit (Cond.code yX12_unit cX12_unit 5 (some .int) :: TB) (RM (n + 1)) (va_Pc [.ref (ad 0)] (WrP EM T D ad 16 M sz)) (QcW EM T D ad 16 (AA ad 16 sz) Q1) 0 0 (AA ad 16 sz)) (C : Cx T D p s m args c cc nL own) (hls : ls.size = nL) (Z : Zz EM T D ad 16 A H0 M H locs) (hlink : Cond.methodLink own index yX12_either ∈ TB) (hR : (n + 7) + 1 ≤ R.frames ∧ 8 + (3 + 11) + 48 * (n + 7) ≤ R.locals) (hcs : cells ≤ R.cells ∧ slots ≤ R.slots) (hcat : (rest.map fun v => v.category).sum ≤ 8) (hdg : decode cc pc = .ok (.invokevirtual index, 3)) (hB : P_X12_either u M Q1)
    (kk : ∀ (r : Int32) (M1 : Mem) (H1 : Heap) (locs1 : List Loc), Q1 r M1 → Zz EM T D ad 16 A H0 M1 H1 locs1 → W p l e R s m args below meth c H1 locs1 cells slots QQ (F0 m (pc + 3) ls (.int r :: rest))) : W p l e R s m args below meth c H locs cells slots QQ (F0 m pc ls (.ref (ad 0) :: rest)) :=
  k_VW (lv := (n + 7)) (ci := 12) (n := 0) (c_X12_either hu hB) tw_5_211 tw_5_210 tw_s_22 tw_1_12 ⟨rfl, by decide, by decide, by decide +kernel⟩ rfl rfl C hls Z oM hlink hR hcs hcat rfl hdg kk
def B_X12_unit_88 (u : Mem → (Int32 → Mem → Prop) → Prop) (Q1 : Int32 → Mem → Prop) (x1 : Int32) (x2 : Int32) (M : Mem) : Prop :=
  ∀ v12 : Int32, v12 = (M 0 9) - 1 → ∀ M13 : Mem, M13 = sf M 0 9 v12 → ((¬ x1 = 40 → ((¬ x2 = 0 → Q1 0 M13) ∧
      (x2 = 0 → Q1 1 M13))) ∧
    (x1 = 40 → Q1 x2 M13))
def B_X12_unit_67 (u : Mem → (Int32 → Mem → Prop) → Prop) (Q1 : Int32 → Mem → Prop) (x1 : Int32) (s0 : Int32) (M : Mem) : Prop :=
  ((¬ x1 = 40 → B_X12_unit_88 u Q1 x1 s0 M) ∧
    (x1 = 40 → P_X12_takes M 41 (fun v16 M17 => ((¬ v16 = 0 → B_X12_unit_88 u Q1 x1 s0 M17) ∧
      (v16 = 0 → P_X12_wrong M17 (fun v19 M20 => Q1 v19 M20))))))
def B_X12_unit_17 (u : Mem → (Int32 → Mem → Prop) → Prop) (Q1 : Int32 → Mem → Prop) (x1 : Int32) (M : Mem) : Prop :=
  ((¬ (M 0 9) = 5 → ∀ v4 : Int32, v4 = (M 0 9) + 1 → ∀ M5 : Mem, M5 = sf M 0 9 v4 → ∀ v6 : Int32, v6 = (M5 0 6) + 1 → ∀ M7 : Mem, M7 = sf M5 0 6 v6 → ((¬ x1 = 40 → u M7 (fun v9 M10 => B_X12_unit_67 u Q1 x1 v9 M10)) ∧
      (x1 = 40 → P_X12_either u M7 (fun v21 M22 => B_X12_unit_67 u Q1 x1 v21 M22)))) ∧
    ((M 0 9) = 5 → P_X12_wrong M (fun v23 M24 => Q1 v23 M24)))
def B_X12_unit_202 (u : Mem → (Int32 → Mem → Prop) → Prop) (Q1 : Int32 → Mem → Prop) (x3 : Int32) (x4 : Int32) (M : Mem) : Prop :=
  ((¬ x4 = 0 → Q1 x3 M) ∧
    (x4 = 0 → P_X12_wrong M (fun v30 M31 => Q1 v30 M31)))
def B_X12_unit_150 (u : Mem → (Int32 → Mem → Prop) → Prop) (Q1 : Int32 → Mem → Prop) (x3 : Int32) (x4 : Int32) (M : Mem) : Prop :=
  ∀ X150 : Int32 → Int32 → Mem → Prop, (∀ (x3 : Int32) (x4 : Int32) (M : Mem), (((4 ≤ x4 → B_X12_unit_202 u Q1 x3 x4 M) ∧
    (¬ 4 ≤ x4 → P_X12_here M (fun v32 => P_X12_in (v32.toInt64) 48 57 (fun v33 => ((v33 = 0 → B_X12_unit_202 u Q1 x3 x4 M) ∧
      (¬ v33 = 0 → P_X12_here M (fun v35 => ∀ x3_36 : Int32, x3_36 = ((10 * x3) + v35) - 48 → ∀ v37 : Int32, v37 = (M 0 6) + 1 → ∀ M38 : Mem, M38 = sf M 0 6 v37 → ∀ x4_39 : Int32, x4_39 = x4 + 1 → X150 x3_36 x4_39 M38)))))))) → X150 x3 x4 M) → X150 x3 x4 M
def Pb_X12_unit (u : Mem → (Int32 → Mem → Prop) → Prop) (M : Mem) (Q1 : Int32 → Mem → Prop) : Prop :=
  P_X12_here M (fun v1 => ((v1 = 33 → B_X12_unit_17 u Q1 v1 M) ∧
    (¬ v1 = 33 → ((¬ v1 = 40 → P_X12_nameOf M v1 (fun v26 => ((v26 < 0 → B_X12_unit_150 u Q1 0 0 M) ∧
        (¬ v26 < 0 → ∀ v40 : Int32, v40 = (M 0 6) + 1 → ∀ M41 : Mem, M41 = sf M 0 6 v40 → vp_in v26 3 ∧ Q1 (M41 5 v26.toNatClampNeg) M41)))) ∧
      (v1 = 40 → B_X12_unit_17 u Q1 v1 M)))))
set_option maxRecDepth 100000 in
set_option maxHeartbeats 4000000 in
theorem w_X12_unit_88 {u : Mem → (Int32 → Mem → Prop) → Prop} {n : Nat} {M : Mem} {Q1 : Int32 → Mem → Prop} {x1 : Int32} {x2 : Int32} (C : Cx T D p s m args c cX12_unit 5 "OneOfTwoModel") (hr : meth.sig.returnType = (some .int)) (hlk : meth.locks = false) (Z : Zz EM T D ad 16 A s.heap M H locs) (hu : ∀ (M : Mem) (sz : Nat) (Q1 : Int32 → Mem → Prop), u M  Q1 → Met l yX12_unit (Cond.code yX12_unit cX12_unit 5 (some .int) :: TB) (RM (n + 1)) (va_Pc [.ref (ad 0)] (WrP EM T D ad 16 M sz)) (QcW EM T D ad 16 (AA ad 16 sz) Q1) 0 0 (AA ad 16 sz)) {ls : Array Slot} (hl : lv_has ls 5 [(0, .ref (ad 0)), (1, .int x1), (2, .int x2)]) (hB : B_X12_unit_88 u Q1 x1 x2 M) : W p l e (RM (n + 8)) s m args below meth c H locs 0 0 (MQ below (QcW EM T D ad 16 A Q1) args s 0 0 A) (F0 m 88 ls []) := by
  have hx := C.x
  have hb := C.b
  delta B_X12_unit_88 at hB
  refine lv_aload_n hx hb dX12_unit_88 rfl (lv_at hl 0 rfl) ?_
  refine lv_dup hx hb dX12_unit_89 rfl ?_
  refine gf_X12_9 C Z.1 tw_5_107 dX12_unit_90 ?_
  refine lv_iconst (v := 1) hx hb dX12_unit_93 (by decide) ?_
  refine lv_isub hx hb dX12_unit_94 ?_
  refine lv_topi (fun v12 ev12 => ?_)
  have hB := hB v12 ev12
  refine pf_X12_9 C Z tw_5_107 dX12_unit_95 (fun M13 H locs eM13 Z => ?_)
  have hB := hB M13 eM13
  refine lv_iload_n hx hb dX12_unit_98 rfl (lv_at hl 1 rfl) ?_
  refine lv_bipush (v := 40) hx hb dX12_unit_99 (by decide) ?_
  refine lv_icmp_ne (tgt := 108) hx hb dX12_unit_101 (by decide) (fun q14 => ?_) (fun q14 => ?_)
  · have hB := hB.1 q14
    refine lv_iload_n hx hb dX12_unit_108 rfl (lv_at hl 2 rfl) ?_
    refine lv_if_ne (tgt := 116) hx hb dX12_unit_109 (by decide) (fun q15 => ?_) (fun q15 => ?_)
    · have hB := hB.1 q15
      refine lv_iconst (v := 0) hx hb dX12_unit_116 (by decide) ?_
      exact e_iW C hr hlk Z dX12_unit_117 hB
    · have hB := hB.2 q15
      refine lv_iconst (v := 1) hx hb dX12_unit_112 (by decide) ?_
      refine lv_goto (tgt := 117) hx hb dX12_unit_113 (by decide) ?_
      exact e_iW C hr hlk Z dX12_unit_117 hB
  · have hB := hB.2 q14
    refine lv_iload_n hx hb dX12_unit_104 rfl (lv_at hl 2 rfl) ?_
    refine lv_goto (tgt := 117) hx hb dX12_unit_105 (by decide) ?_
    exact e_iW C hr hlk Z dX12_unit_117 hB
set_option maxRecDepth 100000 in
set_option maxHeartbeats 4000000 in
theorem w_X12_unit_67 {u : Mem → (Int32 → Mem → Prop) → Prop} {n : Nat} {M : Mem} {Q1 : Int32 → Mem → Prop} {x1 : Int32} {s0 : Int32} (C : Cx T D p s m args c cX12_unit 5 "OneOfTwoModel") (hr : meth.sig.returnType = (some .int)) (hlk : meth.locks = false) (Z : Zz EM T D ad 16 A s.heap M H locs) (hu : ∀ (M : Mem) (sz : Nat) (Q1 : Int32 → Mem → Prop), u M  Q1 → Met l yX12_unit (Cond.code yX12_unit cX12_unit 5 (some .int) :: TB) (RM (n + 1)) (va_Pc [.ref (ad 0)] (WrP EM T D ad 16 M sz)) (QcW EM T D ad 16 (AA ad 16 sz) Q1) 0 0 (AA ad 16 sz)) {ls : Array Slot} (hl : lv_has ls 5 [(0, .ref (ad 0)), (1, .int x1)]) (hB : B_X12_unit_67 u Q1 x1 s0 M) : W p l e (RM (n + 8)) s m args below meth c H locs 0 0 (MQ below (QcW EM T D ad 16 A Q1) args s 0 0 A) (F0 m 67 ls [.int s0]) := by
  have hx := C.x
  have hb := C.b
  delta B_X12_unit_67 at hB
  refine lv_istore_n (lv' := [(2, .int s0), (0, .ref (ad 0)), (1, .int x1)]) hx hb dX12_unit_67 rfl hl (by decide) rfl (fun ls hl => ?_)
  refine lv_iload_n hx hb dX12_unit_68 rfl (lv_at hl 2 rfl) ?_
  refine lv_bipush (v := 40) hx hb dX12_unit_69 (by decide) ?_
  refine lv_icmp_ne (tgt := 88) hx hb dX12_unit_71 (by decide) (fun q11 => ?_) (fun q11 => ?_)
  · have hB := hB.1 q11
    exact w_X12_unit_88 C hr hlk Z hu (lv_sub hl [1, 2, 0] rfl) hB
  · have hB := hB.2 q11
    refine lv_aload_n hx hb dX12_unit_74 rfl (lv_at hl 1 rfl) ?_
    refine lv_bipush (v := 41) hx hb dX12_unit_75 (by decide) ?_
    refine v_X12_takes C hl.1 Z tw_6_0 (rmk (by omega) (by omega)) ⟨Nat.le_refl _, Nat.le_refl _⟩ (Nat.le_of_ble_eq_true rfl) dX12_unit_77 hB (fun v16 M17 H locs hB Z => ?_)
    refine lv_if_ne (tgt := 88) hx hb dX12_unit_80 (by decide) (fun q18 => ?_) (fun q18 => ?_)
    · have hB := hB.1 q18
      exact w_X12_unit_88 C hr hlk Z hu (lv_sub hl [1, 2, 0] rfl) hB
    · have hB := hB.2 q18
      refine lv_aload_n hx hb dX12_unit_83 rfl (lv_at hl 1 rfl) ?_
      refine v_X12_wrong C hl.1 Z tw_5_236 (rmk (by omega) (by omega)) ⟨Nat.le_refl _, Nat.le_refl _⟩ (Nat.le_of_ble_eq_true rfl) dX12_unit_84 hB (fun v19 M20 H locs hB Z => ?_)
      exact e_iW C hr hlk Z dX12_unit_87 hB
set_option maxRecDepth 100000 in
set_option maxHeartbeats 4000000 in
theorem w_X12_unit_17 {u : Mem → (Int32 → Mem → Prop) → Prop} {n : Nat} {M : Mem} {Q1 : Int32 → Mem → Prop} {x1 : Int32} (C : Cx T D p s m args c cX12_unit 5 "OneOfTwoModel") (hr : meth.sig.returnType = (some .int)) (hlk : meth.locks = false) (Z : Zz EM T D ad 16 A s.heap M H locs) (hu : ∀ (M : Mem) (sz : Nat) (Q1 : Int32 → Mem → Prop), u M  Q1 → Met l yX12_unit (Cond.code yX12_unit cX12_unit 5 (some .int) :: TB) (RM (n + 1)) (va_Pc [.ref (ad 0)] (WrP EM T D ad 16 M sz)) (QcW EM T D ad 16 (AA ad 16 sz) Q1) 0 0 (AA ad 16 sz)) {ls : Array Slot} (hl : lv_has ls 5 [(0, .ref (ad 0)), (1, .int x1)]) (hB : B_X12_unit_17 u Q1 x1 M) : W p l e (RM (n + 8)) s m args below meth c H locs 0 0 (MQ below (QcW EM T D ad 16 A Q1) args s 0 0 A) (F0 m 17 ls []) := by
  have hx := C.x
  have hb := C.b
  delta B_X12_unit_17 at hB
  refine lv_aload_n hx hb dX12_unit_17 rfl (lv_at hl 0 rfl) ?_
  refine gf_X12_9 C Z.1 tw_5_107 dX12_unit_18 ?_
  refine lv_iconst (v := 5) hx hb dX12_unit_21 (by decide) ?_
  refine lv_icmp_ne (tgt := 30) hx hb dX12_unit_22 (by decide) (fun q3 => ?_) (fun q3 => ?_)
  · have hB := hB.1 q3
    refine lv_aload_n hx hb dX12_unit_30 rfl (lv_at hl 0 rfl) ?_
    refine lv_dup hx hb dX12_unit_31 rfl ?_
    refine gf_X12_9 C Z.1 tw_5_107 dX12_unit_32 ?_
    refine lv_iconst (v := 1) hx hb dX12_unit_35 (by decide) ?_
    refine lv_iadd hx hb dX12_unit_36 ?_
    refine lv_topi (fun v4 ev4 => ?_)
    have hB := hB v4 ev4
    refine pf_X12_9 C Z tw_5_107 dX12_unit_37 (fun M5 H locs eM5 Z => ?_)
    have hB := hB M5 eM5
    refine lv_aload_n hx hb dX12_unit_40 rfl (lv_at hl 0 rfl) ?_
    refine lv_dup hx hb dX12_unit_41 rfl ?_
    refine gf_X12_6 C Z.1 tw_5_104 dX12_unit_42 ?_
    refine lv_iconst (v := 1) hx hb dX12_unit_45 (by decide) ?_
    refine lv_iadd hx hb dX12_unit_46 ?_
    refine lv_topi (fun v6 ev6 => ?_)
    have hB := hB v6 ev6
    refine pf_X12_6 C Z tw_5_104 dX12_unit_47 (fun M7 H locs eM7 Z => ?_)
    have hB := hB M7 eM7
    refine lv_iload_n hx hb dX12_unit_50 rfl (lv_at hl 1 rfl) ?_
    refine lv_bipush (v := 40) hx hb dX12_unit_51 (by decide) ?_
    refine lv_icmp_ne (tgt := 63) hx hb dX12_unit_53 (by decide) (fun q8 => ?_) (fun q8 => ?_)
    · have hB := hB.1 q8
      refine lv_aload_n hx hb dX12_unit_63 rfl (lv_at hl 0 rfl) ?_
      refine vm_X12_unit C hl.1 Z tw_5_228 (rmk (by omega) (by omega)) ⟨Nat.le_refl _, Nat.le_refl _⟩ (Nat.le_of_ble_eq_true rfl) dX12_unit_64 (hu _ _ _ hB) (fun v9 M10 H locs hB Z => ?_)
      exact w_X12_unit_67 C hr hlk Z hu (lv_sub hl [0, 1] rfl) hB
    · have hB := hB.2 q8
      refine lv_aload_n hx hb dX12_unit_56 rfl (lv_at hl 0 rfl) ?_
      refine v_X12_either hu C hl.1 Z tw_5_208 (rmk (by omega) (by omega)) ⟨Nat.le_refl _, Nat.le_refl _⟩ (Nat.le_of_ble_eq_true rfl) dX12_unit_57 hB (fun v21 M22 H locs hB Z => ?_)
      refine lv_goto (tgt := 67) hx hb dX12_unit_60 (by decide) ?_
      exact w_X12_unit_67 C hr hlk Z hu (lv_sub hl [0, 1] rfl) hB
  · have hB := hB.2 q3
    refine lv_aload_n hx hb dX12_unit_25 rfl (lv_at hl 0 rfl) ?_
    refine v_X12_wrong C hl.1 Z tw_5_236 (rmk (by omega) (by omega)) ⟨Nat.le_refl _, Nat.le_refl _⟩ (Nat.le_of_ble_eq_true rfl) dX12_unit_26 hB (fun v23 M24 H locs hB Z => ?_)
    exact e_iW C hr hlk Z dX12_unit_29 hB
set_option maxRecDepth 100000 in
set_option maxHeartbeats 4000000 in
theorem w_X12_unit_202 {u : Mem → (Int32 → Mem → Prop) → Prop} {n : Nat} {M : Mem} {Q1 : Int32 → Mem → Prop} {x3 : Int32} {x4 : Int32} (C : Cx T D p s m args c cX12_unit 5 "OneOfTwoModel") (hr : meth.sig.returnType = (some .int)) (hlk : meth.locks = false) (Z : Zz EM T D ad 16 A s.heap M H locs) (hu : ∀ (M : Mem) (sz : Nat) (Q1 : Int32 → Mem → Prop), u M  Q1 → Met l yX12_unit (Cond.code yX12_unit cX12_unit 5 (some .int) :: TB) (RM (n + 1)) (va_Pc [.ref (ad 0)] (WrP EM T D ad 16 M sz)) (QcW EM T D ad 16 (AA ad 16 sz) Q1) 0 0 (AA ad 16 sz)) {ls : Array Slot} (hl : lv_has ls 5 [(0, .ref (ad 0)), (3, .int x3), (4, .int x4)]) (hB : B_X12_unit_202 u Q1 x3 x4 M) : W p l e (RM (n + 8)) s m args below meth c H locs 0 0 (MQ below (QcW EM T D ad 16 A Q1) args s 0 0 A) (F0 m 202 ls []) := by
  have hx := C.x
  have hb := C.b
  delta B_X12_unit_202 at hB
  refine lv_iload hx hb dX12_unit_202 (lv_at hl 2 rfl) ?_
  refine lv_if_ne (tgt := 214) hx hb dX12_unit_204 (by decide) (fun q29 => ?_) (fun q29 => ?_)
  · have hB := hB.1 q29
    refine lv_iload_n hx hb dX12_unit_214 rfl (lv_at hl 1 rfl) ?_
    exact e_iW C hr hlk Z dX12_unit_215 hB
  · have hB := hB.2 q29
    refine lv_aload_n hx hb dX12_unit_207 rfl (lv_at hl 0 rfl) ?_
    refine v_X12_wrong C hl.1 Z tw_5_236 (rmk (by omega) (by omega)) ⟨Nat.le_refl _, Nat.le_refl _⟩ (Nat.le_of_ble_eq_true rfl) dX12_unit_208 hB (fun v30 M31 H locs hB Z => ?_)
    refine lv_goto (tgt := 215) hx hb dX12_unit_211 (by decide) ?_
    exact e_iW C hr hlk Z dX12_unit_215 hB
set_option maxRecDepth 100000 in
set_option maxHeartbeats 4000000 in
theorem w_X12_unit_150 {u : Mem → (Int32 → Mem → Prop) → Prop} {n : Nat} {M : Mem} {Q1 : Int32 → Mem → Prop} {x3 : Int32} {x4 : Int32} (C : Cx T D p s m args c cX12_unit 5 "OneOfTwoModel") (hr : meth.sig.returnType = (some .int)) (hlk : meth.locks = false) (Z : Zz EM T D ad 16 A s.heap M H locs) (hu : ∀ (M : Mem) (sz : Nat) (Q1 : Int32 → Mem → Prop), u M  Q1 → Met l yX12_unit (Cond.code yX12_unit cX12_unit 5 (some .int) :: TB) (RM (n + 1)) (va_Pc [.ref (ad 0)] (WrP EM T D ad 16 M sz)) (QcW EM T D ad 16 (AA ad 16 sz) Q1) 0 0 (AA ad 16 sz)) {ls : Array Slot} (hl : lv_has ls 5 [(0, .ref (ad 0)), (3, .int x3), (4, .int x4)]) (hB : B_X12_unit_150 u Q1 x3 x4 M) : W p l e (RM (n + 8)) s m args below meth c H locs 0 0 (MQ below (QcW EM T D ad 16 A Q1) args s 0 0 A) (F0 m 150 ls []) := by
  delta B_X12_unit_150 at hB
  obtain ⟨X150, hX150, hY150⟩ : ∃ X150 : Int32 → Int32 → Mem → Prop, (∀ (x3 : Int32) (x4 : Int32) (M : Mem), X150 x3 x4 M → ∀ (H : Heap) (locs : List Loc) (ls : Array Slot), Zz EM T D ad 16 A s.heap M H locs → lv_has ls 5 [(0, .ref (ad 0)), (3, .int x3), (4, .int x4)] → W p l e (RM (n + 8)) s m args below meth c H locs 0 0 (MQ below (QcW EM T D ad 16 A Q1) args s 0 0 A) (F0 m 150 ls [])) ∧ (∀ (x3 : Int32) (x4 : Int32) (M : Mem), (∀ (H : Heap) (locs : List Loc) (ls : Array Slot), Zz EM T D ad 16 A s.heap M H locs → lv_has ls 5 [(0, .ref (ad 0)), (3, .int x3), (4, .int x4)] → W p l e (RM (n + 8)) s m args below meth c H locs 0 0 (MQ below (QcW EM T D ad 16 A Q1) args s 0 0 A) (F0 m 150 ls [])) → X150 x3 x4 M) := ⟨fun (x3 : Int32) (x4 : Int32) (M : Mem) => ∀ (H : Heap) (locs : List Loc) (ls : Array Slot), Zz EM T D ad 16 A s.heap M H locs → lv_has ls 5 [(0, .ref (ad 0)), (3, .int x3), (4, .int x4)] → W p l e (RM (n + 8)) s m args below meth c H locs 0 0 (MQ below (QcW EM T D ad 16 A Q1) args s 0 0 A) (F0 m 150 ls []), fun _ _ _ h => h, fun _ _ _ h => h⟩
  refine hX150 _ _ _ (hB X150 (fun x3 x4 M hB => hY150 _ _ _ (fun H locs ls Z hl => ?_))) _ _ _ Z hl
  have hx := C.x
  have hb := C.b
  refine lv_iload hx hb dX12_unit_150 (lv_at hl 2 rfl) ?_
  refine lv_iconst (v := 4) hx hb dX12_unit_152 (by decide) ?_
  refine lv_icmp_ge (tgt := 202) hx hb dX12_unit_153 (by decide) (fun q28 => ?_) (fun q28 => ?_)
  · have hB := hB.1 q28
    exact w_X12_unit_202 C hr hlk Z hu (lv_sub hl [0, 1, 2] rfl) hB
  · have hB := hB.2 q28
    refine lv_aload_n hx hb dX12_unit_156 rfl (lv_at hl 0 rfl) ?_
    refine v_X12_here C hl.1 Z.1 tw_5_232 (rmk (by omega) (by omega)) ⟨Nat.le_refl _, Nat.le_refl _⟩ (Nat.le_of_ble_eq_true rfl) dX12_unit_157 hB (fun v32 hB => ?_)
    refine lv_i2l hx hb dX12_unit_160 rfl ?_
    refine lv_ldc2 hx hb C.1.2.2.2.1 (C.1.2.2.2.2 _ tw_6_8) dX12_unit_161 ?_
    refine lv_ldc2 hx hb C.1.2.2.2.1 (C.1.2.2.2.2 _ tw_6_9) dX12_unit_164 ?_
    refine v_X12_in C.1 hl.1 tw_5_191 (rmk (by omega) (by omega)) ⟨Nat.le_refl _, Nat.le_refl _⟩ (Nat.le_of_ble_eq_true rfl) dX12_unit_167 hB (fun v33 hB => ?_)
    refine lv_if_eq (tgt := 202) hx hb dX12_unit_170 (by decide) (fun q34 => ?_) (fun q34 => ?_)
    · have hB := hB.1 q34
      exact w_X12_unit_202 C hr hlk Z hu (lv_sub hl [0, 1, 2] rfl) hB
    · have hB := hB.2 q34
      refine lv_bipush (v := 10) hx hb dX12_unit_173 (by decide) ?_
      refine lv_iload_n hx hb dX12_unit_175 rfl (lv_at hl 1 rfl) ?_
      refine lv_imul hx hb dX12_unit_176 ?_
      refine lv_aload_n hx hb dX12_unit_177 rfl (lv_at hl 0 rfl) ?_
      refine v_X12_here C hl.1 Z.1 tw_5_232 (rmk (by omega) (by omega)) ⟨Nat.le_refl _, Nat.le_refl _⟩ (Nat.le_of_ble_eq_true rfl) dX12_unit_178 hB (fun v35 hB => ?_)
      refine lv_iadd hx hb dX12_unit_181 ?_
      refine lv_bipush (v := 48) hx hb dX12_unit_182 (by decide) ?_
      refine lv_isub hx hb dX12_unit_184 ?_
      refine lv_topi (fun x3_36 ex3_36 => ?_)
      have hB := hB x3_36 ex3_36
      refine lv_istore_n (lv' := [(3, .int x3_36), (0, .ref (ad 0)), (4, .int x4)]) hx hb dX12_unit_185 rfl hl (by decide) rfl (fun ls hl => ?_)
      refine lv_aload_n hx hb dX12_unit_186 rfl (lv_at hl 1 rfl) ?_
      refine lv_dup hx hb dX12_unit_187 rfl ?_
      refine gf_X12_6 C Z.1 tw_5_104 dX12_unit_188 ?_
      refine lv_iconst (v := 1) hx hb dX12_unit_191 (by decide) ?_
      refine lv_iadd hx hb dX12_unit_192 ?_
      refine lv_topi (fun v37 ev37 => ?_)
      have hB := hB v37 ev37
      refine pf_X12_6 C Z tw_5_104 dX12_unit_193 (fun M38 H locs eM38 Z => ?_)
      have hB := hB M38 eM38
      obtain ⟨x4_39, ex4_39⟩ : ∃ y : Int32, y = x4 + 1 := ⟨_, rfl⟩
      have hB := hB x4_39 ex4_39
      refine lv_iinc (v := x4_39) (lv' := [(4, .int x4_39), (3, .int x3_36), (0, .ref (ad 0))]) hx hb dX12_unit_196 hl (k := 2) rfl (by rw [ex4_39]; rfl) (by decide) rfl (fun ls hl => ?_)
      refine lv_goto (tgt := 150) hx hb dX12_unit_199 (by decide) ?_
      exact hX150 _ _ _ hB _ _ _ Z (lv_sub hl [2, 1, 0] rfl)
set_option maxRecDepth 100000 in
set_option maxHeartbeats 4000000 in
theorem cb_X12_unit {l : Launch} {T : Nat → ClassId} {D : va_G} {ad : Nat → Nat} {u : Mem → (Int32 → Mem → Prop) → Prop} {M : Mem} {n : Nat} {sz : Nat} {Q1 : Int32 → Mem → Prop} (hu : ∀ (M : Mem) (sz : Nat) (Q1 : Int32 → Mem → Prop), u M  Q1 → Met l yX12_unit (Cond.code yX12_unit cX12_unit 5 (some .int) :: TB) (RM (n + 1)) (va_Pc [.ref (ad 0)] (WrP EM T D ad 16 M sz)) (QcW EM T D ad 16 (AA ad 16 sz) Q1) 0 0 (AA ad 16 sz)) (hB : Pb_X12_unit u M Q1) : Met l yX12_unit (Cond.code yX12_unit cX12_unit 5 (some .int) :: TB) (RM (n + 8)) (va_Pc [.ref (ad 0)] (WrP EM T D ad 16 M sz)) (QcW EM T D ad 16 (AA ad 16 sz) Q1) 0 0 (AA ad 16 sz) := by
  refine st_W (by decide) (Nat.le_of_ble_eq_true rfl) (fun p e s m args below meth c ls C hr hlk hsz Z hl => ?_)
  have hl : lv_has ls 5 [(0, .ref (ad 0))] := hl
  generalize AA ad 16 sz = A at Z ⊢
  have hx := C.x
  have hb := C.b
  delta Pb_X12_unit at hB
  refine lv_aload_n hx hb dX12_unit_0 rfl (lv_at hl 0 rfl) ?_
  refine v_X12_here C hl.1 Z.1 tw_5_232 (rmk (by omega) (by omega)) ⟨Nat.le_refl _, Nat.le_refl _⟩ (Nat.le_of_ble_eq_true rfl) dX12_unit_1 hB (fun v1 hB => ?_)
  refine lv_istore_n (lv' := [(1, .int v1), (0, .ref (ad 0))]) hx hb dX12_unit_4 rfl hl (by decide) rfl (fun ls hl => ?_)
  refine lv_iload_n hx hb dX12_unit_5 rfl (lv_at hl 0 rfl) ?_
  refine lv_bipush (v := 33) hx hb dX12_unit_6 (by decide) ?_
  refine lv_icmp_eq (tgt := 17) hx hb dX12_unit_8 (by decide) (fun q2 => ?_) (fun q2 => ?_)
  · have hB := hB.1 q2
    exact w_X12_unit_17 C hr hlk Z hu (lv_sub hl [1, 0] rfl) hB
  · have hB := hB.2 q2
    refine lv_iload_n hx hb dX12_unit_11 rfl (lv_at hl 0 rfl) ?_
    refine lv_bipush (v := 40) hx hb dX12_unit_12 (by decide) ?_
    refine lv_icmp_ne (tgt := 118) hx hb dX12_unit_14 (by decide) (fun q25 => ?_) (fun q25 => ?_)
    · have hB := hB.1 q25
      refine lv_aload_n hx hb dX12_unit_118 rfl (lv_at hl 1 rfl) ?_
      refine lv_iload_n hx hb dX12_unit_119 rfl (lv_at hl 0 rfl) ?_
      refine v_X12_nameOf C hl.1 Z.1 tw_6_4 (rmk (by omega) (by omega)) ⟨Nat.le_refl _, Nat.le_refl _⟩ (Nat.le_of_ble_eq_true rfl) dX12_unit_120 hB (fun v26 hB => ?_)
      refine lv_istore_n (lv' := [(2, .int v26), (1, .int v1), (0, .ref (ad 0))]) hx hb dX12_unit_123 rfl hl (by decide) rfl (fun ls hl => ?_)
      refine lv_iload_n hx hb dX12_unit_124 rfl (lv_at hl 0 rfl) ?_
      refine lv_if_lt (tgt := 145) hx hb dX12_unit_125 (by decide) (fun q27 => ?_) (fun q27 => ?_)
      · have hB := hB.1 q27
        refine lv_iconst (v := 0) hx hb dX12_unit_145 (by decide) ?_
        refine lv_istore_n (lv' := [(3, .int 0), (2, .int v26), (1, .int v1), (0, .ref (ad 0))]) hx hb dX12_unit_146 rfl hl (by decide) rfl (fun ls hl => ?_)
        refine lv_iconst (v := 0) hx hb dX12_unit_147 (by decide) ?_
        refine lv_istore (lv' := [(4, .int 0), (3, .int 0), (2, .int v26), (1, .int v1), (0, .ref (ad 0))]) hx hb dX12_unit_148 hl (by decide) rfl (fun ls hl => ?_)
        exact w_X12_unit_150 C hr hlk Z hu (lv_sub hl [4, 1, 0] rfl) hB
      · have hB := hB.2 q27
        refine lv_aload_n hx hb dX12_unit_128 rfl (lv_at hl 2 rfl) ?_
        refine lv_dup hx hb dX12_unit_129 rfl ?_
        refine gf_X12_6 C Z.1 tw_5_104 dX12_unit_130 ?_
        refine lv_iconst (v := 1) hx hb dX12_unit_133 (by decide) ?_
        refine lv_iadd hx hb dX12_unit_134 ?_
        refine lv_topi (fun v40 ev40 => ?_)
        have hB := hB v40 ev40
        refine pf_X12_6 C Z tw_5_104 dX12_unit_135 (fun M41 H locs eM41 Z => ?_)
        have hB := hB M41 eM41
        refine lv_aload_n hx hb dX12_unit_138 rfl (lv_at hl 2 rfl) ?_
        refine gf_X12_11 C Z.1 tw_5_109 dX12_unit_139 ?_
        refine lv_iload_n hx hb dX12_unit_142 rfl (lv_at hl 0 rfl) ?_
        obtain ⟨q42, hB⟩ := hB
        refine a_ld C Z.1 aM_5 q42 dX12_unit_143 ?_
        exact e_iW C hr hlk Z dX12_unit_144 hB
    · have hB := hB.2 q25
      exact w_X12_unit_17 C hr hlk Z hu (lv_sub hl [1, 0] rfl) hB
def P_X12_unit : Nat → Mem → (Int32 → Mem → Prop) → Prop
  | 0 => fun _ _ => False
  | n + 1 => Pb_X12_unit (P_X12_unit n)
set_option maxRecDepth 100000 in
set_option maxHeartbeats 4000000 in
theorem c_X12_unit (n : Nat) : ∀ {l : Launch} {T : Nat → ClassId} {D : va_G} {ad : Nat → Nat} {M : Mem} {sz : Nat} {Q1 : Int32 → Mem → Prop}, P_X12_unit n M  Q1 → Met l yX12_unit (Cond.code yX12_unit cX12_unit 5 (some .int) :: TB) (RM (7 * n + 1)) (va_Pc [.ref (ad 0)] (WrP EM T D ad 16 M sz)) (QcW EM T D ad 16 (AA ad 16 sz) Q1) 0 0 (AA ad 16 sz) := by
  induction n with
  | zero => intro _ _ _ _ _ _ _ hB; exact hB.elim
  | succ n ih =>
    intro _ _ _ _ _ _ _ hB
    have e : 7 * (n + 1) + 1 = 7 * n + 8 := by omega
    rw [e]
    exact cb_X12_unit (n := 7 * n) (u := P_X12_unit n) (fun _ _ _ h => ih  h)  hB
set_option maxRecDepth 100000 in
set_option maxHeartbeats 4000000 in
theorem v_X12_unit {M : Mem} {Q1 : Int32 → Mem → Prop} (C : Cx T D p s m args c cc nL own) (hls : ls.size = nL) (Z : Zz EM T D ad 16 A H0 M H locs) (hlink : Cond.methodLink own index yX12_unit ∈ TB) (hR : 43 + 1 ≤ R.frames ∧ 8 + (5 + 11) + 48 * 43 ≤ R.locals) (hcs : cells ≤ R.cells ∧ slots ≤ R.slots) (hcat : (rest.map fun v => v.category).sum ≤ 8) (hdg : decode cc pc = .ok (.invokevirtual index, 3)) (hB : P_X12_unit 6 M  Q1)
    (kk : ∀ (r : Int32) (M1 : Mem) (H1 : Heap) (locs1 : List Loc), Q1 r M1 → Zz EM T D ad 16 A H0 M1 H1 locs1 → W p l e R s m args below meth c H1 locs1 cells slots QQ (F0 m (pc + 3) ls (.int r :: rest))) : W p l e R s m args below meth c H locs cells slots QQ (F0 m pc ls (.ref (ad 0) :: rest)) :=
  k_VW (lv := 43) (ci := 12) (n := 0) (c_X12_unit 6  hB) tw_5_231 tw_5_230 tw_s_27 tw_1_12 ⟨rfl, by decide, by decide, by decide +kernel⟩ rfl rfl C hls Z oM hlink hR hcs hcat rfl hdg kk
def B_X12_worked_36 (Q1 : Int32 → Mem → Prop) (s1 : Int32) (M : Mem) : Prop :=
  (s1 = 0 ∨ s1 = 1) ∧ ∀ M8 : Mem, M8 = sf M 0 10 s1 → P_X12_either (P_X12_unit 6) M8 (fun v9 M10 => ((0 ≤ (M10 0 8) → Q1 v9 M10) ∧
    (¬ 0 ≤ (M10 0 8) → (((M10 0 7) ≤ (M10 0 6) → Q1 v9 M10) ∧
      (¬ (M10 0 7) ≤ (M10 0 6) → P_X12_wrong M10 (fun v13 M14 => Q1 v13 M14))))))
def P_X12_worked (M : Mem) (x1 : Int32) (x2 : Int32) (x3 : Int32) (Q1 : Int32 → Mem → Prop) : Prop :=
  ∀ M1 : Mem, M1 = sf M 0 5 x1 → ∀ M2 : Mem, M2 = sf M1 0 6 0 → ∀ M3 : Mem, M3 = sf M2 0 7 x2 → ∀ M4 : Mem, M4 = sf M3 0 8 (-1) → ∀ M5 : Mem, M5 = sf M4 0 9 0 → ((¬ x3 = 1 → B_X12_worked_36 Q1 0 M5) ∧
    (x3 = 1 → B_X12_worked_36 Q1 1 M5))
set_option maxRecDepth 100000 in
set_option maxHeartbeats 4000000 in
theorem w_X12_worked_36 {M : Mem} {Q1 : Int32 → Mem → Prop} {s1 : Int32} (C : Cx T D p s m args c cX12_worked 5 "OneOfTwoModel") (hr : meth.sig.returnType = (some .int)) (hlk : meth.locks = false) (Z : Zz EM T D ad 16 A s.heap M H locs) {ls : Array Slot} (hl : lv_has ls 5 [(0, .ref (ad 0))]) (hB : B_X12_worked_36 Q1 s1 M) : W p l e (RM 50) s m args below meth c H locs 0 0 (MQ below (QcW EM T D ad 16 A Q1) args s 0 0 A) (F0 m 36 ls [.int s1, .ref (ad 0)]) := by
  have hx := C.x
  have hb := C.b
  delta B_X12_worked_36 at hB
  obtain ⟨q7, hB⟩ := hB
  refine pf_X12_10 C Z q7 tw_5_108 dX12_worked_36 (fun M8 H locs eM8 Z => ?_)
  have hB := hB M8 eM8
  refine lv_aload_n hx hb dX12_worked_39 rfl (lv_at hl 0 rfl) ?_
  refine v_X12_either (n := 42) (fun _ _ _ h => c_X12_unit 6 h) C hl.1 Z tw_5_208 ⟨Nat.le_of_ble_eq_true rfl, Nat.le_of_ble_eq_true rfl⟩ ⟨Nat.le_refl _, Nat.le_refl _⟩ (Nat.le_of_ble_eq_true rfl) dX12_worked_40 hB (fun v9 M10 H locs hB Z => ?_)
  refine lv_istore (lv' := [(4, .int v9), (0, .ref (ad 0))]) hx hb dX12_worked_43 hl (by decide) rfl (fun ls hl => ?_)
  refine lv_aload_n hx hb dX12_worked_45 rfl (lv_at hl 1 rfl) ?_
  refine gf_X12_8 C Z.1 tw_5_106 dX12_worked_46 ?_
  refine lv_if_ge (tgt := 68) hx hb dX12_worked_49 (by decide) (fun q11 => ?_) (fun q11 => ?_)
  · have hB := hB.1 q11
    refine lv_iload hx hb dX12_worked_68 (lv_at hl 0 rfl) ?_
    exact e_iW C hr hlk Z dX12_worked_70 hB
  · have hB := hB.2 q11
    refine lv_aload_n hx hb dX12_worked_52 rfl (lv_at hl 1 rfl) ?_
    refine gf_X12_6 C Z.1 tw_5_104 dX12_worked_53 ?_
    refine lv_aload_n hx hb dX12_worked_56 rfl (lv_at hl 1 rfl) ?_
    refine gf_X12_7 C Z.1 tw_5_105 dX12_worked_57 ?_
    refine lv_icmp_ge (tgt := 68) hx hb dX12_worked_60 (by decide) (fun q12 => ?_) (fun q12 => ?_)
    · have hB := hB.1 q12
      refine lv_iload hx hb dX12_worked_68 (lv_at hl 0 rfl) ?_
      exact e_iW C hr hlk Z dX12_worked_70 hB
    · have hB := hB.2 q12
      refine lv_aload_n hx hb dX12_worked_63 rfl (lv_at hl 1 rfl) ?_
      refine v_X12_wrong C hl.1 Z tw_5_236 ⟨Nat.le_of_ble_eq_true rfl, Nat.le_of_ble_eq_true rfl⟩ ⟨Nat.le_refl _, Nat.le_refl _⟩ (Nat.le_of_ble_eq_true rfl) dX12_worked_64 hB (fun v13 M14 H locs hB Z => ?_)
      exact e_iW C hr hlk Z dX12_worked_67 hB
set_option maxRecDepth 100000 in
set_option maxHeartbeats 4000000 in
theorem c_X12_worked {l : Launch} {T : Nat → ClassId} {D : va_G} {ad : Nat → Nat} {M : Mem} {x1 : Int32} {x2 : Int32} {x3 : Int32} {sz : Nat} {Q1 : Int32 → Mem → Prop} (hB : P_X12_worked M x1 x2 x3 Q1) : Met l yX12_worked (Cond.code yX12_worked cX12_worked 5 (some .int) :: TB) (RM 50) (va_Pc [.ref (ad 0), .int x1, .int x2, .int x3] (WrP EM T D ad 16 M sz)) (QcW EM T D ad 16 (AA ad 16 sz) Q1) 0 0 (AA ad 16 sz) := by
  refine st_W (by decide) (Nat.le_of_ble_eq_true rfl) (fun p e s m args below meth c ls C hr hlk hsz Z hl => ?_)
  have hl : lv_has ls 5 [(0, .ref (ad 0)), (1, .int x1), (2, .int x2), (3, .int x3)] := hl
  generalize AA ad 16 sz = A at Z ⊢
  have hx := C.x
  have hb := C.b
  delta P_X12_worked at hB
  refine lv_aload_n hx hb dX12_worked_0 rfl (lv_at hl 0 rfl) ?_
  refine lv_iload_n hx hb dX12_worked_1 rfl (lv_at hl 1 rfl) ?_
  refine pf_X12_5 C Z tw_5_103 dX12_worked_2 (fun M1 H locs eM1 Z => ?_)
  have hB := hB M1 eM1
  refine lv_aload_n hx hb dX12_worked_5 rfl (lv_at hl 0 rfl) ?_
  refine lv_iconst (v := 0) hx hb dX12_worked_6 (by decide) ?_
  refine pf_X12_6 C Z tw_5_104 dX12_worked_7 (fun M2 H locs eM2 Z => ?_)
  have hB := hB M2 eM2
  refine lv_aload_n hx hb dX12_worked_10 rfl (lv_at hl 0 rfl) ?_
  refine lv_iload_n hx hb dX12_worked_11 rfl (lv_at hl 2 rfl) ?_
  refine pf_X12_7 C Z tw_5_105 dX12_worked_12 (fun M3 H locs eM3 Z => ?_)
  have hB := hB M3 eM3
  refine lv_aload_n hx hb dX12_worked_15 rfl (lv_at hl 0 rfl) ?_
  refine lv_iconst (v := (-1)) hx hb dX12_worked_16 (by decide) ?_
  refine pf_X12_8 C Z tw_5_106 dX12_worked_17 (fun M4 H locs eM4 Z => ?_)
  have hB := hB M4 eM4
  refine lv_aload_n hx hb dX12_worked_20 rfl (lv_at hl 0 rfl) ?_
  refine lv_iconst (v := 0) hx hb dX12_worked_21 (by decide) ?_
  refine pf_X12_9 C Z tw_5_107 dX12_worked_22 (fun M5 H locs eM5 Z => ?_)
  have hB := hB M5 eM5
  refine lv_aload_n hx hb dX12_worked_25 rfl (lv_at hl 0 rfl) ?_
  refine lv_iload_n hx hb dX12_worked_26 rfl (lv_at hl 3 rfl) ?_
  refine lv_iconst (v := 1) hx hb dX12_worked_27 (by decide) ?_
  refine lv_icmp_ne (tgt := 35) hx hb dX12_worked_28 (by decide) (fun q6 => ?_) (fun q6 => ?_)
  · have hB := hB.1 q6
    refine lv_iconst (v := 0) hx hb dX12_worked_35 (by decide) ?_
    exact w_X12_worked_36 C hr hlk Z (lv_sub hl [0] rfl) hB
  · have hB := hB.2 q6
    refine lv_iconst (v := 1) hx hb dX12_worked_31 (by decide) ?_
    refine lv_goto (tgt := 36) hx hb dX12_worked_32 (by decide) ?_
    exact w_X12_worked_36 C hr hlk Z (lv_sub hl [0] rfl) hB
set_option maxRecDepth 100000 in
set_option maxHeartbeats 4000000 in
theorem v_X12_worked {M : Mem} {x1 : Int32} {x2 : Int32} {x3 : Int32} {Q1 : Int32 → Mem → Prop} (C : Cx T D p s m args c cc nL own) (hls : ls.size = nL) (Z : Zz EM T D ad 16 A H0 M H locs) (hlink : Cond.methodLink own index yX12_worked ∈ TB) (hR : 50 + 1 ≤ R.frames ∧ 8 + (5 + 11) + 48 * 50 ≤ R.locals) (hcs : cells ≤ R.cells ∧ slots ≤ R.slots) (hcat : (rest.map fun v => v.category).sum ≤ 8) (hdg : decode cc pc = .ok (.invokevirtual index, 3)) (hB : P_X12_worked M x1 x2 x3 Q1)
    (kk : ∀ (r : Int32) (M1 : Mem) (H1 : Heap) (locs1 : List Loc), Q1 r M1 → Zz EM T D ad 16 A H0 M1 H1 locs1 → W p l e R s m args below meth c H1 locs1 cells slots QQ (F0 m (pc + 3) ls (.int r :: rest))) : W p l e R s m args below meth c H locs cells slots QQ (F0 m pc ls (.int x3 :: .int x2 :: .int x1 :: .ref (ad 0) :: rest)) :=
  k_VW (ci := 12) (n := 3) (c_X12_worked hB) tw_5_207 tw_5_206 tw_s_21 tw_1_12 ⟨rfl, by decide, by decide, by decide +kernel⟩ rfl rfl C hls Z oM hlink hR hcs hcat rfl hdg kk
def B_X12_feed_41 (Q1 : Int32 → Mem → Prop) (x1 : Int64) (x3 : Int32) (x4 : Int32) (M : Mem) : Prop :=
  ∀ X41 : Int32 → Mem → Prop, (∀ (x4 : Int32) (M : Mem), (((x3 ≤ x4 → Q1 (M 1 9) M) ∧
    (¬ x3 ≤ x4 → vp_in (212 + (M 1 9)) 264 ∧ ∀ M5 : Mem, M5 = sf M 1 (212 + (M 1 9)).toNatClampNeg (((x1 >>> ((8 * x4).toInt64 &&& 63)) &&& 255).toInt32) → ∀ M7 : Mem, M7 = sf M5 1 9 ((M5 1 9) + 1) → ∀ x4_8 : Int32, x4_8 = x4 + 1 → X41 x4_8 M7))) → X41 x4 M) → X41 x4 M
def P_X12_feed (M : Mem) (x1 : Int64) (x3 : Int32) (Q1 : Int32 → Mem → Prop) : Prop :=
  P_X12_in (x3.toInt64) 1 8 (fun v1 => ((¬ v1 = 0 → ((((M 1 9) + x3) ≤ 50 → B_X12_feed_41 Q1 x1 x3 0 M) ∧
      (¬ ((M 1 9) + x3) ≤ 50 → P_X12_finds M 4 (fun v9 M10 => Q1 v9 M10)))) ∧
    (v1 = 0 → P_X12_finds M 1 (fun v11 M12 => Q1 v11 M12))))
set_option maxRecDepth 100000 in
set_option maxHeartbeats 4000000 in
theorem w_X12_feed_41 {M : Mem} {Q1 : Int32 → Mem → Prop} {x1 : Int64} {x3 : Int32} {x4 : Int32} (C : Cx T D p s m args c cX12_feed 5 "OneOfTwoModel") (hr : meth.sig.returnType = (some .int)) (hlk : meth.locks = false) (Z : Zz EM T D ad 16 A s.heap M H locs) {ls : Array Slot} (hl : lv_has ls 5 [(0, .ref (ad 0)), (1, .long x1), (3, .int x3), (4, .int x4)]) (hB : B_X12_feed_41 Q1 x1 x3 x4 M) : W p l e (RM 2) s m args below meth c H locs 0 0 (MQ below (QcW EM T D ad 16 A Q1) args s 0 0 A) (F0 m 41 ls []) := by
  delta B_X12_feed_41 at hB
  obtain ⟨X41, hX41, hY41⟩ : ∃ X41 : Int32 → Mem → Prop, (∀ (x4 : Int32) (M : Mem), X41 x4 M → ∀ (H : Heap) (locs : List Loc) (ls : Array Slot), Zz EM T D ad 16 A s.heap M H locs → lv_has ls 5 [(0, .ref (ad 0)), (1, .long x1), (3, .int x3), (4, .int x4)] → W p l e (RM 2) s m args below meth c H locs 0 0 (MQ below (QcW EM T D ad 16 A Q1) args s 0 0 A) (F0 m 41 ls [])) ∧ (∀ (x4 : Int32) (M : Mem), (∀ (H : Heap) (locs : List Loc) (ls : Array Slot), Zz EM T D ad 16 A s.heap M H locs → lv_has ls 5 [(0, .ref (ad 0)), (1, .long x1), (3, .int x3), (4, .int x4)] → W p l e (RM 2) s m args below meth c H locs 0 0 (MQ below (QcW EM T D ad 16 A Q1) args s 0 0 A) (F0 m 41 ls [])) → X41 x4 M) := ⟨fun (x4 : Int32) (M : Mem) => ∀ (H : Heap) (locs : List Loc) (ls : Array Slot), Zz EM T D ad 16 A s.heap M H locs → lv_has ls 5 [(0, .ref (ad 0)), (1, .long x1), (3, .int x3), (4, .int x4)] → W p l e (RM 2) s m args below meth c H locs 0 0 (MQ below (QcW EM T D ad 16 A Q1) args s 0 0 A) (F0 m 41 ls []), fun _ _ h => h, fun _ _ h => h⟩
  refine hX41 _ _ (hB X41 (fun x4 M hB => hY41 _ _ (fun H locs ls Z hl => ?_))) _ _ _ Z hl
  have hx := C.x
  have hb := C.b
  refine lv_iload hx hb dX12_feed_41 (lv_at hl 3 rfl) ?_
  refine lv_iload_n hx hb dX12_feed_43 rfl (lv_at hl 2 rfl) ?_
  refine lv_icmp_ge (tgt := 92) hx hb dX12_feed_44 (by decide) (fun q4 => ?_) (fun q4 => ?_)
  · have hB := hB.1 q4
    refine lv_aload_n hx hb dX12_feed_92 rfl (lv_at hl 0 rfl) ?_
    refine gf_X12_0 C Z.1 tw_5_98 dX12_feed_93 ?_
    refine lv_bipush (v := 9) hx hb dX12_feed_96 (by decide) ?_
    refine a_ldc C Z.1 aM_1 (vin rfl) (j := 9) rfl dX12_feed_98 ?_
    exact e_iW C hr hlk Z dX12_feed_99 hB
  · have hB := hB.2 q4
    refine lv_aload_n hx hb dX12_feed_47 rfl (lv_at hl 0 rfl) ?_
    refine gf_X12_0 C Z.1 tw_5_98 dX12_feed_48 ?_
    refine lv_sipush (v := 212) hx hb dX12_feed_51 (by decide) ?_
    refine lv_aload_n hx hb dX12_feed_54 rfl (lv_at hl 0 rfl) ?_
    refine gf_X12_0 C Z.1 tw_5_98 dX12_feed_55 ?_
    refine lv_bipush (v := 9) hx hb dX12_feed_58 (by decide) ?_
    refine a_ldc C Z.1 aM_1 (vin rfl) (j := 9) rfl dX12_feed_60 ?_
    refine lv_iadd hx hb dX12_feed_61 ?_
    refine lv_lload_n hx hb dX12_feed_62 rfl (lv_at hl 1 rfl) ?_
    refine lv_bipush (v := 8) hx hb dX12_feed_63 (by decide) ?_
    refine lv_iload hx hb dX12_feed_65 (lv_at hl 3 rfl) ?_
    refine lv_imul hx hb dX12_feed_67 ?_
    refine lv_lshr hx hb dX12_feed_68 rfl ?_
    refine lv_ldc2 hx hb C.1.2.2.2.1 (C.1.2.2.2.2 _ tw_5_199) dX12_feed_69 ?_
    refine lv_land hx hb dX12_feed_72 ?_
    refine lv_l2i hx hb dX12_feed_73 rfl ?_
    obtain ⟨q6, hB⟩ := hB
    refine a_st C Z aM_1 q6 dX12_feed_74 (fun M5 H locs eM5 Z => ?_)
    have hB := hB M5 eM5
    refine lv_aload_n hx hb dX12_feed_75 rfl (lv_at hl 0 rfl) ?_
    refine gf_X12_0 C Z.1 tw_5_98 dX12_feed_76 ?_
    refine lv_bipush (v := 9) hx hb dX12_feed_79 (by decide) ?_
    refine lv_dup2_11 hx hb dX12_feed_81 rfl rfl ?_
    refine a_ldc C Z.1 aM_1 (vin rfl) (j := 9) rfl dX12_feed_82 ?_
    refine lv_iconst (v := 1) hx hb dX12_feed_83 (by decide) ?_
    refine lv_iadd hx hb dX12_feed_84 ?_
    refine a_stc C Z aM_1 (vin rfl) rfl dX12_feed_85 (fun M7 H locs eM7 Z => ?_)
    have hB := hB M7 eM7
    obtain ⟨x4_8, ex4_8⟩ : ∃ y : Int32, y = x4 + 1 := ⟨_, rfl⟩
    have hB := hB x4_8 ex4_8
    refine lv_iinc (v := x4_8) (lv' := [(4, .int x4_8), (0, .ref (ad 0)), (1, .long x1), (3, .int x3)]) hx hb dX12_feed_86 hl (k := 3) rfl (by rw [ex4_8]; rfl) (by decide) rfl (fun ls hl => ?_)
    refine lv_goto (tgt := 41) hx hb dX12_feed_89 (by decide) ?_
    exact hX41 _ _ hB _ _ _ Z (lv_sub hl [1, 2, 3, 0] rfl)
set_option maxRecDepth 100000 in
set_option maxHeartbeats 4000000 in
theorem c_X12_feed {l : Launch} {T : Nat → ClassId} {D : va_G} {ad : Nat → Nat} {M : Mem} {x1 : Int64} {x3 : Int32} {sz : Nat} {Q1 : Int32 → Mem → Prop} (hB : P_X12_feed M x1 x3 Q1) : Met l yX12_feed (Cond.code yX12_feed cX12_feed 5 (some .int) :: TB) (RM 2) (va_Pc [.ref (ad 0), .long x1, .int x3] (WrP EM T D ad 16 M sz)) (QcW EM T D ad 16 (AA ad 16 sz) Q1) 0 0 (AA ad 16 sz) := by
  refine st_W (by decide) (Nat.le_of_ble_eq_true rfl) (fun p e s m args below meth c ls C hr hlk hsz Z hl => ?_)
  have hl : lv_has ls 5 [(0, .ref (ad 0)), (1, .long x1), (3, .int x3)] := hl
  generalize AA ad 16 sz = A at Z ⊢
  have hx := C.x
  have hb := C.b
  delta P_X12_feed at hB
  refine lv_iload_n hx hb dX12_feed_0 rfl (lv_at hl 2 rfl) ?_
  refine lv_i2l hx hb dX12_feed_1 rfl ?_
  refine lv_lconst (v := 1) hx hb dX12_feed_2 (by decide) ?_
  refine lv_ldc2 hx hb C.1.2.2.2.1 (C.1.2.2.2.2 _ tw_5_190) dX12_feed_3 ?_
  refine v_X12_in C.1 hl.1 tw_5_191 ⟨Nat.le_of_ble_eq_true rfl, Nat.le_of_ble_eq_true rfl⟩ ⟨Nat.le_refl _, Nat.le_refl _⟩ (Nat.le_of_ble_eq_true rfl) dX12_feed_6 hB (fun v1 hB => ?_)
  refine lv_if_ne (tgt := 18) hx hb dX12_feed_9 (by decide) (fun q2 => ?_) (fun q2 => ?_)
  · have hB := hB.1 q2
    refine lv_aload_n hx hb dX12_feed_18 rfl (lv_at hl 0 rfl) ?_
    refine gf_X12_0 C Z.1 tw_5_98 dX12_feed_19 ?_
    refine lv_bipush (v := 9) hx hb dX12_feed_22 (by decide) ?_
    refine a_ldc C Z.1 aM_1 (vin rfl) (j := 9) rfl dX12_feed_24 ?_
    refine lv_iload_n hx hb dX12_feed_25 rfl (lv_at hl 2 rfl) ?_
    refine lv_iadd hx hb dX12_feed_26 ?_
    refine lv_bipush (v := 50) hx hb dX12_feed_27 (by decide) ?_
    refine lv_icmp_le (tgt := 38) hx hb dX12_feed_29 (by decide) (fun q3 => ?_) (fun q3 => ?_)
    · have hB := hB.1 q3
      refine lv_iconst (v := 0) hx hb dX12_feed_38 (by decide) ?_
      refine lv_istore (lv' := [(4, .int 0), (0, .ref (ad 0)), (1, .long x1), (3, .int x3)]) hx hb dX12_feed_39 hl (by decide) rfl (fun ls hl => ?_)
      exact w_X12_feed_41 C hr hlk Z (lv_sub hl [1, 2, 3, 0] rfl) hB
    · have hB := hB.2 q3
      refine lv_aload_n hx hb dX12_feed_32 rfl (lv_at hl 0 rfl) ?_
      refine lv_iconst (v := 4) hx hb dX12_feed_33 (by decide) ?_
      refine v_X12_finds C hl.1 Z tw_5_194 ⟨Nat.le_of_ble_eq_true rfl, Nat.le_of_ble_eq_true rfl⟩ ⟨Nat.le_refl _, Nat.le_refl _⟩ (Nat.le_of_ble_eq_true rfl) dX12_feed_34 hB (fun v9 M10 H locs hB Z => ?_)
      exact e_iW C hr hlk Z dX12_feed_37 hB
  · have hB := hB.2 q2
    refine lv_aload_n hx hb dX12_feed_12 rfl (lv_at hl 0 rfl) ?_
    refine lv_iconst (v := 1) hx hb dX12_feed_13 (by decide) ?_
    refine v_X12_finds C hl.1 Z tw_5_194 ⟨Nat.le_of_ble_eq_true rfl, Nat.le_of_ble_eq_true rfl⟩ ⟨Nat.le_refl _, Nat.le_refl _⟩ (Nat.le_of_ble_eq_true rfl) dX12_feed_14 hB (fun v11 M12 H locs hB Z => ?_)
    exact e_iW C hr hlk Z dX12_feed_17 hB
set_option maxRecDepth 100000 in
set_option maxHeartbeats 4000000 in
theorem v_X12_feed {M : Mem} {x1 : Int64} {x3 : Int32} {Q1 : Int32 → Mem → Prop} (C : Cx T D p s m args c cc nL own) (hls : ls.size = nL) (Z : Zz EM T D ad 16 A H0 M H locs) (hlink : Cond.methodLink own index yX12_feed ∈ TB) (hR : 2 + 1 ≤ R.frames ∧ 8 + (5 + 11) + 48 * 2 ≤ R.locals) (hcs : cells ≤ R.cells ∧ slots ≤ R.slots) (hcat : (rest.map fun v => v.category).sum ≤ 8) (hdg : decode cc pc = .ok (.invokevirtual index, 3)) (hB : P_X12_feed M x1 x3 Q1)
    (kk : ∀ (r : Int32) (M1 : Mem) (H1 : Heap) (locs1 : List Loc), Q1 r M1 → Zz EM T D ad 16 A H0 M1 H1 locs1 → W p l e R s m args below meth c H1 locs1 cells slots QQ (F0 m (pc + 3) ls (.int r :: rest))) : W p l e R s m args below meth c H locs cells slots QQ (F0 m pc ls (.int x3 :: .long x1 :: .ref (ad 0) :: rest)) :=
  k_VW (ci := 12) (n := 2) (c_X12_feed hB) tw_5_189 tw_5_187 tw_5_188 tw_1_12 ⟨rfl, by decide, by decide, by decide +kernel⟩ rfl rfl C hls Z oM hlink hR hcs hcat rfl hdg kk
def B_X12_text_70 (Q1 : Int32 → Mem → Prop) (x1 : Int32) (x2 : Int32) (x4 : Int32) (M : Mem) : Prop :=
  ∀ X70 : Int32 → Mem → Prop, (∀ (x4 : Int32) (M : Mem), (((x2 ≤ x4 → Q1 1 M) ∧
    (¬ x2 ≤ x4 → vp_in (212 + x4) 264 ∧ vp_in ((112 + (50 * x1)) + x4) 264 ∧ ∀ M12 : Mem, M12 = sf M 1 ((112 + (50 * x1)) + x4).toNatClampNeg (M 1 (212 + x4).toNatClampNeg) → ∀ x4_14 : Int32, x4_14 = x4 + 1 → X70 x4_14 M12))) → X70 x4 M) → X70 x4 M
def P_X12_text (M : Mem) (x1 : Int32) (Q1 : Int32 → Mem → Prop) : Prop :=
  P_X12_in (x1.toInt64) 0 1 (fun v1 => ((¬ v1 = 0 → ∀ x2_3 : Int32, x2_3 = M 1 9 → ∀ M4 : Mem, M4 = sf M 1 9 0 → P_X12_worked M4 212 x2_3 x1 (fun v5 M6 => (((M6 0 8) < 0 → vp_in (90 + x1) 264 ∧ ∀ M8 : Mem, M8 = sf M6 1 (90 + x1).toNatClampNeg x2_3 → B_X12_text_70 Q1 x1 x2_3 0 M8) ∧
      (¬ (M6 0 8) < 0 → Q1 ((-10) - (M6 0 8)) M6)))) ∧
    (v1 = 0 → P_X12_finds M 1 (fun v15 M16 => Q1 v15 M16))))
set_option maxRecDepth 100000 in
set_option maxHeartbeats 4000000 in
theorem w_X12_text_70 {M : Mem} {Q1 : Int32 → Mem → Prop} {x1 : Int32} {x2 : Int32} {x4 : Int32} (C : Cx T D p s m args c cX12_text 5 "OneOfTwoModel") (hr : meth.sig.returnType = (some .int)) (hlk : meth.locks = false) (Z : Zz EM T D ad 16 A s.heap M H locs) {ls : Array Slot} (hl : lv_has ls 5 [(0, .ref (ad 0)), (1, .int x1), (2, .int x2), (4, .int x4)]) (hB : B_X12_text_70 Q1 x1 x2 x4 M) : W p l e (RM 51) s m args below meth c H locs 0 0 (MQ below (QcW EM T D ad 16 A Q1) args s 0 0 A) (F0 m 70 ls []) := by
  delta B_X12_text_70 at hB
  obtain ⟨X70, hX70, hY70⟩ : ∃ X70 : Int32 → Mem → Prop, (∀ (x4 : Int32) (M : Mem), X70 x4 M → ∀ (H : Heap) (locs : List Loc) (ls : Array Slot), Zz EM T D ad 16 A s.heap M H locs → lv_has ls 5 [(0, .ref (ad 0)), (1, .int x1), (2, .int x2), (4, .int x4)] → W p l e (RM 51) s m args below meth c H locs 0 0 (MQ below (QcW EM T D ad 16 A Q1) args s 0 0 A) (F0 m 70 ls [])) ∧ (∀ (x4 : Int32) (M : Mem), (∀ (H : Heap) (locs : List Loc) (ls : Array Slot), Zz EM T D ad 16 A s.heap M H locs → lv_has ls 5 [(0, .ref (ad 0)), (1, .int x1), (2, .int x2), (4, .int x4)] → W p l e (RM 51) s m args below meth c H locs 0 0 (MQ below (QcW EM T D ad 16 A Q1) args s 0 0 A) (F0 m 70 ls [])) → X70 x4 M) := ⟨fun (x4 : Int32) (M : Mem) => ∀ (H : Heap) (locs : List Loc) (ls : Array Slot), Zz EM T D ad 16 A s.heap M H locs → lv_has ls 5 [(0, .ref (ad 0)), (1, .int x1), (2, .int x2), (4, .int x4)] → W p l e (RM 51) s m args below meth c H locs 0 0 (MQ below (QcW EM T D ad 16 A Q1) args s 0 0 A) (F0 m 70 ls []), fun _ _ h => h, fun _ _ h => h⟩
  refine hX70 _ _ (hB X70 (fun x4 M hB => hY70 _ _ (fun H locs ls Z hl => ?_))) _ _ _ Z hl
  have hx := C.x
  have hb := C.b
  refine lv_iload hx hb dX12_text_70 (lv_at hl 3 rfl) ?_
  refine lv_iload_n hx hb dX12_text_72 rfl (lv_at hl 2 rfl) ?_
  refine lv_icmp_ge (tgt := 108) hx hb dX12_text_73 (by decide) (fun q10 => ?_) (fun q10 => ?_)
  · have hB := hB.1 q10
    refine lv_iconst (v := 1) hx hb dX12_text_108 (by decide) ?_
    exact e_iW C hr hlk Z dX12_text_109 hB
  · have hB := hB.2 q10
    refine lv_aload_n hx hb dX12_text_76 rfl (lv_at hl 0 rfl) ?_
    refine gf_X12_0 C Z.1 tw_5_98 dX12_text_77 ?_
    refine lv_bipush (v := 112) hx hb dX12_text_80 (by decide) ?_
    refine lv_bipush (v := 50) hx hb dX12_text_82 (by decide) ?_
    refine lv_iload_n hx hb dX12_text_84 rfl (lv_at hl 1 rfl) ?_
    refine lv_imul hx hb dX12_text_85 ?_
    refine lv_iadd hx hb dX12_text_86 ?_
    refine lv_iload hx hb dX12_text_87 (lv_at hl 3 rfl) ?_
    refine lv_iadd hx hb dX12_text_89 ?_
    refine lv_aload_n hx hb dX12_text_90 rfl (lv_at hl 0 rfl) ?_
    refine gf_X12_0 C Z.1 tw_5_98 dX12_text_91 ?_
    refine lv_sipush (v := 212) hx hb dX12_text_94 (by decide) ?_
    refine lv_iload hx hb dX12_text_97 (lv_at hl 3 rfl) ?_
    refine lv_iadd hx hb dX12_text_99 ?_
    obtain ⟨q11, hB⟩ := hB
    refine a_ld C Z.1 aM_1 q11 dX12_text_100 ?_
    obtain ⟨q13, hB⟩ := hB
    refine a_st C Z aM_1 q13 dX12_text_101 (fun M12 H locs eM12 Z => ?_)
    have hB := hB M12 eM12
    obtain ⟨x4_14, ex4_14⟩ : ∃ y : Int32, y = x4 + 1 := ⟨_, rfl⟩
    have hB := hB x4_14 ex4_14
    refine lv_iinc (v := x4_14) (lv' := [(4, .int x4_14), (0, .ref (ad 0)), (1, .int x1), (2, .int x2)]) hx hb dX12_text_102 hl (k := 3) rfl (by rw [ex4_14]; rfl) (by decide) rfl (fun ls hl => ?_)
    refine lv_goto (tgt := 70) hx hb dX12_text_105 (by decide) ?_
    exact hX70 _ _ hB _ _ _ Z (lv_sub hl [1, 2, 3, 0] rfl)
set_option maxRecDepth 100000 in
set_option maxHeartbeats 4000000 in
theorem c_X12_text {l : Launch} {T : Nat → ClassId} {D : va_G} {ad : Nat → Nat} {M : Mem} {x1 : Int32} {sz : Nat} {Q1 : Int32 → Mem → Prop} (hB : P_X12_text M x1 Q1) : Met l yX12_text (Cond.code yX12_text cX12_text 5 (some .int) :: TB) (RM 51) (va_Pc [.ref (ad 0), .int x1] (WrP EM T D ad 16 M sz)) (QcW EM T D ad 16 (AA ad 16 sz) Q1) 0 0 (AA ad 16 sz) := by
  refine st_W (by decide) (Nat.le_of_ble_eq_true rfl) (fun p e s m args below meth c ls C hr hlk hsz Z hl => ?_)
  have hl : lv_has ls 5 [(0, .ref (ad 0)), (1, .int x1)] := hl
  generalize AA ad 16 sz = A at Z ⊢
  have hx := C.x
  have hb := C.b
  delta P_X12_text at hB
  refine lv_iload_n hx hb dX12_text_0 rfl (lv_at hl 1 rfl) ?_
  refine lv_i2l hx hb dX12_text_1 rfl ?_
  refine lv_lconst (v := 0) hx hb dX12_text_2 (by decide) ?_
  refine lv_lconst (v := 1) hx hb dX12_text_3 (by decide) ?_
  refine v_X12_in C.1 hl.1 tw_5_191 ⟨Nat.le_of_ble_eq_true rfl, Nat.le_of_ble_eq_true rfl⟩ ⟨Nat.le_refl _, Nat.le_refl _⟩ (Nat.le_of_ble_eq_true rfl) dX12_text_4 hB (fun v1 hB => ?_)
  refine lv_if_ne (tgt := 16) hx hb dX12_text_7 (by decide) (fun q2 => ?_) (fun q2 => ?_)
  · have hB := hB.1 q2
    refine lv_aload_n hx hb dX12_text_16 rfl (lv_at hl 0 rfl) ?_
    refine gf_X12_0 C Z.1 tw_5_98 dX12_text_17 ?_
    refine lv_bipush (v := 9) hx hb dX12_text_20 (by decide) ?_
    refine a_ldc C Z.1 aM_1 (vin rfl) (j := 9) rfl dX12_text_22 ?_
    refine lv_topi (fun x2_3 ex2_3 => ?_)
    have hB := hB x2_3 ex2_3
    refine lv_istore_n (lv' := [(2, .int x2_3), (0, .ref (ad 0)), (1, .int x1)]) hx hb dX12_text_23 rfl hl (by decide) rfl (fun ls hl => ?_)
    refine lv_aload_n hx hb dX12_text_24 rfl (lv_at hl 1 rfl) ?_
    refine gf_X12_0 C Z.1 tw_5_98 dX12_text_25 ?_
    refine lv_bipush (v := 9) hx hb dX12_text_28 (by decide) ?_
    refine lv_iconst (v := 0) hx hb dX12_text_30 (by decide) ?_
    refine a_stc C Z aM_1 (vin rfl) rfl dX12_text_31 (fun M4 H locs eM4 Z => ?_)
    have hB := hB M4 eM4
    refine lv_aload_n hx hb dX12_text_32 rfl (lv_at hl 1 rfl) ?_
    refine lv_sipush (v := 212) hx hb dX12_text_33 (by decide) ?_
    refine lv_iload_n hx hb dX12_text_36 rfl (lv_at hl 0 rfl) ?_
    refine lv_iload_n hx hb dX12_text_37 rfl (lv_at hl 2 rfl) ?_
    refine v_X12_worked C hl.1 Z tw_5_204 ⟨Nat.le_of_ble_eq_true rfl, Nat.le_of_ble_eq_true rfl⟩ ⟨Nat.le_refl _, Nat.le_refl _⟩ (Nat.le_of_ble_eq_true rfl) dX12_text_38 hB (fun v5 M6 H locs hB Z => ?_)
    refine lv_istore_n (lv' := [(3, .int v5), (2, .int x2_3), (0, .ref (ad 0)), (1, .int x1)]) hx hb dX12_text_41 rfl hl (by decide) rfl (fun ls hl => ?_)
    refine lv_aload_n hx hb dX12_text_42 rfl (lv_at hl 2 rfl) ?_
    refine gf_X12_8 C Z.1 tw_5_106 dX12_text_43 ?_
    refine lv_if_lt (tgt := 57) hx hb dX12_text_46 (by decide) (fun q7 => ?_) (fun q7 => ?_)
    · have hB := hB.1 q7
      refine lv_aload_n hx hb dX12_text_57 rfl (lv_at hl 2 rfl) ?_
      refine gf_X12_0 C Z.1 tw_5_98 dX12_text_58 ?_
      refine lv_bipush (v := 90) hx hb dX12_text_61 (by decide) ?_
      refine lv_iload_n hx hb dX12_text_63 rfl (lv_at hl 3 rfl) ?_
      refine lv_iadd hx hb dX12_text_64 ?_
      refine lv_iload_n hx hb dX12_text_65 rfl (lv_at hl 1 rfl) ?_
      obtain ⟨q9, hB⟩ := hB
      refine a_st C Z aM_1 q9 dX12_text_66 (fun M8 H locs eM8 Z => ?_)
      have hB := hB M8 eM8
      refine lv_iconst (v := 0) hx hb dX12_text_67 (by decide) ?_
      refine lv_istore (lv' := [(4, .int 0), (3, .int v5), (2, .int x2_3), (0, .ref (ad 0)), (1, .int x1)]) hx hb dX12_text_68 hl (by decide) rfl (fun ls hl => ?_)
      exact w_X12_text_70 C hr hlk Z (lv_sub hl [3, 4, 2, 0] rfl) hB
    · have hB := hB.2 q7
      refine lv_bipush (v := (-10)) hx hb dX12_text_49 (by decide) ?_
      refine lv_aload_n hx hb dX12_text_51 rfl (lv_at hl 2 rfl) ?_
      refine gf_X12_8 C Z.1 tw_5_106 dX12_text_52 ?_
      refine lv_isub hx hb dX12_text_55 ?_
      exact e_iW C hr hlk Z dX12_text_56 hB
  · have hB := hB.2 q2
    refine lv_aload_n hx hb dX12_text_10 rfl (lv_at hl 0 rfl) ?_
    refine lv_iconst (v := 1) hx hb dX12_text_11 (by decide) ?_
    refine v_X12_finds C hl.1 Z tw_5_194 ⟨Nat.le_of_ble_eq_true rfl, Nat.le_of_ble_eq_true rfl⟩ ⟨Nat.le_refl _, Nat.le_refl _⟩ (Nat.le_of_ble_eq_true rfl) dX12_text_12 hB (fun v15 M16 H locs hB Z => ?_)
    exact e_iW C hr hlk Z dX12_text_15 hB
set_option maxRecDepth 100000 in
set_option maxHeartbeats 4000000 in
theorem v_X12_text {M : Mem} {x1 : Int32} {Q1 : Int32 → Mem → Prop} (C : Cx T D p s m args c cc nL own) (hls : ls.size = nL) (Z : Zz EM T D ad 16 A H0 M H locs) (hlink : Cond.methodLink own index yX12_text ∈ TB) (hR : 51 + 1 ≤ R.frames ∧ 8 + (5 + 11) + 48 * 51 ≤ R.locals) (hcs : cells ≤ R.cells ∧ slots ≤ R.slots) (hcat : (rest.map fun v => v.category).sum ≤ 8) (hdg : decode cc pc = .ok (.invokevirtual index, 3)) (hB : P_X12_text M x1 Q1)
    (kk : ∀ (r : Int32) (M1 : Mem) (H1 : Heap) (locs1 : List Loc), Q1 r M1 → Zz EM T D ad 16 A H0 M1 H1 locs1 → W p l e R s m args below meth c H1 locs1 cells slots QQ (F0 m (pc + 3) ls (.int r :: rest))) : W p l e R s m args below meth c H locs cells slots QQ (F0 m pc ls (.int x1 :: .ref (ad 0) :: rest)) :=
  k_VW (ci := 12) (n := 1) (c_X12_text hB) tw_5_203 tw_5_201 tw_5_202 tw_1_12 ⟨rfl, by decide, by decide, by decide +kernel⟩ rfl rfl C hls Z oM hlink hR hcs hcat rfl hdg kk
def B_X12_textGives_74 (Q1 : Int32 → Mem → Prop) (x1 : Int32) (x5 : Int32) (M : Mem) : Prop :=
  ((¬ x1 = 0 → P_X12_held x5 (-99) 99 (fun v5 => Q1 v5 M)) ∧
    (x1 = 0 → P_X12_held x5 0 99 (fun v6 => Q1 v6 M)))
def B_X12_textGives_15 (Q1 : Int32 → Mem → Prop) (x1 : Int32) (x2 : Int32) (x3 : Int32) (x4 : Int32) (s0 : Int32) (M : Mem) : Prop :=
  vp_in (90 + x1) 264 ∧ (((M 1 (90 + x1).toNatClampNeg) ≤ 0 → B_X12_textGives_74 Q1 x1 s0 M) ∧
    (¬ (M 1 (90 + x1).toNatClampNeg) ≤ 0 → ∀ M7 : Mem, M7 = sf M 5 0 x2 → ∀ M8 : Mem, M8 = sf M7 5 1 x3 → ∀ M9 : Mem, M9 = sf M8 5 2 x4 → vp_in (90 + x1) 264 ∧ P_X12_worked M9 (112 + (50 * x1)) (M9 1 (90 + x1).toNatClampNeg) x1 (fun v11 M12 => B_X12_textGives_74 Q1 x1 v11 M12)))
def P_X12_textGives (M : Mem) (x1 : Int32) (x2 : Int32) (x3 : Int32) (x4 : Int32) (Q1 : Int32 → Mem → Prop) : Prop :=
  ((¬ x1 = 0 → B_X12_textGives_15 Q1 x1 x2 x3 x4 x2 M) ∧
    (x1 = 0 → B_X12_textGives_15 Q1 x1 x2 x3 x4 ((2 * x2) + (x3 / 2)) M))
set_option maxRecDepth 100000 in
set_option maxHeartbeats 4000000 in
theorem w_X12_textGives_74 {M : Mem} {Q1 : Int32 → Mem → Prop} {x1 : Int32} {x5 : Int32} (C : Cx T D p s m args c cX12_textGives 6 "OneOfTwoModel") (hr : meth.sig.returnType = (some .int)) (hlk : meth.locks = false) (Z : Zz EM T D ad 16 A s.heap M H locs) {ls : Array Slot} (hl : lv_has ls 6 [(1, .int x1), (5, .int x5)]) (hB : B_X12_textGives_74 Q1 x1 x5 M) : W p l e (RM 51) s m args below meth c H locs 0 0 (MQ below (QcW EM T D ad 16 A Q1) args s 0 0 A) (F0 m 74 ls []) := by
  have hx := C.x
  have hb := C.b
  delta B_X12_textGives_74 at hB
  refine lv_iload_n hx hb dX12_textGives_74 rfl (lv_at hl 0 rfl) ?_
  refine lv_if_ne (tgt := 89) hx hb dX12_textGives_75 (by decide) (fun q4 => ?_) (fun q4 => ?_)
  · have hB := hB.1 q4
    refine lv_iload hx hb dX12_textGives_89 (lv_at hl 1 rfl) ?_
    refine lv_bipush (v := (-99)) hx hb dX12_textGives_91 (by decide) ?_
    refine lv_bipush (v := 99) hx hb dX12_textGives_93 (by decide) ?_
    refine v_X12_held C.1 hl.1 tw_6_18 ⟨Nat.le_of_ble_eq_true rfl, Nat.le_of_ble_eq_true rfl⟩ ⟨Nat.le_refl _, Nat.le_refl _⟩ (Nat.le_of_ble_eq_true rfl) dX12_textGives_95 hB (fun v5 hB => ?_)
    exact e_iW C hr hlk Z dX12_textGives_98 hB
  · have hB := hB.2 q4
    refine lv_iload hx hb dX12_textGives_78 (lv_at hl 1 rfl) ?_
    refine lv_iconst (v := 0) hx hb dX12_textGives_80 (by decide) ?_
    refine lv_bipush (v := 99) hx hb dX12_textGives_81 (by decide) ?_
    refine v_X12_held C.1 hl.1 tw_6_18 ⟨Nat.le_of_ble_eq_true rfl, Nat.le_of_ble_eq_true rfl⟩ ⟨Nat.le_refl _, Nat.le_refl _⟩ (Nat.le_of_ble_eq_true rfl) dX12_textGives_83 hB (fun v6 hB => ?_)
    refine lv_goto (tgt := 98) hx hb dX12_textGives_86 (by decide) ?_
    exact e_iW C hr hlk Z dX12_textGives_98 hB
set_option maxRecDepth 100000 in
set_option maxHeartbeats 4000000 in
theorem w_X12_textGives_15 {M : Mem} {Q1 : Int32 → Mem → Prop} {x1 : Int32} {x2 : Int32} {x3 : Int32} {x4 : Int32} {s0 : Int32} (C : Cx T D p s m args c cX12_textGives 6 "OneOfTwoModel") (hr : meth.sig.returnType = (some .int)) (hlk : meth.locks = false) (Z : Zz EM T D ad 16 A s.heap M H locs) {ls : Array Slot} (hl : lv_has ls 6 [(0, .ref (ad 0)), (1, .int x1), (2, .int x2), (3, .int x3), (4, .int x4)]) (hB : B_X12_textGives_15 Q1 x1 x2 x3 x4 s0 M) : W p l e (RM 51) s m args below meth c H locs 0 0 (MQ below (QcW EM T D ad 16 A Q1) args s 0 0 A) (F0 m 15 ls [.int s0]) := by
  have hx := C.x
  have hb := C.b
  delta B_X12_textGives_15 at hB
  refine lv_istore (lv' := [(5, .int s0), (0, .ref (ad 0)), (1, .int x1), (2, .int x2), (3, .int x3), (4, .int x4)]) hx hb dX12_textGives_15 hl (by decide) rfl (fun ls hl => ?_)
  refine lv_aload_n hx hb dX12_textGives_17 rfl (lv_at hl 1 rfl) ?_
  refine gf_X12_0 C Z.1 tw_5_98 dX12_textGives_18 ?_
  refine lv_bipush (v := 90) hx hb dX12_textGives_21 (by decide) ?_
  refine lv_iload_n hx hb dX12_textGives_23 rfl (lv_at hl 2 rfl) ?_
  refine lv_iadd hx hb dX12_textGives_24 ?_
  obtain ⟨q2, hB⟩ := hB
  refine a_ld C Z.1 aM_1 q2 dX12_textGives_25 ?_
  refine lv_if_le (tgt := 74) hx hb dX12_textGives_26 (by decide) (fun q3 => ?_) (fun q3 => ?_)
  · have hB := hB.1 q3
    exact w_X12_textGives_74 C hr hlk Z (lv_sub hl [2, 0] rfl) hB
  · have hB := hB.2 q3
    refine lv_aload_n hx hb dX12_textGives_29 rfl (lv_at hl 1 rfl) ?_
    refine gf_X12_11 C Z.1 tw_5_109 dX12_textGives_30 ?_
    refine lv_iconst (v := 0) hx hb dX12_textGives_33 (by decide) ?_
    refine lv_iload_n hx hb dX12_textGives_34 rfl (lv_at hl 3 rfl) ?_
    refine a_stc C Z aM_5 (vin rfl) rfl dX12_textGives_35 (fun M7 H locs eM7 Z => ?_)
    have hB := hB M7 eM7
    refine lv_aload_n hx hb dX12_textGives_36 rfl (lv_at hl 1 rfl) ?_
    refine gf_X12_11 C Z.1 tw_5_109 dX12_textGives_37 ?_
    refine lv_iconst (v := 1) hx hb dX12_textGives_40 (by decide) ?_
    refine lv_iload_n hx hb dX12_textGives_41 rfl (lv_at hl 4 rfl) ?_
    refine a_stc C Z aM_5 (vin rfl) rfl dX12_textGives_42 (fun M8 H locs eM8 Z => ?_)
    have hB := hB M8 eM8
    refine lv_aload_n hx hb dX12_textGives_43 rfl (lv_at hl 1 rfl) ?_
    refine gf_X12_11 C Z.1 tw_5_109 dX12_textGives_44 ?_
    refine lv_iconst (v := 2) hx hb dX12_textGives_47 (by decide) ?_
    refine lv_iload hx hb dX12_textGives_48 (lv_at hl 5 rfl) ?_
    refine a_stc C Z aM_5 (vin rfl) rfl dX12_textGives_50 (fun M9 H locs eM9 Z => ?_)
    have hB := hB M9 eM9
    refine lv_aload_n hx hb dX12_textGives_51 rfl (lv_at hl 1 rfl) ?_
    refine lv_bipush (v := 112) hx hb dX12_textGives_52 (by decide) ?_
    refine lv_bipush (v := 50) hx hb dX12_textGives_54 (by decide) ?_
    refine lv_iload_n hx hb dX12_textGives_56 rfl (lv_at hl 2 rfl) ?_
    refine lv_imul hx hb dX12_textGives_57 ?_
    refine lv_iadd hx hb dX12_textGives_58 ?_
    refine lv_aload_n hx hb dX12_textGives_59 rfl (lv_at hl 1 rfl) ?_
    refine gf_X12_0 C Z.1 tw_5_98 dX12_textGives_60 ?_
    refine lv_bipush (v := 90) hx hb dX12_textGives_63 (by decide) ?_
    refine lv_iload_n hx hb dX12_textGives_65 rfl (lv_at hl 2 rfl) ?_
    refine lv_iadd hx hb dX12_textGives_66 ?_
    obtain ⟨q10, hB⟩ := hB
    refine a_ld C Z.1 aM_1 q10 dX12_textGives_67 ?_
    refine lv_iload_n hx hb dX12_textGives_68 rfl (lv_at hl 2 rfl) ?_
    refine v_X12_worked C hl.1 Z tw_5_204 ⟨Nat.le_of_ble_eq_true rfl, Nat.le_of_ble_eq_true rfl⟩ ⟨Nat.le_refl _, Nat.le_refl _⟩ (Nat.le_of_ble_eq_true rfl) dX12_textGives_69 hB (fun v11 M12 H locs hB Z => ?_)
    refine lv_istore (lv' := [(5, .int v11), (0, .ref (ad 0)), (1, .int x1), (2, .int x2), (3, .int x3), (4, .int x4)]) hx hb dX12_textGives_72 hl (by decide) rfl (fun ls hl => ?_)
    exact w_X12_textGives_74 C hr hlk Z (lv_sub hl [2, 0] rfl) hB
set_option maxRecDepth 100000 in
set_option maxHeartbeats 4000000 in
theorem c_X12_textGives {l : Launch} {T : Nat → ClassId} {D : va_G} {ad : Nat → Nat} {M : Mem} {x1 : Int32} {x2 : Int32} {x3 : Int32} {x4 : Int32} {sz : Nat} {Q1 : Int32 → Mem → Prop} (hB : P_X12_textGives M x1 x2 x3 x4 Q1) : Met l yX12_textGives (Cond.code yX12_textGives cX12_textGives 6 (some .int) :: TB) (RM 51) (va_Pc [.ref (ad 0), .int x1, .int x2, .int x3, .int x4] (WrP EM T D ad 16 M sz)) (QcW EM T D ad 16 (AA ad 16 sz) Q1) 0 0 (AA ad 16 sz) := by
  refine st_W (by decide) (Nat.le_of_ble_eq_true rfl) (fun p e s m args below meth c ls C hr hlk hsz Z hl => ?_)
  have hl : lv_has ls 6 [(0, .ref (ad 0)), (1, .int x1), (2, .int x2), (3, .int x3), (4, .int x4)] := hl
  generalize AA ad 16 sz = A at Z ⊢
  have hx := C.x
  have hb := C.b
  delta P_X12_textGives at hB
  refine lv_iload_n hx hb dX12_textGives_0 rfl (lv_at hl 1 rfl) ?_
  refine lv_if_ne (tgt := 14) hx hb dX12_textGives_1 (by decide) (fun q1 => ?_) (fun q1 => ?_)
  · have hB := hB.1 q1
    refine lv_iload_n hx hb dX12_textGives_14 rfl (lv_at hl 2 rfl) ?_
    exact w_X12_textGives_15 C hr hlk Z (lv_sub hl [0, 1, 2, 3, 4] rfl) hB
  · have hB := hB.2 q1
    refine lv_iconst (v := 2) hx hb dX12_textGives_4 (by decide) ?_
    refine lv_iload_n hx hb dX12_textGives_5 rfl (lv_at hl 2 rfl) ?_
    refine lv_imul hx hb dX12_textGives_6 ?_
    refine lv_iload_n hx hb dX12_textGives_7 rfl (lv_at hl 3 rfl) ?_
    refine lv_iconst (v := 2) hx hb dX12_textGives_8 (by decide) ?_
    refine lv_idiv hx hb dX12_textGives_9 (by decide) ?_
    refine lv_iadd hx hb dX12_textGives_10 ?_
    refine lv_goto (tgt := 15) hx hb dX12_textGives_11 (by decide) ?_
    exact w_X12_textGives_15 C hr hlk Z (lv_sub hl [0, 1, 2, 3, 4] rfl) hB
set_option maxRecDepth 100000 in
set_option maxHeartbeats 4000000 in
theorem v_X12_textGives {M : Mem} {x1 : Int32} {x2 : Int32} {x3 : Int32} {x4 : Int32} {Q1 : Int32 → Mem → Prop} (C : Cx T D p s m args c cc nL own) (hls : ls.size = nL) (Z : Zz EM T D ad 16 A H0 M H locs) (hlink : Cond.methodLink own index yX12_textGives ∈ TB) (hR : 51 + 1 ≤ R.frames ∧ 8 + (6 + 11) + 48 * 51 ≤ R.locals) (hcs : cells ≤ R.cells ∧ slots ≤ R.slots) (hcat : (rest.map fun v => v.category).sum ≤ 8) (hdg : decode cc pc = .ok (.invokevirtual index, 3)) (hB : P_X12_textGives M x1 x2 x3 x4 Q1)
    (kk : ∀ (r : Int32) (M1 : Mem) (H1 : Heap) (locs1 : List Loc), Q1 r M1 → Zz EM T D ad 16 A H0 M1 H1 locs1 → W p l e R s m args below meth c H1 locs1 cells slots QQ (F0 m (pc + 3) ls (.int r :: rest))) : W p l e R s m args below meth c H locs cells slots QQ (F0 m pc ls (.int x4 :: .int x3 :: .int x2 :: .int x1 :: .ref (ad 0) :: rest)) :=
  k_VW (ci := 12) (n := 4) (c_X12_textGives hB) tw_6_17 tw_6_16 tw_s_32 tw_1_12 ⟨rfl, by decide, by decide, by decide +kernel⟩ rfl rfl C hls Z oM hlink hR hcs hcat rfl hdg kk
def P_X12_law (M : Mem) (x1 : Int32) (x2 : Int32) (x3 : Int32) (x4 : Int32) (Q1 : Int32 → Mem → Prop) : Prop :=
  P_X12_in (x1.toInt64) 0 1 (fun v1 => ((v1 = 0 → P_X12_finds M 1 (fun v3 M4 => Q1 v3 M4)) ∧
    (¬ v1 = 0 → P_X12_textGives M x1 x2 x3 x4 (fun v5 M6 => Q1 v5 M6))))
set_option maxRecDepth 100000 in
set_option maxHeartbeats 4000000 in
theorem c_X12_law {l : Launch} {T : Nat → ClassId} {D : va_G} {ad : Nat → Nat} {M : Mem} {x1 : Int32} {x2 : Int32} {x3 : Int32} {x4 : Int32} {sz : Nat} {Q1 : Int32 → Mem → Prop} (hB : P_X12_law M x1 x2 x3 x4 Q1) : Met l yX12_law (Cond.code yX12_law cX12_law 5 (some .int) :: TB) (RM 52) (va_Pc [.ref (ad 0), .int x1, .int x2, .int x3, .int x4] (WrP EM T D ad 16 M sz)) (QcW EM T D ad 16 (AA ad 16 sz) Q1) 0 0 (AA ad 16 sz) := by
  refine st_W (by decide) (Nat.le_of_ble_eq_true rfl) (fun p e s m args below meth c ls C hr hlk hsz Z hl => ?_)
  have hl : lv_has ls 5 [(0, .ref (ad 0)), (1, .int x1), (2, .int x2), (3, .int x3), (4, .int x4)] := hl
  generalize AA ad 16 sz = A at Z ⊢
  have hx := C.x
  have hb := C.b
  delta P_X12_law at hB
  refine lv_iload_n hx hb dX12_law_0 rfl (lv_at hl 1 rfl) ?_
  refine lv_i2l hx hb dX12_law_1 rfl ?_
  refine lv_lconst (v := 0) hx hb dX12_law_2 (by decide) ?_
  refine lv_lconst (v := 1) hx hb dX12_law_3 (by decide) ?_
  refine v_X12_in C.1 hl.1 tw_5_191 ⟨Nat.le_of_ble_eq_true rfl, Nat.le_of_ble_eq_true rfl⟩ ⟨Nat.le_refl _, Nat.le_refl _⟩ (Nat.le_of_ble_eq_true rfl) dX12_law_4 hB (fun v1 hB => ?_)
  refine lv_if_eq (tgt := 22) hx hb dX12_law_7 (by decide) (fun q2 => ?_) (fun q2 => ?_)
  · have hB := hB.1 q2
    refine lv_aload_n hx hb dX12_law_22 rfl (lv_at hl 0 rfl) ?_
    refine lv_iconst (v := 1) hx hb dX12_law_23 (by decide) ?_
    refine v_X12_finds C hl.1 Z tw_5_194 ⟨Nat.le_of_ble_eq_true rfl, Nat.le_of_ble_eq_true rfl⟩ ⟨Nat.le_refl _, Nat.le_refl _⟩ (Nat.le_of_ble_eq_true rfl) dX12_law_24 hB (fun v3 M4 H locs hB Z => ?_)
    exact e_iW C hr hlk Z dX12_law_27 hB
  · have hB := hB.2 q2
    refine lv_aload_n hx hb dX12_law_10 rfl (lv_at hl 0 rfl) ?_
    refine lv_iload_n hx hb dX12_law_11 rfl (lv_at hl 1 rfl) ?_
    refine lv_iload_n hx hb dX12_law_12 rfl (lv_at hl 2 rfl) ?_
    refine lv_iload_n hx hb dX12_law_13 rfl (lv_at hl 3 rfl) ?_
    refine lv_iload hx hb dX12_law_14 (lv_at hl 4 rfl) ?_
    refine v_X12_textGives C hl.1 Z tw_6_14 ⟨Nat.le_of_ble_eq_true rfl, Nat.le_of_ble_eq_true rfl⟩ ⟨Nat.le_refl _, Nat.le_refl _⟩ (Nat.le_of_ble_eq_true rfl) dX12_law_16 hB (fun v5 M6 H locs hB Z => ?_)
    refine lv_goto (tgt := 27) hx hb dX12_law_19 (by decide) ?_
    exact e_iW C hr hlk Z dX12_law_27 hB
set_option maxRecDepth 100000 in
set_option maxHeartbeats 4000000 in
theorem v_X12_law {M : Mem} {x1 : Int32} {x2 : Int32} {x3 : Int32} {x4 : Int32} {Q1 : Int32 → Mem → Prop} (C : Cx T D p s m args c cc nL own) (hls : ls.size = nL) (Z : Zz EM T D ad 16 A H0 M H locs) (hlink : Cond.methodLink own index yX12_law ∈ TB) (hR : 52 + 1 ≤ R.frames ∧ 8 + (5 + 11) + 48 * 52 ≤ R.locals) (hcs : cells ≤ R.cells ∧ slots ≤ R.slots) (hcat : (rest.map fun v => v.category).sum ≤ 8) (hdg : decode cc pc = .ok (.invokevirtual index, 3)) (hB : P_X12_law M x1 x2 x3 x4 Q1)
    (kk : ∀ (r : Int32) (M1 : Mem) (H1 : Heap) (locs1 : List Loc), Q1 r M1 → Zz EM T D ad 16 A H0 M1 H1 locs1 → W p l e R s m args below meth c H1 locs1 cells slots QQ (F0 m (pc + 3) ls (.int r :: rest))) : W p l e R s m args below meth c H locs cells slots QQ (F0 m pc ls (.int x4 :: .int x3 :: .int x2 :: .int x1 :: .ref (ad 0) :: rest)) :=
  k_VW (ci := 12) (n := 4) (c_X12_law hB) tw_6_13 tw_6_11 tw_6_12 tw_1_12 ⟨rfl, by decide, by decide, by decide +kernel⟩ rfl rfl C hls Z oM hlink hR hcs hcat rfl hdg kk
def P_X12_window (M : Mem) (x1 : Int32) (x2 : Int32) (Q1 : Int32 → Mem → Prop) : Prop :=
  P_X12_in (x1.toInt64) 0 8 (fun v1 => ((v1 = 0 → P_X12_finds M 1 (fun v3 M4 => Q1 v3 M4)) ∧
    (¬ v1 = 0 → P_X12_in (x2.toInt64) 0 9 (fun v5 => ((¬ v5 = 0 → ((¬ (M 1 0) = 8 → ∀ x3_8 : Int32, x3_8 = M 1 0 → ∀ M9 : Mem, M9 = sf M 1 0 ((M 1 0) + 1) → P_X12_puts M9 x3_8 0 x1 (fun M10 => P_X12_puts M10 x3_8 1 x2 (fun M11 => P_X12_puts M11 x3_8 2 0 (fun M12 => P_X12_puts M12 x3_8 3 0 (fun M13 => Q1 x3_8 M13))))) ∧
        ((M 1 0) = 8 → P_X12_finds M 4 (fun v14 M15 => Q1 v14 M15)))) ∧
      (v5 = 0 → P_X12_finds M 1 (fun v16 M17 => Q1 v16 M17)))))))
set_option maxRecDepth 100000 in
set_option maxHeartbeats 4000000 in
theorem c_X12_window {l : Launch} {T : Nat → ClassId} {D : va_G} {ad : Nat → Nat} {M : Mem} {x1 : Int32} {x2 : Int32} {sz : Nat} {Q1 : Int32 → Mem → Prop} (hB : P_X12_window M x1 x2 Q1) : Met l yX12_window (Cond.code yX12_window cX12_window 4 (some .int) :: TB) (RM 2) (va_Pc [.ref (ad 0), .int x1, .int x2] (WrP EM T D ad 16 M sz)) (QcW EM T D ad 16 (AA ad 16 sz) Q1) 0 0 (AA ad 16 sz) := by
  refine st_W (by decide) (Nat.le_of_ble_eq_true rfl) (fun p e s m args below meth c ls C hr hlk hsz Z hl => ?_)
  have hl : lv_has ls 4 [(0, .ref (ad 0)), (1, .int x1), (2, .int x2)] := hl
  generalize AA ad 16 sz = A at Z ⊢
  have hx := C.x
  have hb := C.b
  delta P_X12_window at hB
  refine lv_iload_n hx hb dX12_window_0 rfl (lv_at hl 1 rfl) ?_
  refine lv_i2l hx hb dX12_window_1 rfl ?_
  refine lv_lconst (v := 0) hx hb dX12_window_2 (by decide) ?_
  refine lv_ldc2 hx hb C.1.2.2.2.1 (C.1.2.2.2.2 _ tw_5_190) dX12_window_3 ?_
  refine v_X12_in C.1 hl.1 tw_5_191 ⟨Nat.le_of_ble_eq_true rfl, Nat.le_of_ble_eq_true rfl⟩ ⟨Nat.le_refl _, Nat.le_refl _⟩ (Nat.le_of_ble_eq_true rfl) dX12_window_6 hB (fun v1 hB => ?_)
  refine lv_if_eq (tgt := 24) hx hb dX12_window_9 (by decide) (fun q2 => ?_) (fun q2 => ?_)
  · have hB := hB.1 q2
    refine lv_aload_n hx hb dX12_window_24 rfl (lv_at hl 0 rfl) ?_
    refine lv_iconst (v := 1) hx hb dX12_window_25 (by decide) ?_
    refine v_X12_finds C hl.1 Z tw_5_194 ⟨Nat.le_of_ble_eq_true rfl, Nat.le_of_ble_eq_true rfl⟩ ⟨Nat.le_refl _, Nat.le_refl _⟩ (Nat.le_of_ble_eq_true rfl) dX12_window_26 hB (fun v3 M4 H locs hB Z => ?_)
    exact e_iW C hr hlk Z dX12_window_29 hB
  · have hB := hB.2 q2
    refine lv_iload_n hx hb dX12_window_12 rfl (lv_at hl 2 rfl) ?_
    refine lv_i2l hx hb dX12_window_13 rfl ?_
    refine lv_lconst (v := 0) hx hb dX12_window_14 (by decide) ?_
    refine lv_ldc2 hx hb C.1.2.2.2.1 (C.1.2.2.2.2 _ tw_6_25) dX12_window_15 ?_
    refine v_X12_in C.1 hl.1 tw_5_191 ⟨Nat.le_of_ble_eq_true rfl, Nat.le_of_ble_eq_true rfl⟩ ⟨Nat.le_refl _, Nat.le_refl _⟩ (Nat.le_of_ble_eq_true rfl) dX12_window_18 hB (fun v5 hB => ?_)
    refine lv_if_ne (tgt := 30) hx hb dX12_window_21 (by decide) (fun q6 => ?_) (fun q6 => ?_)
    · have hB := hB.1 q6
      refine lv_aload_n hx hb dX12_window_30 rfl (lv_at hl 0 rfl) ?_
      refine gf_X12_0 C Z.1 tw_5_98 dX12_window_31 ?_
      refine lv_iconst (v := 0) hx hb dX12_window_34 (by decide) ?_
      refine a_ldc C Z.1 aM_1 (vin rfl) (j := 0) rfl dX12_window_35 ?_
      refine lv_bipush (v := 8) hx hb dX12_window_36 (by decide) ?_
      refine lv_icmp_ne (tgt := 47) hx hb dX12_window_38 (by decide) (fun q7 => ?_) (fun q7 => ?_)
      · have hB := hB.1 q7
        refine lv_aload_n hx hb dX12_window_47 rfl (lv_at hl 0 rfl) ?_
        refine gf_X12_0 C Z.1 tw_5_98 dX12_window_48 ?_
        refine lv_iconst (v := 0) hx hb dX12_window_51 (by decide) ?_
        refine a_ldc C Z.1 aM_1 (vin rfl) (j := 0) rfl dX12_window_52 ?_
        refine lv_topi (fun x3_8 ex3_8 => ?_)
        have hB := hB x3_8 ex3_8
        refine lv_istore_n (lv' := [(3, .int x3_8), (0, .ref (ad 0)), (1, .int x1), (2, .int x2)]) hx hb dX12_window_53 rfl hl (by decide) rfl (fun ls hl => ?_)
        refine lv_aload_n hx hb dX12_window_54 rfl (lv_at hl 1 rfl) ?_
        refine gf_X12_0 C Z.1 tw_5_98 dX12_window_55 ?_
        refine lv_iconst (v := 0) hx hb dX12_window_58 (by decide) ?_
        refine lv_dup2_11 hx hb dX12_window_59 rfl rfl ?_
        refine a_ldc C Z.1 aM_1 (vin rfl) (j := 0) rfl dX12_window_60 ?_
        refine lv_iconst (v := 1) hx hb dX12_window_61 (by decide) ?_
        refine lv_iadd hx hb dX12_window_62 ?_
        refine a_stc C Z aM_1 (vin rfl) rfl dX12_window_63 (fun M9 H locs eM9 Z => ?_)
        have hB := hB M9 eM9
        refine lv_aload_n hx hb dX12_window_64 rfl (lv_at hl 1 rfl) ?_
        refine lv_iload_n hx hb dX12_window_65 rfl (lv_at hl 0 rfl) ?_
        refine lv_iconst (v := 0) hx hb dX12_window_66 (by decide) ?_
        refine lv_iload_n hx hb dX12_window_67 rfl (lv_at hl 2 rfl) ?_
        refine v_X12_puts C hl.1 Z tw_6_26 ⟨Nat.le_of_ble_eq_true rfl, Nat.le_of_ble_eq_true rfl⟩ ⟨Nat.le_refl _, Nat.le_refl _⟩ (Nat.le_of_ble_eq_true rfl) dX12_window_68 hB (fun M10 H locs hB Z => ?_)
        refine lv_aload_n hx hb dX12_window_71 rfl (lv_at hl 1 rfl) ?_
        refine lv_iload_n hx hb dX12_window_72 rfl (lv_at hl 0 rfl) ?_
        refine lv_iconst (v := 1) hx hb dX12_window_73 (by decide) ?_
        refine lv_iload_n hx hb dX12_window_74 rfl (lv_at hl 3 rfl) ?_
        refine v_X12_puts C hl.1 Z tw_6_26 ⟨Nat.le_of_ble_eq_true rfl, Nat.le_of_ble_eq_true rfl⟩ ⟨Nat.le_refl _, Nat.le_refl _⟩ (Nat.le_of_ble_eq_true rfl) dX12_window_75 hB (fun M11 H locs hB Z => ?_)
        refine lv_aload_n hx hb dX12_window_78 rfl (lv_at hl 1 rfl) ?_
        refine lv_iload_n hx hb dX12_window_79 rfl (lv_at hl 0 rfl) ?_
        refine lv_iconst (v := 2) hx hb dX12_window_80 (by decide) ?_
        refine lv_iconst (v := 0) hx hb dX12_window_81 (by decide) ?_
        refine v_X12_puts C hl.1 Z tw_6_26 ⟨Nat.le_of_ble_eq_true rfl, Nat.le_of_ble_eq_true rfl⟩ ⟨Nat.le_refl _, Nat.le_refl _⟩ (Nat.le_of_ble_eq_true rfl) dX12_window_82 hB (fun M12 H locs hB Z => ?_)
        refine lv_aload_n hx hb dX12_window_85 rfl (lv_at hl 1 rfl) ?_
        refine lv_iload_n hx hb dX12_window_86 rfl (lv_at hl 0 rfl) ?_
        refine lv_iconst (v := 3) hx hb dX12_window_87 (by decide) ?_
        refine lv_iconst (v := 0) hx hb dX12_window_88 (by decide) ?_
        refine v_X12_puts C hl.1 Z tw_6_26 ⟨Nat.le_of_ble_eq_true rfl, Nat.le_of_ble_eq_true rfl⟩ ⟨Nat.le_refl _, Nat.le_refl _⟩ (Nat.le_of_ble_eq_true rfl) dX12_window_89 hB (fun M13 H locs hB Z => ?_)
        refine lv_iload_n hx hb dX12_window_92 rfl (lv_at hl 0 rfl) ?_
        exact e_iW C hr hlk Z dX12_window_93 hB
      · have hB := hB.2 q7
        refine lv_aload_n hx hb dX12_window_41 rfl (lv_at hl 0 rfl) ?_
        refine lv_iconst (v := 4) hx hb dX12_window_42 (by decide) ?_
        refine v_X12_finds C hl.1 Z tw_5_194 ⟨Nat.le_of_ble_eq_true rfl, Nat.le_of_ble_eq_true rfl⟩ ⟨Nat.le_refl _, Nat.le_refl _⟩ (Nat.le_of_ble_eq_true rfl) dX12_window_43 hB (fun v14 M15 H locs hB Z => ?_)
        exact e_iW C hr hlk Z dX12_window_46 hB
    · have hB := hB.2 q6
      refine lv_aload_n hx hb dX12_window_24 rfl (lv_at hl 0 rfl) ?_
      refine lv_iconst (v := 1) hx hb dX12_window_25 (by decide) ?_
      refine v_X12_finds C hl.1 Z tw_5_194 ⟨Nat.le_of_ble_eq_true rfl, Nat.le_of_ble_eq_true rfl⟩ ⟨Nat.le_refl _, Nat.le_refl _⟩ (Nat.le_of_ble_eq_true rfl) dX12_window_26 hB (fun v16 M17 H locs hB Z => ?_)
      exact e_iW C hr hlk Z dX12_window_29 hB
set_option maxRecDepth 100000 in
set_option maxHeartbeats 4000000 in
theorem v_X12_window {M : Mem} {x1 : Int32} {x2 : Int32} {Q1 : Int32 → Mem → Prop} (C : Cx T D p s m args c cc nL own) (hls : ls.size = nL) (Z : Zz EM T D ad 16 A H0 M H locs) (hlink : Cond.methodLink own index yX12_window ∈ TB) (hR : 2 + 1 ≤ R.frames ∧ 8 + (4 + 11) + 48 * 2 ≤ R.locals) (hcs : cells ≤ R.cells ∧ slots ≤ R.slots) (hcat : (rest.map fun v => v.category).sum ≤ 8) (hdg : decode cc pc = .ok (.invokevirtual index, 3)) (hB : P_X12_window M x1 x2 Q1)
    (kk : ∀ (r : Int32) (M1 : Mem) (H1 : Heap) (locs1 : List Loc), Q1 r M1 → Zz EM T D ad 16 A H0 M1 H1 locs1 → W p l e R s m args below meth c H1 locs1 cells slots QQ (F0 m (pc + 3) ls (.int r :: rest))) : W p l e R s m args below meth c H locs cells slots QQ (F0 m pc ls (.int x2 :: .int x1 :: .ref (ad 0) :: rest)) :=
  k_VW (ci := 12) (n := 2) (c_X12_window hB) tw_6_24 tw_6_22 tw_6_23 tw_1_12 ⟨rfl, by decide, by decide, by decide +kernel⟩ rfl rfl C hls Z oM hlink hR hcs hcat rfl hdg kk
def B_X12_ones_4 (Q1 : Int32 → Prop) (x0 : Int32) (x1 : Int32) (x2 : Int32) : Prop :=
  ∀ X4 : Int32 → Int32 → Prop, (∀ (x1 : Int32) (x2 : Int32), (((8 ≤ x2 → Q1 x1) ∧
    (¬ 8 ≤ x2 → ∀ x1_2 : Int32, x1_2 = x1 + ((x0 >>> (x2 &&& 31)) &&& 1) → ∀ x2_3 : Int32, x2_3 = x2 + 1 → X4 x1_2 x2_3))) → X4 x1 x2) → X4 x1 x2
def P_X12_ones (x0 : Int32) (Q1 : Int32 → Prop) : Prop :=
  B_X12_ones_4 Q1 x0 0 0
set_option maxRecDepth 100000 in
set_option maxHeartbeats 4000000 in
theorem w_X12_ones_4 {Q1 : Int32 → Prop} {x0 : Int32} {x1 : Int32} {x2 : Int32} (C : CallFix p m c cX12_ones 3 s args TB "OneOfTwoModel") (hr : meth.sig.returnType = (some .int)) (hlk : meth.locks = false) {ls : Array Slot} (hl : lv_has ls 3 [(0, .int x0), (1, .int x1), (2, .int x2)]) (hB : B_X12_ones_4 Q1 x0 x1 x2) : W p l e (RM 1) s m args below meth c s.heap [] 0 0 (MQ below (QcR Q1) args s 0 0 (fun _ => False)) (F0 m 4 ls []) := by
  delta B_X12_ones_4 at hB
  obtain ⟨X4, hX4, hY4⟩ : ∃ X4 : Int32 → Int32 → Prop, (∀ (x1 : Int32) (x2 : Int32), X4 x1 x2 → ∀ (ls : Array Slot), lv_has ls 3 [(0, .int x0), (1, .int x1), (2, .int x2)] → W p l e (RM 1) s m args below meth c s.heap [] 0 0 (MQ below (QcR Q1) args s 0 0 (fun _ => False)) (F0 m 4 ls [])) ∧ (∀ (x1 : Int32) (x2 : Int32), (∀ (ls : Array Slot), lv_has ls 3 [(0, .int x0), (1, .int x1), (2, .int x2)] → W p l e (RM 1) s m args below meth c s.heap [] 0 0 (MQ below (QcR Q1) args s 0 0 (fun _ => False)) (F0 m 4 ls [])) → X4 x1 x2) := ⟨fun (x1 : Int32) (x2 : Int32) => ∀ (ls : Array Slot), lv_has ls 3 [(0, .int x0), (1, .int x1), (2, .int x2)] → W p l e (RM 1) s m args below meth c s.heap [] 0 0 (MQ below (QcR Q1) args s 0 0 (fun _ => False)) (F0 m 4 ls []), fun _ _ h => h, fun _ _ h => h⟩
  refine hX4 _ _ (hB X4 (fun x1 x2 hB => hY4 _ _ (fun ls hl => ?_))) _ hl
  have hx := C.1
  have hb := C.2.1
  refine lv_iload_n hx hb dX12_ones_4 rfl (lv_at hl 2 rfl) ?_
  refine lv_bipush (v := 8) hx hb dX12_ones_5 (by decide) ?_
  refine lv_icmp_ge (tgt := 24) hx hb dX12_ones_7 (by decide) (fun q1 => ?_) (fun q1 => ?_)
  · have hB := hB.1 q1
    refine lv_iload_n hx hb dX12_ones_24 rfl (lv_at hl 1 rfl) ?_
    exact e_iR C hr hlk dX12_ones_25 hB
  · have hB := hB.2 q1
    refine lv_iload_n hx hb dX12_ones_10 rfl (lv_at hl 1 rfl) ?_
    refine lv_iload_n hx hb dX12_ones_11 rfl (lv_at hl 0 rfl) ?_
    refine lv_iload_n hx hb dX12_ones_12 rfl (lv_at hl 2 rfl) ?_
    refine lv_ishr hx hb dX12_ones_13 ?_
    refine lv_iconst (v := 1) hx hb dX12_ones_14 (by decide) ?_
    refine lv_iand hx hb dX12_ones_15 ?_
    refine lv_iadd hx hb dX12_ones_16 ?_
    refine lv_topi (fun x1_2 ex1_2 => ?_)
    have hB := hB x1_2 ex1_2
    refine lv_istore_n (lv' := [(1, .int x1_2), (0, .int x0), (2, .int x2)]) hx hb dX12_ones_17 rfl hl (by decide) rfl (fun ls hl => ?_)
    obtain ⟨x2_3, ex2_3⟩ : ∃ y : Int32, y = x2 + 1 := ⟨_, rfl⟩
    have hB := hB x2_3 ex2_3
    refine lv_iinc (v := x2_3) (lv' := [(2, .int x2_3), (1, .int x1_2), (0, .int x0)]) hx hb dX12_ones_18 hl (k := 2) rfl (by rw [ex2_3]; rfl) (by decide) rfl (fun ls hl => ?_)
    refine lv_goto (tgt := 4) hx hb dX12_ones_21 (by decide) ?_
    exact hX4 _ _ hB _ (lv_sub hl [2, 1, 0] rfl)
set_option maxRecDepth 100000 in
set_option maxHeartbeats 4000000 in
theorem c_X12_ones {l : Launch} {x0 : Int32} {Q1 : Int32 → Prop} (hB : P_X12_ones x0 Q1) : Met l yX12_ones (Cond.code yX12_ones cX12_ones 3 (some .int) :: TB) (RM 1) (va_Pc [.int x0] StP) (QcR Q1) 0 0 (fun _ => False) := by
  refine st_S (by decide) (Nat.le_of_ble_eq_true rfl) (fun p e s m args below meth c ls C hr hlk hl => ?_)
  have hl : lv_has ls 3 [(0, .int x0)] := hl
  have hx := C.1
  have hb := C.2.1
  delta P_X12_ones at hB
  refine lv_iconst (v := 0) hx hb dX12_ones_0 (by decide) ?_
  refine lv_istore_n (lv' := [(1, .int 0), (0, .int x0)]) hx hb dX12_ones_1 rfl hl (by decide) rfl (fun ls hl => ?_)
  refine lv_iconst (v := 0) hx hb dX12_ones_2 (by decide) ?_
  refine lv_istore_n (lv' := [(2, .int 0), (1, .int 0), (0, .int x0)]) hx hb dX12_ones_3 rfl hl (by decide) rfl (fun ls hl => ?_)
  exact w_X12_ones_4 C hr hlk (lv_sub hl [2, 1, 0] rfl) hB
set_option maxRecDepth 100000 in
set_option maxHeartbeats 4000000 in
theorem v_X12_ones {x0 : Int32} {Q1 : Int32 → Prop} (C : CallFix p m c cc nL s args TB own) (hls : ls.size = nL) (hlink : Cond.methodLink own index yX12_ones ∈ TB) (hR : 1 + 1 ≤ R.frames ∧ 8 + (3 + 11) + 48 * 1 ≤ R.locals) (hcs : cells ≤ R.cells ∧ slots ≤ R.slots) (hcat : (rest.map fun v => v.category).sum ≤ 8) (hdg : decode cc pc = .ok (.invokestatic index, 3)) (hB : P_X12_ones x0 Q1)
    (kk : ∀ r : Int32, Q1 r → W p l e R s m args below meth c H locs cells slots QQ (F0 m (pc + 3) ls (.int r :: rest))) : W p l e R s m args below meth c H locs cells slots QQ (F0 m pc ls (.int x0 :: rest)) :=
  k_S (n := 1) (c_X12_ones hB) tw_6_36 tw_6_35 tw_1_12 ⟨by decide, by decide, by decide +kernel⟩ rfl C hls  hlink hR hcs hcat rfl hdg kk
def B_X12_cord_150 (Q1 : Int32 → Mem → Prop) (X113 : Int32 → Mem → Prop) (x1 : Int32) (x2 : Int32) (s1 : Int32) (s2 : Int32) (s3 : Int32) (M : Mem) : Prop :=
  P_X12_puts M s1 s2 s3 (fun M14 => ∀ x2_15 : Int32, x2_15 = x2 + 1 → X113 x2_15 M14)
def B_X12_cord_113 (Q1 : Int32 → Mem → Prop) (x1 : Int32) (x2 : Int32) (M : Mem) : Prop :=
  ∀ X113 : Int32 → Mem → Prop, (∀ (x2 : Int32) (M : Mem), ((((M 1 0) ≤ x2 → Q1 ((M 1 1) - 1) M) ∧
    (¬ (M 1 0) ≤ x2 → ((¬ ((x1 >>> (x2 &&& 31)) &&& 1) = 1 → P_X12_its M x2 2 (fun v13 => B_X12_cord_150 Q1 X113 x1 x2 x2 2 v13 M)) ∧
      (((x1 >>> (x2 &&& 31)) &&& 1) = 1 → B_X12_cord_150 Q1 X113 x1 x2 x2 2 (M 1 1) M))))) → X113 x2 M) → X113 x2 M
def B_X12_cord_61 (Q1 : Int32 → Mem → Prop) (x1 : Int32) (x2 : Int32) (M : Mem) : Prop :=
  ∀ X61 : Int32 → Mem → Prop, (∀ (x2 : Int32) (M : Mem), ((((M 1 0) ≤ x2 → ∀ M10 : Mem, M10 = sf M 1 1 ((M 1 1) + 1) → B_X12_cord_113 Q1 x1 0 M10) ∧
    (¬ (M 1 0) ≤ x2 → ((¬ ((x1 >>> (x2 &&& 31)) &&& 1) = 1 → ∀ x2_17 : Int32, x2_17 = x2 + 1 → X61 x2_17 M) ∧
      (((x1 >>> (x2 &&& 31)) &&& 1) = 1 → P_X12_its M x2 2 (fun v18 => ((v18 ≤ 0 → ∀ x2_20 : Int32, x2_20 = x2 + 1 → X61 x2_20 M) ∧
        (¬ v18 ≤ 0 → P_X12_finds M 3 (fun v21 M22 => Q1 v21 M22))))))))) → X61 x2 M) → X61 x2 M
def P_X12_cord (M : Mem) (x1 : Int32) (Q1 : Int32 → Mem → Prop) : Prop :=
  P_X12_in (x1.toInt64) 0 (((1 <<< ((M 1 0) &&& 31)) - 1).toInt64) (fun v1 => ((v1 = 0 → P_X12_finds M 1 (fun v3 M4 => Q1 v3 M4)) ∧
    (¬ v1 = 0 → P_X12_ones x1 (fun v5 => P_X12_in (v5.toInt64) 2 3 (fun v6 => ((¬ v6 = 0 → ((¬ (M 1 1) = 4 → B_X12_cord_61 Q1 x1 0 M) ∧
        ((M 1 1) = 4 → P_X12_finds M 4 (fun v23 M24 => Q1 v23 M24)))) ∧
      (v6 = 0 → P_X12_finds M 1 (fun v25 M26 => Q1 v25 M26))))))))
set_option maxRecDepth 100000 in
set_option maxHeartbeats 4000000 in
theorem w_X12_cord_150 {M : Mem} {Q1 : Int32 → Mem → Prop} {X113 : Int32 → Mem → Prop} {x1 : Int32} {x2 : Int32} {s1 : Int32} {s2 : Int32} {s3 : Int32} (C : Cx T D p s m args c cX12_cord 3 "OneOfTwoModel") (hr : meth.sig.returnType = (some .int)) (hlk : meth.locks = false) (Z : Zz EM T D ad 16 A s.heap M H locs) (hX113 : ∀ (x2 : Int32) (M : Mem), X113 x2 M → ∀ (H : Heap) (locs : List Loc) (ls : Array Slot), Zz EM T D ad 16 A s.heap M H locs → lv_has ls 3 [(0, .ref (ad 0)), (1, .int x1), (2, .int x2)] → W p l e (RM 2) s m args below meth c H locs 0 0 (MQ below (QcW EM T D ad 16 A Q1) args s 0 0 A) (F0 m 113 ls [])) {ls : Array Slot} (hl : lv_has ls 3 [(0, .ref (ad 0)), (1, .int x1), (2, .int x2)]) (hB : B_X12_cord_150 Q1 X113 x1 x2 s1 s2 s3 M) : W p l e (RM 2) s m args below meth c H locs 0 0 (MQ below (QcW EM T D ad 16 A Q1) args s 0 0 A) (F0 m 150 ls [.int s3, .int s2, .int s1, .ref (ad 0)]) := by
  have hx := C.x
  have hb := C.b
  delta B_X12_cord_150 at hB
  refine v_X12_puts C hl.1 Z tw_6_26 ⟨Nat.le_of_ble_eq_true rfl, Nat.le_of_ble_eq_true rfl⟩ ⟨Nat.le_refl _, Nat.le_refl _⟩ (Nat.le_of_ble_eq_true rfl) dX12_cord_150 hB (fun M14 H locs hB Z => ?_)
  obtain ⟨x2_15, ex2_15⟩ : ∃ y : Int32, y = x2 + 1 := ⟨_, rfl⟩
  have hB := hB x2_15 ex2_15
  refine lv_iinc (v := x2_15) (lv' := [(2, .int x2_15), (0, .ref (ad 0)), (1, .int x1)]) hx hb dX12_cord_153 hl (k := 2) rfl (by rw [ex2_15]; rfl) (by decide) rfl (fun ls hl => ?_)
  refine lv_goto (tgt := 113) hx hb dX12_cord_156 (by decide) ?_
  exact hX113 _ _ hB _ _ _ Z (lv_sub hl [1, 2, 0] rfl)
set_option maxRecDepth 100000 in
set_option maxHeartbeats 4000000 in
theorem w_X12_cord_113 {M : Mem} {Q1 : Int32 → Mem → Prop} {x1 : Int32} {x2 : Int32} (C : Cx T D p s m args c cX12_cord 3 "OneOfTwoModel") (hr : meth.sig.returnType = (some .int)) (hlk : meth.locks = false) (Z : Zz EM T D ad 16 A s.heap M H locs) {ls : Array Slot} (hl : lv_has ls 3 [(0, .ref (ad 0)), (1, .int x1), (2, .int x2)]) (hB : B_X12_cord_113 Q1 x1 x2 M) : W p l e (RM 2) s m args below meth c H locs 0 0 (MQ below (QcW EM T D ad 16 A Q1) args s 0 0 A) (F0 m 113 ls []) := by
  delta B_X12_cord_113 at hB
  obtain ⟨X113, hX113, hY113⟩ : ∃ X113 : Int32 → Mem → Prop, (∀ (x2 : Int32) (M : Mem), X113 x2 M → ∀ (H : Heap) (locs : List Loc) (ls : Array Slot), Zz EM T D ad 16 A s.heap M H locs → lv_has ls 3 [(0, .ref (ad 0)), (1, .int x1), (2, .int x2)] → W p l e (RM 2) s m args below meth c H locs 0 0 (MQ below (QcW EM T D ad 16 A Q1) args s 0 0 A) (F0 m 113 ls [])) ∧ (∀ (x2 : Int32) (M : Mem), (∀ (H : Heap) (locs : List Loc) (ls : Array Slot), Zz EM T D ad 16 A s.heap M H locs → lv_has ls 3 [(0, .ref (ad 0)), (1, .int x1), (2, .int x2)] → W p l e (RM 2) s m args below meth c H locs 0 0 (MQ below (QcW EM T D ad 16 A Q1) args s 0 0 A) (F0 m 113 ls [])) → X113 x2 M) := ⟨fun (x2 : Int32) (M : Mem) => ∀ (H : Heap) (locs : List Loc) (ls : Array Slot), Zz EM T D ad 16 A s.heap M H locs → lv_has ls 3 [(0, .ref (ad 0)), (1, .int x1), (2, .int x2)] → W p l e (RM 2) s m args below meth c H locs 0 0 (MQ below (QcW EM T D ad 16 A Q1) args s 0 0 A) (F0 m 113 ls []), fun _ _ h => h, fun _ _ h => h⟩
  refine hX113 _ _ (hB X113 (fun x2 M hB => hY113 _ _ (fun H locs ls Z hl => ?_))) _ _ _ Z hl
  have hx := C.x
  have hb := C.b
  refine lv_iload_n hx hb dX12_cord_113 rfl (lv_at hl 2 rfl) ?_
  refine lv_aload_n hx hb dX12_cord_114 rfl (lv_at hl 0 rfl) ?_
  refine gf_X12_0 C Z.1 tw_5_98 dX12_cord_115 ?_
  refine lv_iconst (v := 0) hx hb dX12_cord_118 (by decide) ?_
  refine a_ldc C Z.1 aM_1 (vin rfl) (j := 0) rfl dX12_cord_119 ?_
  refine lv_icmp_ge (tgt := 159) hx hb dX12_cord_120 (by decide) (fun q11 => ?_) (fun q11 => ?_)
  · have hB := hB.1 q11
    refine lv_aload_n hx hb dX12_cord_159 rfl (lv_at hl 0 rfl) ?_
    refine gf_X12_0 C Z.1 tw_5_98 dX12_cord_160 ?_
    refine lv_iconst (v := 1) hx hb dX12_cord_163 (by decide) ?_
    refine a_ldc C Z.1 aM_1 (vin rfl) (j := 1) rfl dX12_cord_164 ?_
    refine lv_iconst (v := 1) hx hb dX12_cord_165 (by decide) ?_
    refine lv_isub hx hb dX12_cord_166 ?_
    exact e_iW C hr hlk Z dX12_cord_167 hB
  · have hB := hB.2 q11
    refine lv_aload_n hx hb dX12_cord_123 rfl (lv_at hl 0 rfl) ?_
    refine lv_iload_n hx hb dX12_cord_124 rfl (lv_at hl 2 rfl) ?_
    refine lv_iconst (v := 2) hx hb dX12_cord_125 (by decide) ?_
    refine lv_iload_n hx hb dX12_cord_126 rfl (lv_at hl 1 rfl) ?_
    refine lv_iload_n hx hb dX12_cord_127 rfl (lv_at hl 2 rfl) ?_
    refine lv_ishr hx hb dX12_cord_128 ?_
    refine lv_iconst (v := 1) hx hb dX12_cord_129 (by decide) ?_
    refine lv_iand hx hb dX12_cord_130 ?_
    refine lv_iconst (v := 1) hx hb dX12_cord_131 (by decide) ?_
    refine lv_icmp_ne (tgt := 144) hx hb dX12_cord_132 (by decide) (fun q12 => ?_) (fun q12 => ?_)
    · have hB := hB.1 q12
      refine lv_aload_n hx hb dX12_cord_144 rfl (lv_at hl 0 rfl) ?_
      refine lv_iload_n hx hb dX12_cord_145 rfl (lv_at hl 2 rfl) ?_
      refine lv_iconst (v := 2) hx hb dX12_cord_146 (by decide) ?_
      refine v_X12_its C hl.1 Z.1 tw_6_39 ⟨Nat.le_of_ble_eq_true rfl, Nat.le_of_ble_eq_true rfl⟩ ⟨Nat.le_refl _, Nat.le_refl _⟩ (Nat.le_of_ble_eq_true rfl) dX12_cord_147 hB (fun v13 hB => ?_)
      exact w_X12_cord_150 C hr hlk Z hX113 (lv_sub hl [0, 1, 2] rfl) hB
    · have hB := hB.2 q12
      refine lv_aload_n hx hb dX12_cord_135 rfl (lv_at hl 0 rfl) ?_
      refine gf_X12_0 C Z.1 tw_5_98 dX12_cord_136 ?_
      refine lv_iconst (v := 1) hx hb dX12_cord_139 (by decide) ?_
      refine a_ldc C Z.1 aM_1 (vin rfl) (j := 1) rfl dX12_cord_140 ?_
      refine lv_goto (tgt := 150) hx hb dX12_cord_141 (by decide) ?_
      exact w_X12_cord_150 C hr hlk Z hX113 (lv_sub hl [0, 1, 2] rfl) hB
set_option maxRecDepth 100000 in
set_option maxHeartbeats 4000000 in
theorem w_X12_cord_61 {M : Mem} {Q1 : Int32 → Mem → Prop} {x1 : Int32} {x2 : Int32} (C : Cx T D p s m args c cX12_cord 3 "OneOfTwoModel") (hr : meth.sig.returnType = (some .int)) (hlk : meth.locks = false) (Z : Zz EM T D ad 16 A s.heap M H locs) {ls : Array Slot} (hl : lv_has ls 3 [(0, .ref (ad 0)), (1, .int x1), (2, .int x2)]) (hB : B_X12_cord_61 Q1 x1 x2 M) : W p l e (RM 2) s m args below meth c H locs 0 0 (MQ below (QcW EM T D ad 16 A Q1) args s 0 0 A) (F0 m 61 ls []) := by
  delta B_X12_cord_61 at hB
  obtain ⟨X61, hX61, hY61⟩ : ∃ X61 : Int32 → Mem → Prop, (∀ (x2 : Int32) (M : Mem), X61 x2 M → ∀ (H : Heap) (locs : List Loc) (ls : Array Slot), Zz EM T D ad 16 A s.heap M H locs → lv_has ls 3 [(0, .ref (ad 0)), (1, .int x1), (2, .int x2)] → W p l e (RM 2) s m args below meth c H locs 0 0 (MQ below (QcW EM T D ad 16 A Q1) args s 0 0 A) (F0 m 61 ls [])) ∧ (∀ (x2 : Int32) (M : Mem), (∀ (H : Heap) (locs : List Loc) (ls : Array Slot), Zz EM T D ad 16 A s.heap M H locs → lv_has ls 3 [(0, .ref (ad 0)), (1, .int x1), (2, .int x2)] → W p l e (RM 2) s m args below meth c H locs 0 0 (MQ below (QcW EM T D ad 16 A Q1) args s 0 0 A) (F0 m 61 ls [])) → X61 x2 M) := ⟨fun (x2 : Int32) (M : Mem) => ∀ (H : Heap) (locs : List Loc) (ls : Array Slot), Zz EM T D ad 16 A s.heap M H locs → lv_has ls 3 [(0, .ref (ad 0)), (1, .int x1), (2, .int x2)] → W p l e (RM 2) s m args below meth c H locs 0 0 (MQ below (QcW EM T D ad 16 A Q1) args s 0 0 A) (F0 m 61 ls []), fun _ _ h => h, fun _ _ h => h⟩
  refine hX61 _ _ (hB X61 (fun x2 M hB => hY61 _ _ (fun H locs ls Z hl => ?_))) _ _ _ Z hl
  have hx := C.x
  have hb := C.b
  refine lv_iload_n hx hb dX12_cord_61 rfl (lv_at hl 2 rfl) ?_
  refine lv_aload_n hx hb dX12_cord_62 rfl (lv_at hl 0 rfl) ?_
  refine gf_X12_0 C Z.1 tw_5_98 dX12_cord_63 ?_
  refine lv_iconst (v := 0) hx hb dX12_cord_66 (by decide) ?_
  refine a_ldc C Z.1 aM_1 (vin rfl) (j := 0) rfl dX12_cord_67 ?_
  refine lv_icmp_ge (tgt := 101) hx hb dX12_cord_68 (by decide) (fun q9 => ?_) (fun q9 => ?_)
  · have hB := hB.1 q9
    refine lv_aload_n hx hb dX12_cord_101 rfl (lv_at hl 0 rfl) ?_
    refine gf_X12_0 C Z.1 tw_5_98 dX12_cord_102 ?_
    refine lv_iconst (v := 1) hx hb dX12_cord_105 (by decide) ?_
    refine lv_dup2_11 hx hb dX12_cord_106 rfl rfl ?_
    refine a_ldc C Z.1 aM_1 (vin rfl) (j := 1) rfl dX12_cord_107 ?_
    refine lv_iconst (v := 1) hx hb dX12_cord_108 (by decide) ?_
    refine lv_iadd hx hb dX12_cord_109 ?_
    refine a_stc C Z aM_1 (vin rfl) rfl dX12_cord_110 (fun M10 H locs eM10 Z => ?_)
    have hB := hB M10 eM10
    refine lv_iconst (v := 0) hx hb dX12_cord_111 (by decide) ?_
    refine lv_istore_n (lv' := [(2, .int 0), (0, .ref (ad 0)), (1, .int x1)]) hx hb dX12_cord_112 rfl hl (by decide) rfl (fun ls hl => ?_)
    exact w_X12_cord_113 C hr hlk Z (lv_sub hl [1, 2, 0] rfl) hB
  · have hB := hB.2 q9
    refine lv_iload_n hx hb dX12_cord_71 rfl (lv_at hl 1 rfl) ?_
    refine lv_iload_n hx hb dX12_cord_72 rfl (lv_at hl 2 rfl) ?_
    refine lv_ishr hx hb dX12_cord_73 ?_
    refine lv_iconst (v := 1) hx hb dX12_cord_74 (by decide) ?_
    refine lv_iand hx hb dX12_cord_75 ?_
    refine lv_iconst (v := 1) hx hb dX12_cord_76 (by decide) ?_
    refine lv_icmp_ne (tgt := 95) hx hb dX12_cord_77 (by decide) (fun q16 => ?_) (fun q16 => ?_)
    · have hB := hB.1 q16
      obtain ⟨x2_17, ex2_17⟩ : ∃ y : Int32, y = x2 + 1 := ⟨_, rfl⟩
      have hB := hB x2_17 ex2_17
      refine lv_iinc (v := x2_17) (lv' := [(2, .int x2_17), (0, .ref (ad 0)), (1, .int x1)]) hx hb dX12_cord_95 hl (k := 2) rfl (by rw [ex2_17]; rfl) (by decide) rfl (fun ls hl => ?_)
      refine lv_goto (tgt := 61) hx hb dX12_cord_98 (by decide) ?_
      exact hX61 _ _ hB _ _ _ Z (lv_sub hl [1, 2, 0] rfl)
    · have hB := hB.2 q16
      refine lv_aload_n hx hb dX12_cord_80 rfl (lv_at hl 0 rfl) ?_
      refine lv_iload_n hx hb dX12_cord_81 rfl (lv_at hl 2 rfl) ?_
      refine lv_iconst (v := 2) hx hb dX12_cord_82 (by decide) ?_
      refine v_X12_its C hl.1 Z.1 tw_6_39 ⟨Nat.le_of_ble_eq_true rfl, Nat.le_of_ble_eq_true rfl⟩ ⟨Nat.le_refl _, Nat.le_refl _⟩ (Nat.le_of_ble_eq_true rfl) dX12_cord_83 hB (fun v18 hB => ?_)
      refine lv_if_le (tgt := 95) hx hb dX12_cord_86 (by decide) (fun q19 => ?_) (fun q19 => ?_)
      · have hB := hB.1 q19
        obtain ⟨x2_20, ex2_20⟩ : ∃ y : Int32, y = x2 + 1 := ⟨_, rfl⟩
        have hB := hB x2_20 ex2_20
        refine lv_iinc (v := x2_20) (lv' := [(2, .int x2_20), (0, .ref (ad 0)), (1, .int x1)]) hx hb dX12_cord_95 hl (k := 2) rfl (by rw [ex2_20]; rfl) (by decide) rfl (fun ls hl => ?_)
        refine lv_goto (tgt := 61) hx hb dX12_cord_98 (by decide) ?_
        exact hX61 _ _ hB _ _ _ Z (lv_sub hl [1, 2, 0] rfl)
      · have hB := hB.2 q19
        refine lv_aload_n hx hb dX12_cord_89 rfl (lv_at hl 0 rfl) ?_
        refine lv_iconst (v := 3) hx hb dX12_cord_90 (by decide) ?_
        refine v_X12_finds C hl.1 Z tw_5_194 ⟨Nat.le_of_ble_eq_true rfl, Nat.le_of_ble_eq_true rfl⟩ ⟨Nat.le_refl _, Nat.le_refl _⟩ (Nat.le_of_ble_eq_true rfl) dX12_cord_91 hB (fun v21 M22 H locs hB Z => ?_)
        exact e_iW C hr hlk Z dX12_cord_94 hB
set_option maxRecDepth 100000 in
set_option maxHeartbeats 4000000 in
theorem c_X12_cord {l : Launch} {T : Nat → ClassId} {D : va_G} {ad : Nat → Nat} {M : Mem} {x1 : Int32} {sz : Nat} {Q1 : Int32 → Mem → Prop} (hB : P_X12_cord M x1 Q1) : Met l yX12_cord (Cond.code yX12_cord cX12_cord 3 (some .int) :: TB) (RM 2) (va_Pc [.ref (ad 0), .int x1] (WrP EM T D ad 16 M sz)) (QcW EM T D ad 16 (AA ad 16 sz) Q1) 0 0 (AA ad 16 sz) := by
  refine st_W (by decide) (Nat.le_of_ble_eq_true rfl) (fun p e s m args below meth c ls C hr hlk hsz Z hl => ?_)
  have hl : lv_has ls 3 [(0, .ref (ad 0)), (1, .int x1)] := hl
  generalize AA ad 16 sz = A at Z ⊢
  have hx := C.x
  have hb := C.b
  delta P_X12_cord at hB
  refine lv_iload_n hx hb dX12_cord_0 rfl (lv_at hl 1 rfl) ?_
  refine lv_i2l hx hb dX12_cord_1 rfl ?_
  refine lv_lconst (v := 0) hx hb dX12_cord_2 (by decide) ?_
  refine lv_iconst (v := 1) hx hb dX12_cord_3 (by decide) ?_
  refine lv_aload_n hx hb dX12_cord_4 rfl (lv_at hl 0 rfl) ?_
  refine gf_X12_0 C Z.1 tw_5_98 dX12_cord_5 ?_
  refine lv_iconst (v := 0) hx hb dX12_cord_8 (by decide) ?_
  refine a_ldc C Z.1 aM_1 (vin rfl) (j := 0) rfl dX12_cord_9 ?_
  refine lv_ishl hx hb dX12_cord_10 ?_
  refine lv_iconst (v := 1) hx hb dX12_cord_11 (by decide) ?_
  refine lv_isub hx hb dX12_cord_12 ?_
  refine lv_i2l hx hb dX12_cord_13 rfl ?_
  refine v_X12_in C.1 hl.1 tw_5_191 ⟨Nat.le_of_ble_eq_true rfl, Nat.le_of_ble_eq_true rfl⟩ ⟨Nat.le_refl _, Nat.le_refl _⟩ (Nat.le_of_ble_eq_true rfl) dX12_cord_14 hB (fun v1 hB => ?_)
  refine lv_if_eq (tgt := 37) hx hb dX12_cord_17 (by decide) (fun q2 => ?_) (fun q2 => ?_)
  · have hB := hB.1 q2
    refine lv_aload_n hx hb dX12_cord_37 rfl (lv_at hl 0 rfl) ?_
    refine lv_iconst (v := 1) hx hb dX12_cord_38 (by decide) ?_
    refine v_X12_finds C hl.1 Z tw_5_194 ⟨Nat.le_of_ble_eq_true rfl, Nat.le_of_ble_eq_true rfl⟩ ⟨Nat.le_refl _, Nat.le_refl _⟩ (Nat.le_of_ble_eq_true rfl) dX12_cord_39 hB (fun v3 M4 H locs hB Z => ?_)
    exact e_iW C hr hlk Z dX12_cord_42 hB
  · have hB := hB.2 q2
    refine lv_iload_n hx hb dX12_cord_20 rfl (lv_at hl 1 rfl) ?_
    refine v_X12_ones C.1 hl.1 tw_6_34 ⟨Nat.le_of_ble_eq_true rfl, Nat.le_of_ble_eq_true rfl⟩ ⟨Nat.le_refl _, Nat.le_refl _⟩ (Nat.le_of_ble_eq_true rfl) dX12_cord_21 hB (fun v5 hB => ?_)
    refine lv_i2l hx hb dX12_cord_24 rfl ?_
    refine lv_ldc2 hx hb C.1.2.2.2.1 (C.1.2.2.2.2 _ tw_6_37) dX12_cord_25 ?_
    refine lv_ldc2 hx hb C.1.2.2.2.1 (C.1.2.2.2.2 _ tw_6_38) dX12_cord_28 ?_
    refine v_X12_in C.1 hl.1 tw_5_191 ⟨Nat.le_of_ble_eq_true rfl, Nat.le_of_ble_eq_true rfl⟩ ⟨Nat.le_refl _, Nat.le_refl _⟩ (Nat.le_of_ble_eq_true rfl) dX12_cord_31 hB (fun v6 hB => ?_)
    refine lv_if_ne (tgt := 43) hx hb dX12_cord_34 (by decide) (fun q7 => ?_) (fun q7 => ?_)
    · have hB := hB.1 q7
      refine lv_aload_n hx hb dX12_cord_43 rfl (lv_at hl 0 rfl) ?_
      refine gf_X12_0 C Z.1 tw_5_98 dX12_cord_44 ?_
      refine lv_iconst (v := 1) hx hb dX12_cord_47 (by decide) ?_
      refine a_ldc C Z.1 aM_1 (vin rfl) (j := 1) rfl dX12_cord_48 ?_
      refine lv_iconst (v := 4) hx hb dX12_cord_49 (by decide) ?_
      refine lv_icmp_ne (tgt := 59) hx hb dX12_cord_50 (by decide) (fun q8 => ?_) (fun q8 => ?_)
      · have hB := hB.1 q8
        refine lv_iconst (v := 0) hx hb dX12_cord_59 (by decide) ?_
        refine lv_istore_n (lv' := [(2, .int 0), (0, .ref (ad 0)), (1, .int x1)]) hx hb dX12_cord_60 rfl hl (by decide) rfl (fun ls hl => ?_)
        exact w_X12_cord_61 C hr hlk Z (lv_sub hl [1, 2, 0] rfl) hB
      · have hB := hB.2 q8
        refine lv_aload_n hx hb dX12_cord_53 rfl (lv_at hl 0 rfl) ?_
        refine lv_iconst (v := 4) hx hb dX12_cord_54 (by decide) ?_
        refine v_X12_finds C hl.1 Z tw_5_194 ⟨Nat.le_of_ble_eq_true rfl, Nat.le_of_ble_eq_true rfl⟩ ⟨Nat.le_refl _, Nat.le_refl _⟩ (Nat.le_of_ble_eq_true rfl) dX12_cord_55 hB (fun v23 M24 H locs hB Z => ?_)
        exact e_iW C hr hlk Z dX12_cord_58 hB
    · have hB := hB.2 q7
      refine lv_aload_n hx hb dX12_cord_37 rfl (lv_at hl 0 rfl) ?_
      refine lv_iconst (v := 1) hx hb dX12_cord_38 (by decide) ?_
      refine v_X12_finds C hl.1 Z tw_5_194 ⟨Nat.le_of_ble_eq_true rfl, Nat.le_of_ble_eq_true rfl⟩ ⟨Nat.le_refl _, Nat.le_refl _⟩ (Nat.le_of_ble_eq_true rfl) dX12_cord_39 hB (fun v25 M26 H locs hB Z => ?_)
      exact e_iW C hr hlk Z dX12_cord_42 hB
set_option maxRecDepth 100000 in
set_option maxHeartbeats 4000000 in
theorem v_X12_cord {M : Mem} {x1 : Int32} {Q1 : Int32 → Mem → Prop} (C : Cx T D p s m args c cc nL own) (hls : ls.size = nL) (Z : Zz EM T D ad 16 A H0 M H locs) (hlink : Cond.methodLink own index yX12_cord ∈ TB) (hR : 2 + 1 ≤ R.frames ∧ 8 + (3 + 11) + 48 * 2 ≤ R.locals) (hcs : cells ≤ R.cells ∧ slots ≤ R.slots) (hcat : (rest.map fun v => v.category).sum ≤ 8) (hdg : decode cc pc = .ok (.invokevirtual index, 3)) (hB : P_X12_cord M x1 Q1)
    (kk : ∀ (r : Int32) (M1 : Mem) (H1 : Heap) (locs1 : List Loc), Q1 r M1 → Zz EM T D ad 16 A H0 M1 H1 locs1 → W p l e R s m args below meth c H1 locs1 cells slots QQ (F0 m (pc + 3) ls (.int r :: rest))) : W p l e R s m args below meth c H locs cells slots QQ (F0 m pc ls (.int x1 :: .ref (ad 0) :: rest)) :=
  k_VW (ci := 12) (n := 1) (c_X12_cord hB) tw_6_33 tw_6_31 tw_6_32 tw_1_12 ⟨rfl, by decide, by decide, by decide +kernel⟩ rfl rfl C hls Z oM hlink hR hcs hcat rfl hdg kk
def B_X12_drop_55 (Q1 : Int32 → Mem → Prop) (X17 : Int32 → Mem → Prop) (x1 : Int32) (s1 : Int32) (s2 : Int32) (s3 : Int32) (M : Mem) : Prop :=
  P_X12_puts M s1 s2 s3 (fun M7 => ∀ x1_8 : Int32, x1_8 = x1 + 1 → X17 x1_8 M7)
def B_X12_drop_17 (Q1 : Int32 → Mem → Prop) (x1 : Int32) (M : Mem) : Prop :=
  ∀ X17 : Int32 → Mem → Prop, (∀ (x1 : Int32) (M : Mem), ((((M 1 0) ≤ x1 → ∀ M3 : Mem, M3 = sf M 1 1 ((M 1 1) - 1) → Q1 (M3 1 1) M3) ∧
    (¬ (M 1 0) ≤ x1 → P_X12_its M x1 2 (fun v4 => ((¬ v4 = (M 1 1) → P_X12_its M x1 2 (fun v6 => B_X12_drop_55 Q1 X17 x1 x1 2 v6 M)) ∧
      (v4 = (M 1 1) → B_X12_drop_55 Q1 X17 x1 x1 2 0 M)))))) → X17 x1 M) → X17 x1 M
def P_X12_drop (M : Mem) (Q1 : Int32 → Mem → Prop) : Prop :=
  ((¬ (M 1 1) = 0 → B_X12_drop_17 Q1 0 M) ∧
    ((M 1 1) = 0 → P_X12_finds M 2 (fun v9 M10 => Q1 v9 M10)))
set_option maxRecDepth 100000 in
set_option maxHeartbeats 4000000 in
theorem w_X12_drop_55 {M : Mem} {Q1 : Int32 → Mem → Prop} {X17 : Int32 → Mem → Prop} {x1 : Int32} {s1 : Int32} {s2 : Int32} {s3 : Int32} (C : Cx T D p s m args c cX12_drop 2 "OneOfTwoModel") (hr : meth.sig.returnType = (some .int)) (hlk : meth.locks = false) (Z : Zz EM T D ad 16 A s.heap M H locs) (hX17 : ∀ (x1 : Int32) (M : Mem), X17 x1 M → ∀ (H : Heap) (locs : List Loc) (ls : Array Slot), Zz EM T D ad 16 A s.heap M H locs → lv_has ls 2 [(0, .ref (ad 0)), (1, .int x1)] → W p l e (RM 2) s m args below meth c H locs 0 0 (MQ below (QcW EM T D ad 16 A Q1) args s 0 0 A) (F0 m 17 ls [])) {ls : Array Slot} (hl : lv_has ls 2 [(0, .ref (ad 0)), (1, .int x1)]) (hB : B_X12_drop_55 Q1 X17 x1 s1 s2 s3 M) : W p l e (RM 2) s m args below meth c H locs 0 0 (MQ below (QcW EM T D ad 16 A Q1) args s 0 0 A) (F0 m 55 ls [.int s3, .int s2, .int s1, .ref (ad 0)]) := by
  have hx := C.x
  have hb := C.b
  delta B_X12_drop_55 at hB
  refine v_X12_puts C hl.1 Z tw_6_26 ⟨Nat.le_of_ble_eq_true rfl, Nat.le_of_ble_eq_true rfl⟩ ⟨Nat.le_refl _, Nat.le_refl _⟩ (Nat.le_of_ble_eq_true rfl) dX12_drop_55 hB (fun M7 H locs hB Z => ?_)
  obtain ⟨x1_8, ex1_8⟩ : ∃ y : Int32, y = x1 + 1 := ⟨_, rfl⟩
  have hB := hB x1_8 ex1_8
  refine lv_iinc (v := x1_8) (lv' := [(1, .int x1_8), (0, .ref (ad 0))]) hx hb dX12_drop_58 hl (k := 1) rfl (by rw [ex1_8]; rfl) (by decide) rfl (fun ls hl => ?_)
  refine lv_goto (tgt := 17) hx hb dX12_drop_61 (by decide) ?_
  exact hX17 _ _ hB _ _ _ Z (lv_sub hl [1, 0] rfl)
set_option maxRecDepth 100000 in
set_option maxHeartbeats 4000000 in
theorem w_X12_drop_17 {M : Mem} {Q1 : Int32 → Mem → Prop} {x1 : Int32} (C : Cx T D p s m args c cX12_drop 2 "OneOfTwoModel") (hr : meth.sig.returnType = (some .int)) (hlk : meth.locks = false) (Z : Zz EM T D ad 16 A s.heap M H locs) {ls : Array Slot} (hl : lv_has ls 2 [(0, .ref (ad 0)), (1, .int x1)]) (hB : B_X12_drop_17 Q1 x1 M) : W p l e (RM 2) s m args below meth c H locs 0 0 (MQ below (QcW EM T D ad 16 A Q1) args s 0 0 A) (F0 m 17 ls []) := by
  delta B_X12_drop_17 at hB
  obtain ⟨X17, hX17, hY17⟩ : ∃ X17 : Int32 → Mem → Prop, (∀ (x1 : Int32) (M : Mem), X17 x1 M → ∀ (H : Heap) (locs : List Loc) (ls : Array Slot), Zz EM T D ad 16 A s.heap M H locs → lv_has ls 2 [(0, .ref (ad 0)), (1, .int x1)] → W p l e (RM 2) s m args below meth c H locs 0 0 (MQ below (QcW EM T D ad 16 A Q1) args s 0 0 A) (F0 m 17 ls [])) ∧ (∀ (x1 : Int32) (M : Mem), (∀ (H : Heap) (locs : List Loc) (ls : Array Slot), Zz EM T D ad 16 A s.heap M H locs → lv_has ls 2 [(0, .ref (ad 0)), (1, .int x1)] → W p l e (RM 2) s m args below meth c H locs 0 0 (MQ below (QcW EM T D ad 16 A Q1) args s 0 0 A) (F0 m 17 ls [])) → X17 x1 M) := ⟨fun (x1 : Int32) (M : Mem) => ∀ (H : Heap) (locs : List Loc) (ls : Array Slot), Zz EM T D ad 16 A s.heap M H locs → lv_has ls 2 [(0, .ref (ad 0)), (1, .int x1)] → W p l e (RM 2) s m args below meth c H locs 0 0 (MQ below (QcW EM T D ad 16 A Q1) args s 0 0 A) (F0 m 17 ls []), fun _ _ h => h, fun _ _ h => h⟩
  refine hX17 _ _ (hB X17 (fun x1 M hB => hY17 _ _ (fun H locs ls Z hl => ?_))) _ _ _ Z hl
  have hx := C.x
  have hb := C.b
  refine lv_iload_n hx hb dX12_drop_17 rfl (lv_at hl 1 rfl) ?_
  refine lv_aload_n hx hb dX12_drop_18 rfl (lv_at hl 0 rfl) ?_
  refine gf_X12_0 C Z.1 tw_5_98 dX12_drop_19 ?_
  refine lv_iconst (v := 0) hx hb dX12_drop_22 (by decide) ?_
  refine a_ldc C Z.1 aM_1 (vin rfl) (j := 0) rfl dX12_drop_23 ?_
  refine lv_icmp_ge (tgt := 64) hx hb dX12_drop_24 (by decide) (fun q2 => ?_) (fun q2 => ?_)
  · have hB := hB.1 q2
    refine lv_aload_n hx hb dX12_drop_64 rfl (lv_at hl 0 rfl) ?_
    refine gf_X12_0 C Z.1 tw_5_98 dX12_drop_65 ?_
    refine lv_iconst (v := 1) hx hb dX12_drop_68 (by decide) ?_
    refine lv_dup2_11 hx hb dX12_drop_69 rfl rfl ?_
    refine a_ldc C Z.1 aM_1 (vin rfl) (j := 1) rfl dX12_drop_70 ?_
    refine lv_iconst (v := 1) hx hb dX12_drop_71 (by decide) ?_
    refine lv_isub hx hb dX12_drop_72 ?_
    refine a_stc C Z aM_1 (vin rfl) rfl dX12_drop_73 (fun M3 H locs eM3 Z => ?_)
    have hB := hB M3 eM3
    refine lv_aload_n hx hb dX12_drop_74 rfl (lv_at hl 0 rfl) ?_
    refine gf_X12_0 C Z.1 tw_5_98 dX12_drop_75 ?_
    refine lv_iconst (v := 1) hx hb dX12_drop_78 (by decide) ?_
    refine a_ldc C Z.1 aM_1 (vin rfl) (j := 1) rfl dX12_drop_79 ?_
    exact e_iW C hr hlk Z dX12_drop_80 hB
  · have hB := hB.2 q2
    refine lv_aload_n hx hb dX12_drop_27 rfl (lv_at hl 0 rfl) ?_
    refine lv_iload_n hx hb dX12_drop_28 rfl (lv_at hl 1 rfl) ?_
    refine lv_iconst (v := 2) hx hb dX12_drop_29 (by decide) ?_
    refine lv_aload_n hx hb dX12_drop_30 rfl (lv_at hl 0 rfl) ?_
    refine lv_iload_n hx hb dX12_drop_31 rfl (lv_at hl 1 rfl) ?_
    refine lv_iconst (v := 2) hx hb dX12_drop_32 (by decide) ?_
    refine v_X12_its C hl.1 Z.1 tw_6_39 ⟨Nat.le_of_ble_eq_true rfl, Nat.le_of_ble_eq_true rfl⟩ ⟨Nat.le_refl _, Nat.le_refl _⟩ (Nat.le_of_ble_eq_true rfl) dX12_drop_33 hB (fun v4 hB => ?_)
    refine lv_aload_n hx hb dX12_drop_36 rfl (lv_at hl 0 rfl) ?_
    refine gf_X12_0 C Z.1 tw_5_98 dX12_drop_37 ?_
    refine lv_iconst (v := 1) hx hb dX12_drop_40 (by decide) ?_
    refine a_ldc C Z.1 aM_1 (vin rfl) (j := 1) rfl dX12_drop_41 ?_
    refine lv_icmp_ne (tgt := 49) hx hb dX12_drop_42 (by decide) (fun q5 => ?_) (fun q5 => ?_)
    · have hB := hB.1 q5
      refine lv_aload_n hx hb dX12_drop_49 rfl (lv_at hl 0 rfl) ?_
      refine lv_iload_n hx hb dX12_drop_50 rfl (lv_at hl 1 rfl) ?_
      refine lv_iconst (v := 2) hx hb dX12_drop_51 (by decide) ?_
      refine v_X12_its C hl.1 Z.1 tw_6_39 ⟨Nat.le_of_ble_eq_true rfl, Nat.le_of_ble_eq_true rfl⟩ ⟨Nat.le_refl _, Nat.le_refl _⟩ (Nat.le_of_ble_eq_true rfl) dX12_drop_52 hB (fun v6 hB => ?_)
      exact w_X12_drop_55 C hr hlk Z hX17 (lv_sub hl [0, 1] rfl) hB
    · have hB := hB.2 q5
      refine lv_iconst (v := 0) hx hb dX12_drop_45 (by decide) ?_
      refine lv_goto (tgt := 55) hx hb dX12_drop_46 (by decide) ?_
      exact w_X12_drop_55 C hr hlk Z hX17 (lv_sub hl [0, 1] rfl) hB
set_option maxRecDepth 100000 in
set_option maxHeartbeats 4000000 in
theorem c_X12_drop {l : Launch} {T : Nat → ClassId} {D : va_G} {ad : Nat → Nat} {M : Mem} {sz : Nat} {Q1 : Int32 → Mem → Prop} (hB : P_X12_drop M Q1) : Met l yX12_drop (Cond.code yX12_drop cX12_drop 2 (some .int) :: TB) (RM 2) (va_Pc [.ref (ad 0)] (WrP EM T D ad 16 M sz)) (QcW EM T D ad 16 (AA ad 16 sz) Q1) 0 0 (AA ad 16 sz) := by
  refine st_W (by decide) (Nat.le_of_ble_eq_true rfl) (fun p e s m args below meth c ls C hr hlk hsz Z hl => ?_)
  have hl : lv_has ls 2 [(0, .ref (ad 0))] := hl
  generalize AA ad 16 sz = A at Z ⊢
  have hx := C.x
  have hb := C.b
  delta P_X12_drop at hB
  refine lv_aload_n hx hb dX12_drop_0 rfl (lv_at hl 0 rfl) ?_
  refine gf_X12_0 C Z.1 tw_5_98 dX12_drop_1 ?_
  refine lv_iconst (v := 1) hx hb dX12_drop_4 (by decide) ?_
  refine a_ldc C Z.1 aM_1 (vin rfl) (j := 1) rfl dX12_drop_5 ?_
  refine lv_if_ne (tgt := 15) hx hb dX12_drop_6 (by decide) (fun q1 => ?_) (fun q1 => ?_)
  · have hB := hB.1 q1
    refine lv_iconst (v := 0) hx hb dX12_drop_15 (by decide) ?_
    refine lv_istore_n (lv' := [(1, .int 0), (0, .ref (ad 0))]) hx hb dX12_drop_16 rfl hl (by decide) rfl (fun ls hl => ?_)
    exact w_X12_drop_17 C hr hlk Z (lv_sub hl [1, 0] rfl) hB
  · have hB := hB.2 q1
    refine lv_aload_n hx hb dX12_drop_9 rfl (lv_at hl 0 rfl) ?_
    refine lv_iconst (v := 2) hx hb dX12_drop_10 (by decide) ?_
    refine v_X12_finds C hl.1 Z tw_5_194 ⟨Nat.le_of_ble_eq_true rfl, Nat.le_of_ble_eq_true rfl⟩ ⟨Nat.le_refl _, Nat.le_refl _⟩ (Nat.le_of_ble_eq_true rfl) dX12_drop_11 hB (fun v9 M10 H locs hB Z => ?_)
    exact e_iW C hr hlk Z dX12_drop_14 hB
set_option maxRecDepth 100000 in
set_option maxHeartbeats 4000000 in
theorem v_X12_drop {M : Mem} {Q1 : Int32 → Mem → Prop} (C : Cx T D p s m args c cc nL own) (hls : ls.size = nL) (Z : Zz EM T D ad 16 A H0 M H locs) (hlink : Cond.methodLink own index yX12_drop ∈ TB) (hR : 2 + 1 ≤ R.frames ∧ 8 + (2 + 11) + 48 * 2 ≤ R.locals) (hcs : cells ≤ R.cells ∧ slots ≤ R.slots) (hcat : (rest.map fun v => v.category).sum ≤ 8) (hdg : decode cc pc = .ok (.invokevirtual index, 3)) (hB : P_X12_drop M Q1)
    (kk : ∀ (r : Int32) (M1 : Mem) (H1 : Heap) (locs1 : List Loc), Q1 r M1 → Zz EM T D ad 16 A H0 M1 H1 locs1 → W p l e R s m args below meth c H1 locs1 cells slots QQ (F0 m (pc + 3) ls (.int r :: rest))) : W p l e R s m args below meth c H locs cells slots QQ (F0 m pc ls (.ref (ad 0) :: rest)) :=
  k_VW (ci := 12) (n := 0) (c_X12_drop hB) tw_6_46 tw_6_44 tw_6_45 tw_1_12 ⟨rfl, by decide, by decide, by decide +kernel⟩ rfl rfl C hls Z oM hlink hR hcs hcat rfl hdg kk
def P_X12_ofWindow (M : Mem) (x1 : Int32) (x2 : Int32) (Q1 : Int32 → Mem → Prop) : Prop :=
  P_X12_isWindow M x1 (fun v1 => ((v1 = 0 → P_X12_finds M 1 (fun v3 M4 => Q1 v3 M4)) ∧
    (¬ v1 = 0 → P_X12_in (x2.toInt64) 0 3 (fun v5 => ((¬ v5 = 0 → ((¬ x2 = 2 → P_X12_its M x1 x2 (fun v8 => Q1 v8 M)) ∧
        (x2 = 2 → P_X12_its M x1 2 (fun v9 => Q1 (v9 - 1) M)))) ∧
      (v5 = 0 → P_X12_finds M 1 (fun v10 M11 => Q1 v10 M11)))))))
set_option maxRecDepth 100000 in
set_option maxHeartbeats 4000000 in
theorem c_X12_ofWindow {l : Launch} {T : Nat → ClassId} {D : va_G} {ad : Nat → Nat} {M : Mem} {x1 : Int32} {x2 : Int32} {sz : Nat} {Q1 : Int32 → Mem → Prop} (hB : P_X12_ofWindow M x1 x2 Q1) : Met l yX12_ofWindow (Cond.code yX12_ofWindow cX12_ofWindow 3 (some .int) :: TB) (RM 3) (va_Pc [.ref (ad 0), .int x1, .int x2] (WrP EM T D ad 16 M sz)) (QcW EM T D ad 16 (AA ad 16 sz) Q1) 0 0 (AA ad 16 sz) := by
  refine st_W (by decide) (Nat.le_of_ble_eq_true rfl) (fun p e s m args below meth c ls C hr hlk hsz Z hl => ?_)
  have hl : lv_has ls 3 [(0, .ref (ad 0)), (1, .int x1), (2, .int x2)] := hl
  generalize AA ad 16 sz = A at Z ⊢
  have hx := C.x
  have hb := C.b
  delta P_X12_ofWindow at hB
  refine lv_aload_n hx hb dX12_ofWindow_0 rfl (lv_at hl 0 rfl) ?_
  refine lv_iload_n hx hb dX12_ofWindow_1 rfl (lv_at hl 1 rfl) ?_
  refine v_X12_isWindow C hl.1 Z.1 tw_6_51 ⟨Nat.le_of_ble_eq_true rfl, Nat.le_of_ble_eq_true rfl⟩ ⟨Nat.le_refl _, Nat.le_refl _⟩ (Nat.le_of_ble_eq_true rfl) dX12_ofWindow_2 hB (fun v1 hB => ?_)
  refine lv_if_eq (tgt := 20) hx hb dX12_ofWindow_5 (by decide) (fun q2 => ?_) (fun q2 => ?_)
  · have hB := hB.1 q2
    refine lv_aload_n hx hb dX12_ofWindow_20 rfl (lv_at hl 0 rfl) ?_
    refine lv_iconst (v := 1) hx hb dX12_ofWindow_21 (by decide) ?_
    refine v_X12_finds C hl.1 Z tw_5_194 ⟨Nat.le_of_ble_eq_true rfl, Nat.le_of_ble_eq_true rfl⟩ ⟨Nat.le_refl _, Nat.le_refl _⟩ (Nat.le_of_ble_eq_true rfl) dX12_ofWindow_22 hB (fun v3 M4 H locs hB Z => ?_)
    exact e_iW C hr hlk Z dX12_ofWindow_25 hB
  · have hB := hB.2 q2
    refine lv_iload_n hx hb dX12_ofWindow_8 rfl (lv_at hl 2 rfl) ?_
    refine lv_i2l hx hb dX12_ofWindow_9 rfl ?_
    refine lv_lconst (v := 0) hx hb dX12_ofWindow_10 (by decide) ?_
    refine lv_ldc2 hx hb C.1.2.2.2.1 (C.1.2.2.2.2 _ tw_6_38) dX12_ofWindow_11 ?_
    refine v_X12_in C.1 hl.1 tw_5_191 ⟨Nat.le_of_ble_eq_true rfl, Nat.le_of_ble_eq_true rfl⟩ ⟨Nat.le_refl _, Nat.le_refl _⟩ (Nat.le_of_ble_eq_true rfl) dX12_ofWindow_14 hB (fun v5 hB => ?_)
    refine lv_if_ne (tgt := 26) hx hb dX12_ofWindow_17 (by decide) (fun q6 => ?_) (fun q6 => ?_)
    · have hB := hB.1 q6
      refine lv_iload_n hx hb dX12_ofWindow_26 rfl (lv_at hl 2 rfl) ?_
      refine lv_iconst (v := 2) hx hb dX12_ofWindow_27 (by decide) ?_
      refine lv_icmp_ne (tgt := 42) hx hb dX12_ofWindow_28 (by decide) (fun q7 => ?_) (fun q7 => ?_)
      · have hB := hB.1 q7
        refine lv_aload_n hx hb dX12_ofWindow_42 rfl (lv_at hl 0 rfl) ?_
        refine lv_iload_n hx hb dX12_ofWindow_43 rfl (lv_at hl 1 rfl) ?_
        refine lv_iload_n hx hb dX12_ofWindow_44 rfl (lv_at hl 2 rfl) ?_
        refine v_X12_its C hl.1 Z.1 tw_6_39 ⟨Nat.le_of_ble_eq_true rfl, Nat.le_of_ble_eq_true rfl⟩ ⟨Nat.le_refl _, Nat.le_refl _⟩ (Nat.le_of_ble_eq_true rfl) dX12_ofWindow_45 hB (fun v8 hB => ?_)
        exact e_iW C hr hlk Z dX12_ofWindow_48 hB
      · have hB := hB.2 q7
        refine lv_aload_n hx hb dX12_ofWindow_31 rfl (lv_at hl 0 rfl) ?_
        refine lv_iload_n hx hb dX12_ofWindow_32 rfl (lv_at hl 1 rfl) ?_
        refine lv_iconst (v := 2) hx hb dX12_ofWindow_33 (by decide) ?_
        refine v_X12_its C hl.1 Z.1 tw_6_39 ⟨Nat.le_of_ble_eq_true rfl, Nat.le_of_ble_eq_true rfl⟩ ⟨Nat.le_refl _, Nat.le_refl _⟩ (Nat.le_of_ble_eq_true rfl) dX12_ofWindow_34 hB (fun v9 hB => ?_)
        refine lv_iconst (v := 1) hx hb dX12_ofWindow_37 (by decide) ?_
        refine lv_isub hx hb dX12_ofWindow_38 ?_
        refine lv_goto (tgt := 48) hx hb dX12_ofWindow_39 (by decide) ?_
        exact e_iW C hr hlk Z dX12_ofWindow_48 hB
    · have hB := hB.2 q6
      refine lv_aload_n hx hb dX12_ofWindow_20 rfl (lv_at hl 0 rfl) ?_
      refine lv_iconst (v := 1) hx hb dX12_ofWindow_21 (by decide) ?_
      refine v_X12_finds C hl.1 Z tw_5_194 ⟨Nat.le_of_ble_eq_true rfl, Nat.le_of_ble_eq_true rfl⟩ ⟨Nat.le_refl _, Nat.le_refl _⟩ (Nat.le_of_ble_eq_true rfl) dX12_ofWindow_22 hB (fun v10 M11 H locs hB Z => ?_)
      exact e_iW C hr hlk Z dX12_ofWindow_25 hB
set_option maxRecDepth 100000 in
set_option maxHeartbeats 4000000 in
theorem v_X12_ofWindow {M : Mem} {x1 : Int32} {x2 : Int32} {Q1 : Int32 → Mem → Prop} (C : Cx T D p s m args c cc nL own) (hls : ls.size = nL) (Z : Zz EM T D ad 16 A H0 M H locs) (hlink : Cond.methodLink own index yX12_ofWindow ∈ TB) (hR : 3 + 1 ≤ R.frames ∧ 8 + (3 + 11) + 48 * 3 ≤ R.locals) (hcs : cells ≤ R.cells ∧ slots ≤ R.slots) (hcat : (rest.map fun v => v.category).sum ≤ 8) (hdg : decode cc pc = .ok (.invokevirtual index, 3)) (hB : P_X12_ofWindow M x1 x2 Q1)
    (kk : ∀ (r : Int32) (M1 : Mem) (H1 : Heap) (locs1 : List Loc), Q1 r M1 → Zz EM T D ad 16 A H0 M1 H1 locs1 → W p l e R s m args below meth c H1 locs1 cells slots QQ (F0 m (pc + 3) ls (.int r :: rest))) : W p l e R s m args below meth c H locs cells slots QQ (F0 m pc ls (.int x2 :: .int x1 :: .ref (ad 0) :: rest)) :=
  k_VW (ci := 12) (n := 2) (c_X12_ofWindow hB) tw_6_50 tw_6_48 tw_6_49 tw_1_12 ⟨rfl, by decide, by decide, by decide +kernel⟩ rfl rfl C hls Z oM hlink hR hcs hcat rfl hdg kk
def B_X12_windowsOf_34 (M : Mem) (Q1 : Int32 → Prop) (X4 : Int32 → Int32 → Prop) (x1 : Int32) (x3 : Int32) (s0 : Int32) (s1 : Int32) : Prop :=
  ∀ x2_4 : Int32, x2_4 = s0 ||| s1 → ∀ x3_5 : Int32, x3_5 = x3 + 1 → X4 x2_4 x3_5
def B_X12_windowsOf_4 (M : Mem) (Q1 : Int32 → Prop) (x1 : Int32) (x2 : Int32) (x3 : Int32) : Prop :=
  ∀ X4 : Int32 → Int32 → Prop, (∀ (x2 : Int32) (x3 : Int32), ((((M 1 0) ≤ x3 → Q1 x2) ∧
    (¬ (M 1 0) ≤ x3 → P_X12_its M x3 2 (fun v2 => ((¬ v2 = (x1 + 1) → B_X12_windowsOf_34 M Q1 X4 x1 x3 x2 0) ∧
      (v2 = (x1 + 1) → B_X12_windowsOf_34 M Q1 X4 x1 x3 x2 (1 <<< (x3 &&& 31)))))))) → X4 x2 x3) → X4 x2 x3
def P_X12_windowsOf (M : Mem) (x1 : Int32) (Q1 : Int32 → Prop) : Prop :=
  B_X12_windowsOf_4 M Q1 x1 0 0
set_option maxRecDepth 100000 in
set_option maxHeartbeats 4000000 in
theorem w_X12_windowsOf_34 {M : Mem} {Q1 : Int32 → Prop} {X4 : Int32 → Int32 → Prop} {x1 : Int32} {x3 : Int32} {s0 : Int32} {s1 : Int32} (C : Cx T D p s m args c cX12_windowsOf 4 "OneOfTwoModel") (hr : meth.sig.returnType = (some .int)) (hlk : meth.locks = false) (hP : Pw EM T D ad 16 M s.heap) (hX4 : ∀ (x2 : Int32) (x3 : Int32), X4 x2 x3 → ∀ (ls : Array Slot), lv_has ls 4 [(0, .ref (ad 0)), (1, .int x1), (2, .int x2), (3, .int x3)] → W p l e (RM 2) s m args below meth c s.heap [] 0 0 (MQ below (QcR Q1) args s 0 0 (fun _ => False)) (F0 m 4 ls [])) {ls : Array Slot} (hl : lv_has ls 4 [(0, .ref (ad 0)), (1, .int x1), (3, .int x3)]) (hB : B_X12_windowsOf_34 M Q1 X4 x1 x3 s0 s1) : W p l e (RM 2) s m args below meth c s.heap [] 0 0 (MQ below (QcR Q1) args s 0 0 (fun _ => False)) (F0 m 34 ls [.int s1, .int s0]) := by
  have hx := C.x
  have hb := C.b
  delta B_X12_windowsOf_34 at hB
  refine lv_ior hx hb dX12_windowsOf_34 ?_
  refine lv_topi (fun x2_4 ex2_4 => ?_)
  have hB := hB x2_4 ex2_4
  refine lv_istore_n (lv' := [(2, .int x2_4), (0, .ref (ad 0)), (1, .int x1), (3, .int x3)]) hx hb dX12_windowsOf_35 rfl hl (by decide) rfl (fun ls hl => ?_)
  obtain ⟨x3_5, ex3_5⟩ : ∃ y : Int32, y = x3 + 1 := ⟨_, rfl⟩
  have hB := hB x3_5 ex3_5
  refine lv_iinc (v := x3_5) (lv' := [(3, .int x3_5), (2, .int x2_4), (0, .ref (ad 0)), (1, .int x1)]) hx hb dX12_windowsOf_36 hl (k := 3) rfl (by rw [ex3_5]; rfl) (by decide) rfl (fun ls hl => ?_)
  refine lv_goto (tgt := 4) hx hb dX12_windowsOf_39 (by decide) ?_
  exact hX4 _ _ hB _ (lv_sub hl [2, 3, 1, 0] rfl)
set_option maxRecDepth 100000 in
set_option maxHeartbeats 4000000 in
theorem w_X12_windowsOf_4 {M : Mem} {Q1 : Int32 → Prop} {x1 : Int32} {x2 : Int32} {x3 : Int32} (C : Cx T D p s m args c cX12_windowsOf 4 "OneOfTwoModel") (hr : meth.sig.returnType = (some .int)) (hlk : meth.locks = false) (hP : Pw EM T D ad 16 M s.heap) {ls : Array Slot} (hl : lv_has ls 4 [(0, .ref (ad 0)), (1, .int x1), (2, .int x2), (3, .int x3)]) (hB : B_X12_windowsOf_4 M Q1 x1 x2 x3) : W p l e (RM 2) s m args below meth c s.heap [] 0 0 (MQ below (QcR Q1) args s 0 0 (fun _ => False)) (F0 m 4 ls []) := by
  delta B_X12_windowsOf_4 at hB
  obtain ⟨X4, hX4, hY4⟩ : ∃ X4 : Int32 → Int32 → Prop, (∀ (x2 : Int32) (x3 : Int32), X4 x2 x3 → ∀ (ls : Array Slot), lv_has ls 4 [(0, .ref (ad 0)), (1, .int x1), (2, .int x2), (3, .int x3)] → W p l e (RM 2) s m args below meth c s.heap [] 0 0 (MQ below (QcR Q1) args s 0 0 (fun _ => False)) (F0 m 4 ls [])) ∧ (∀ (x2 : Int32) (x3 : Int32), (∀ (ls : Array Slot), lv_has ls 4 [(0, .ref (ad 0)), (1, .int x1), (2, .int x2), (3, .int x3)] → W p l e (RM 2) s m args below meth c s.heap [] 0 0 (MQ below (QcR Q1) args s 0 0 (fun _ => False)) (F0 m 4 ls [])) → X4 x2 x3) := ⟨fun (x2 : Int32) (x3 : Int32) => ∀ (ls : Array Slot), lv_has ls 4 [(0, .ref (ad 0)), (1, .int x1), (2, .int x2), (3, .int x3)] → W p l e (RM 2) s m args below meth c s.heap [] 0 0 (MQ below (QcR Q1) args s 0 0 (fun _ => False)) (F0 m 4 ls []), fun _ _ h => h, fun _ _ h => h⟩
  refine hX4 _ _ (hB X4 (fun x2 x3 hB => hY4 _ _ (fun ls hl => ?_))) _ hl
  have hx := C.x
  have hb := C.b
  refine lv_iload_n hx hb dX12_windowsOf_4 rfl (lv_at hl 3 rfl) ?_
  refine lv_aload_n hx hb dX12_windowsOf_5 rfl (lv_at hl 0 rfl) ?_
  refine gf_X12_0 C hP tw_5_98 dX12_windowsOf_6 ?_
  refine lv_iconst (v := 0) hx hb dX12_windowsOf_9 (by decide) ?_
  refine a_ldc C hP aM_1 (vin rfl) (j := 0) rfl dX12_windowsOf_10 ?_
  refine lv_icmp_ge (tgt := 42) hx hb dX12_windowsOf_11 (by decide) (fun q1 => ?_) (fun q1 => ?_)
  · have hB := hB.1 q1
    refine lv_iload_n hx hb dX12_windowsOf_42 rfl (lv_at hl 2 rfl) ?_
    exact e_iR C.1 hr hlk dX12_windowsOf_43 hB
  · have hB := hB.2 q1
    refine lv_iload_n hx hb dX12_windowsOf_14 rfl (lv_at hl 2 rfl) ?_
    refine lv_aload_n hx hb dX12_windowsOf_15 rfl (lv_at hl 0 rfl) ?_
    refine lv_iload_n hx hb dX12_windowsOf_16 rfl (lv_at hl 3 rfl) ?_
    refine lv_iconst (v := 2) hx hb dX12_windowsOf_17 (by decide) ?_
    refine v_X12_its C hl.1 hP tw_6_39 ⟨Nat.le_of_ble_eq_true rfl, Nat.le_of_ble_eq_true rfl⟩ ⟨Nat.le_refl _, Nat.le_refl _⟩ (Nat.le_of_ble_eq_true rfl) dX12_windowsOf_18 hB (fun v2 hB => ?_)
    refine lv_iload_n hx hb dX12_windowsOf_21 rfl (lv_at hl 1 rfl) ?_
    refine lv_iconst (v := 1) hx hb dX12_windowsOf_22 (by decide) ?_
    refine lv_iadd hx hb dX12_windowsOf_23 ?_
    refine lv_icmp_ne (tgt := 33) hx hb dX12_windowsOf_24 (by decide) (fun q3 => ?_) (fun q3 => ?_)
    · have hB := hB.1 q3
      refine lv_iconst (v := 0) hx hb dX12_windowsOf_33 (by decide) ?_
      exact w_X12_windowsOf_34 C hr hlk hP hX4 (lv_sub hl [0, 1, 3] rfl) hB
    · have hB := hB.2 q3
      refine lv_iconst (v := 1) hx hb dX12_windowsOf_27 (by decide) ?_
      refine lv_iload_n hx hb dX12_windowsOf_28 rfl (lv_at hl 3 rfl) ?_
      refine lv_ishl hx hb dX12_windowsOf_29 ?_
      refine lv_goto (tgt := 34) hx hb dX12_windowsOf_30 (by decide) ?_
      exact w_X12_windowsOf_34 C hr hlk hP hX4 (lv_sub hl [0, 1, 3] rfl) hB
set_option maxRecDepth 100000 in
set_option maxHeartbeats 4000000 in
theorem c_X12_windowsOf {l : Launch} {T : Nat → ClassId} {D : va_G} {ad : Nat → Nat} {M : Mem} {x1 : Int32} {Q1 : Int32 → Prop} (hB : P_X12_windowsOf M x1 Q1) : Met l yX12_windowsOf (Cond.code yX12_windowsOf cX12_windowsOf 4 (some .int) :: TB) (RM 2) (va_Pc [.ref (ad 0), .int x1] (RdP EM T D ad 16 M)) (QcR Q1) 0 0 (fun _ => False) := by
  refine st_R (by decide) (Nat.le_of_ble_eq_true rfl) (fun p e s m args below meth c ls C hr hlk hP hl => ?_)
  have hl : lv_has ls 4 [(0, .ref (ad 0)), (1, .int x1)] := hl
  have hx := C.x
  have hb := C.b
  delta P_X12_windowsOf at hB
  refine lv_iconst (v := 0) hx hb dX12_windowsOf_0 (by decide) ?_
  refine lv_istore_n (lv' := [(2, .int 0), (0, .ref (ad 0)), (1, .int x1)]) hx hb dX12_windowsOf_1 rfl hl (by decide) rfl (fun ls hl => ?_)
  refine lv_iconst (v := 0) hx hb dX12_windowsOf_2 (by decide) ?_
  refine lv_istore_n (lv' := [(3, .int 0), (2, .int 0), (0, .ref (ad 0)), (1, .int x1)]) hx hb dX12_windowsOf_3 rfl hl (by decide) rfl (fun ls hl => ?_)
  exact w_X12_windowsOf_4 C hr hlk hP (lv_sub hl [2, 3, 1, 0] rfl) hB
set_option maxRecDepth 100000 in
set_option maxHeartbeats 4000000 in
theorem v_X12_windowsOf {M : Mem} {x1 : Int32} {Q1 : Int32 → Prop} (C : Cx T D p s m args c cc nL own) (hls : ls.size = nL) (hP : Pw EM T D ad 16 M H) (hlink : Cond.methodLink own index yX12_windowsOf ∈ TB) (hR : 2 + 1 ≤ R.frames ∧ 8 + (4 + 11) + 48 * 2 ≤ R.locals) (hcs : cells ≤ R.cells ∧ slots ≤ R.slots) (hcat : (rest.map fun v => v.category).sum ≤ 8) (hdg : decode cc pc = .ok (.invokevirtual index, 3)) (hB : P_X12_windowsOf M x1 Q1)
    (kk : ∀ r : Int32, Q1 r → W p l e R s m args below meth c H locs cells slots QQ (F0 m (pc + 3) ls (.int r :: rest))) : W p l e R s m args below meth c H locs cells slots QQ (F0 m pc ls (.int x1 :: .ref (ad 0) :: rest)) :=
  k_V (ci := 12) (n := 1) (c_X12_windowsOf hB) tw_6_62 tw_6_61 tw_s_36 tw_1_12 ⟨rfl, by decide, by decide, by decide +kernel⟩ rfl rfl C hls hP oM hlink hR hcs hcat rfl hdg kk
def B_X12_lengthOf_37 (M : Mem) (Q1 : Int32 → Prop) (X4 : Int32 → Int32 → Prop) (x1 : Int32) (x3 : Int32) (s0 : Int32) (s1 : Int32) : Prop :=
  ∀ x2_4 : Int32, x2_4 = s0 + s1 → ∀ x3_5 : Int32, x3_5 = x3 + 1 → X4 x2_4 x3_5
def B_X12_lengthOf_4 (M : Mem) (Q1 : Int32 → Prop) (x1 : Int32) (x2 : Int32) (x3 : Int32) : Prop :=
  ∀ X4 : Int32 → Int32 → Prop, (∀ (x2 : Int32) (x3 : Int32), ((((M 1 0) ≤ x3 → Q1 x2) ∧
    (¬ (M 1 0) ≤ x3 → P_X12_its M x3 2 (fun v2 => ((¬ v2 = (x1 + 1) → B_X12_lengthOf_37 M Q1 X4 x1 x3 x2 0) ∧
      (v2 = (x1 + 1) → P_X12_its M x3 1 (fun v6 => B_X12_lengthOf_37 M Q1 X4 x1 x3 x2 v6))))))) → X4 x2 x3) → X4 x2 x3
def P_X12_lengthOf (M : Mem) (x1 : Int32) (Q1 : Int32 → Prop) : Prop :=
  B_X12_lengthOf_4 M Q1 x1 0 0
set_option maxRecDepth 100000 in
set_option maxHeartbeats 4000000 in
theorem w_X12_lengthOf_37 {M : Mem} {Q1 : Int32 → Prop} {X4 : Int32 → Int32 → Prop} {x1 : Int32} {x3 : Int32} {s0 : Int32} {s1 : Int32} (C : Cx T D p s m args c cX12_lengthOf 4 "OneOfTwoModel") (hr : meth.sig.returnType = (some .int)) (hlk : meth.locks = false) (hP : Pw EM T D ad 16 M s.heap) (hX4 : ∀ (x2 : Int32) (x3 : Int32), X4 x2 x3 → ∀ (ls : Array Slot), lv_has ls 4 [(0, .ref (ad 0)), (1, .int x1), (2, .int x2), (3, .int x3)] → W p l e (RM 2) s m args below meth c s.heap [] 0 0 (MQ below (QcR Q1) args s 0 0 (fun _ => False)) (F0 m 4 ls [])) {ls : Array Slot} (hl : lv_has ls 4 [(0, .ref (ad 0)), (1, .int x1), (3, .int x3)]) (hB : B_X12_lengthOf_37 M Q1 X4 x1 x3 s0 s1) : W p l e (RM 2) s m args below meth c s.heap [] 0 0 (MQ below (QcR Q1) args s 0 0 (fun _ => False)) (F0 m 37 ls [.int s1, .int s0]) := by
  have hx := C.x
  have hb := C.b
  delta B_X12_lengthOf_37 at hB
  refine lv_iadd hx hb dX12_lengthOf_37 ?_
  refine lv_topi (fun x2_4 ex2_4 => ?_)
  have hB := hB x2_4 ex2_4
  refine lv_istore_n (lv' := [(2, .int x2_4), (0, .ref (ad 0)), (1, .int x1), (3, .int x3)]) hx hb dX12_lengthOf_38 rfl hl (by decide) rfl (fun ls hl => ?_)
  obtain ⟨x3_5, ex3_5⟩ : ∃ y : Int32, y = x3 + 1 := ⟨_, rfl⟩
  have hB := hB x3_5 ex3_5
  refine lv_iinc (v := x3_5) (lv' := [(3, .int x3_5), (2, .int x2_4), (0, .ref (ad 0)), (1, .int x1)]) hx hb dX12_lengthOf_39 hl (k := 3) rfl (by rw [ex3_5]; rfl) (by decide) rfl (fun ls hl => ?_)
  refine lv_goto (tgt := 4) hx hb dX12_lengthOf_42 (by decide) ?_
  exact hX4 _ _ hB _ (lv_sub hl [2, 3, 1, 0] rfl)
set_option maxRecDepth 100000 in
set_option maxHeartbeats 4000000 in
theorem w_X12_lengthOf_4 {M : Mem} {Q1 : Int32 → Prop} {x1 : Int32} {x2 : Int32} {x3 : Int32} (C : Cx T D p s m args c cX12_lengthOf 4 "OneOfTwoModel") (hr : meth.sig.returnType = (some .int)) (hlk : meth.locks = false) (hP : Pw EM T D ad 16 M s.heap) {ls : Array Slot} (hl : lv_has ls 4 [(0, .ref (ad 0)), (1, .int x1), (2, .int x2), (3, .int x3)]) (hB : B_X12_lengthOf_4 M Q1 x1 x2 x3) : W p l e (RM 2) s m args below meth c s.heap [] 0 0 (MQ below (QcR Q1) args s 0 0 (fun _ => False)) (F0 m 4 ls []) := by
  delta B_X12_lengthOf_4 at hB
  obtain ⟨X4, hX4, hY4⟩ : ∃ X4 : Int32 → Int32 → Prop, (∀ (x2 : Int32) (x3 : Int32), X4 x2 x3 → ∀ (ls : Array Slot), lv_has ls 4 [(0, .ref (ad 0)), (1, .int x1), (2, .int x2), (3, .int x3)] → W p l e (RM 2) s m args below meth c s.heap [] 0 0 (MQ below (QcR Q1) args s 0 0 (fun _ => False)) (F0 m 4 ls [])) ∧ (∀ (x2 : Int32) (x3 : Int32), (∀ (ls : Array Slot), lv_has ls 4 [(0, .ref (ad 0)), (1, .int x1), (2, .int x2), (3, .int x3)] → W p l e (RM 2) s m args below meth c s.heap [] 0 0 (MQ below (QcR Q1) args s 0 0 (fun _ => False)) (F0 m 4 ls [])) → X4 x2 x3) := ⟨fun (x2 : Int32) (x3 : Int32) => ∀ (ls : Array Slot), lv_has ls 4 [(0, .ref (ad 0)), (1, .int x1), (2, .int x2), (3, .int x3)] → W p l e (RM 2) s m args below meth c s.heap [] 0 0 (MQ below (QcR Q1) args s 0 0 (fun _ => False)) (F0 m 4 ls []), fun _ _ h => h, fun _ _ h => h⟩
  refine hX4 _ _ (hB X4 (fun x2 x3 hB => hY4 _ _ (fun ls hl => ?_))) _ hl
  have hx := C.x
  have hb := C.b
  refine lv_iload_n hx hb dX12_lengthOf_4 rfl (lv_at hl 3 rfl) ?_
  refine lv_aload_n hx hb dX12_lengthOf_5 rfl (lv_at hl 0 rfl) ?_
  refine gf_X12_0 C hP tw_5_98 dX12_lengthOf_6 ?_
  refine lv_iconst (v := 0) hx hb dX12_lengthOf_9 (by decide) ?_
  refine a_ldc C hP aM_1 (vin rfl) (j := 0) rfl dX12_lengthOf_10 ?_
  refine lv_icmp_ge (tgt := 45) hx hb dX12_lengthOf_11 (by decide) (fun q1 => ?_) (fun q1 => ?_)
  · have hB := hB.1 q1
    refine lv_iload_n hx hb dX12_lengthOf_45 rfl (lv_at hl 2 rfl) ?_
    exact e_iR C.1 hr hlk dX12_lengthOf_46 hB
  · have hB := hB.2 q1
    refine lv_iload_n hx hb dX12_lengthOf_14 rfl (lv_at hl 2 rfl) ?_
    refine lv_aload_n hx hb dX12_lengthOf_15 rfl (lv_at hl 0 rfl) ?_
    refine lv_iload_n hx hb dX12_lengthOf_16 rfl (lv_at hl 3 rfl) ?_
    refine lv_iconst (v := 2) hx hb dX12_lengthOf_17 (by decide) ?_
    refine v_X12_its C hl.1 hP tw_6_39 ⟨Nat.le_of_ble_eq_true rfl, Nat.le_of_ble_eq_true rfl⟩ ⟨Nat.le_refl _, Nat.le_refl _⟩ (Nat.le_of_ble_eq_true rfl) dX12_lengthOf_18 hB (fun v2 hB => ?_)
    refine lv_iload_n hx hb dX12_lengthOf_21 rfl (lv_at hl 1 rfl) ?_
    refine lv_iconst (v := 1) hx hb dX12_lengthOf_22 (by decide) ?_
    refine lv_iadd hx hb dX12_lengthOf_23 ?_
    refine lv_icmp_ne (tgt := 36) hx hb dX12_lengthOf_24 (by decide) (fun q3 => ?_) (fun q3 => ?_)
    · have hB := hB.1 q3
      refine lv_iconst (v := 0) hx hb dX12_lengthOf_36 (by decide) ?_
      exact w_X12_lengthOf_37 C hr hlk hP hX4 (lv_sub hl [0, 1, 3] rfl) hB
    · have hB := hB.2 q3
      refine lv_aload_n hx hb dX12_lengthOf_27 rfl (lv_at hl 0 rfl) ?_
      refine lv_iload_n hx hb dX12_lengthOf_28 rfl (lv_at hl 3 rfl) ?_
      refine lv_iconst (v := 1) hx hb dX12_lengthOf_29 (by decide) ?_
      refine v_X12_its C hl.1 hP tw_6_39 ⟨Nat.le_of_ble_eq_true rfl, Nat.le_of_ble_eq_true rfl⟩ ⟨Nat.le_refl _, Nat.le_refl _⟩ (Nat.le_of_ble_eq_true rfl) dX12_lengthOf_30 hB (fun v6 hB => ?_)
      refine lv_goto (tgt := 37) hx hb dX12_lengthOf_33 (by decide) ?_
      exact w_X12_lengthOf_37 C hr hlk hP hX4 (lv_sub hl [0, 1, 3] rfl) hB
set_option maxRecDepth 100000 in
set_option maxHeartbeats 4000000 in
theorem c_X12_lengthOf {l : Launch} {T : Nat → ClassId} {D : va_G} {ad : Nat → Nat} {M : Mem} {x1 : Int32} {Q1 : Int32 → Prop} (hB : P_X12_lengthOf M x1 Q1) : Met l yX12_lengthOf (Cond.code yX12_lengthOf cX12_lengthOf 4 (some .int) :: TB) (RM 2) (va_Pc [.ref (ad 0), .int x1] (RdP EM T D ad 16 M)) (QcR Q1) 0 0 (fun _ => False) := by
  refine st_R (by decide) (Nat.le_of_ble_eq_true rfl) (fun p e s m args below meth c ls C hr hlk hP hl => ?_)
  have hl : lv_has ls 4 [(0, .ref (ad 0)), (1, .int x1)] := hl
  have hx := C.x
  have hb := C.b
  delta P_X12_lengthOf at hB
  refine lv_iconst (v := 0) hx hb dX12_lengthOf_0 (by decide) ?_
  refine lv_istore_n (lv' := [(2, .int 0), (0, .ref (ad 0)), (1, .int x1)]) hx hb dX12_lengthOf_1 rfl hl (by decide) rfl (fun ls hl => ?_)
  refine lv_iconst (v := 0) hx hb dX12_lengthOf_2 (by decide) ?_
  refine lv_istore_n (lv' := [(3, .int 0), (2, .int 0), (0, .ref (ad 0)), (1, .int x1)]) hx hb dX12_lengthOf_3 rfl hl (by decide) rfl (fun ls hl => ?_)
  exact w_X12_lengthOf_4 C hr hlk hP (lv_sub hl [2, 3, 1, 0] rfl) hB
set_option maxRecDepth 100000 in
set_option maxHeartbeats 4000000 in
theorem v_X12_lengthOf {M : Mem} {x1 : Int32} {Q1 : Int32 → Prop} (C : Cx T D p s m args c cc nL own) (hls : ls.size = nL) (hP : Pw EM T D ad 16 M H) (hlink : Cond.methodLink own index yX12_lengthOf ∈ TB) (hR : 2 + 1 ≤ R.frames ∧ 8 + (4 + 11) + 48 * 2 ≤ R.locals) (hcs : cells ≤ R.cells ∧ slots ≤ R.slots) (hcat : (rest.map fun v => v.category).sum ≤ 8) (hdg : decode cc pc = .ok (.invokevirtual index, 3)) (hB : P_X12_lengthOf M x1 Q1)
    (kk : ∀ r : Int32, Q1 r → W p l e R s m args below meth c H locs cells slots QQ (F0 m (pc + 3) ls (.int r :: rest))) : W p l e R s m args below meth c H locs cells slots QQ (F0 m pc ls (.int x1 :: .ref (ad 0) :: rest)) :=
  k_V (ci := 12) (n := 1) (c_X12_lengthOf hB) tw_6_66 tw_6_65 tw_s_37 tw_1_12 ⟨rfl, by decide, by decide, by decide +kernel⟩ rfl rfl C hls hP oM hlink hR hcs hcat rfl hdg kk
def P_X12_ofCord (M : Mem) (x1 : Int32) (x2 : Int32) (Q1 : Int32 → Mem → Prop) : Prop :=
  P_X12_in (x1.toInt64) 0 (((M 1 1) - 1).toInt64) (fun v1 => ((v1 = 0 → P_X12_finds M 1 (fun v3 M4 => Q1 v3 M4)) ∧
    (¬ v1 = 0 → P_X12_in (x2.toInt64) 0 1 (fun v5 => ((¬ v5 = 0 → ((¬ x2 = 0 → P_X12_lengthOf M x1 (fun v8 => Q1 v8 M)) ∧
        (x2 = 0 → P_X12_windowsOf M x1 (fun v9 => Q1 v9 M)))) ∧
      (v5 = 0 → P_X12_finds M 1 (fun v10 M11 => Q1 v10 M11)))))))
set_option maxRecDepth 100000 in
set_option maxHeartbeats 4000000 in
theorem c_X12_ofCord {l : Launch} {T : Nat → ClassId} {D : va_G} {ad : Nat → Nat} {M : Mem} {x1 : Int32} {x2 : Int32} {sz : Nat} {Q1 : Int32 → Mem → Prop} (hB : P_X12_ofCord M x1 x2 Q1) : Met l yX12_ofCord (Cond.code yX12_ofCord cX12_ofCord 3 (some .int) :: TB) (RM 3) (va_Pc [.ref (ad 0), .int x1, .int x2] (WrP EM T D ad 16 M sz)) (QcW EM T D ad 16 (AA ad 16 sz) Q1) 0 0 (AA ad 16 sz) := by
  refine st_W (by decide) (Nat.le_of_ble_eq_true rfl) (fun p e s m args below meth c ls C hr hlk hsz Z hl => ?_)
  have hl : lv_has ls 3 [(0, .ref (ad 0)), (1, .int x1), (2, .int x2)] := hl
  generalize AA ad 16 sz = A at Z ⊢
  have hx := C.x
  have hb := C.b
  delta P_X12_ofCord at hB
  refine lv_iload_n hx hb dX12_ofCord_0 rfl (lv_at hl 1 rfl) ?_
  refine lv_i2l hx hb dX12_ofCord_1 rfl ?_
  refine lv_lconst (v := 0) hx hb dX12_ofCord_2 (by decide) ?_
  refine lv_aload_n hx hb dX12_ofCord_3 rfl (lv_at hl 0 rfl) ?_
  refine gf_X12_0 C Z.1 tw_5_98 dX12_ofCord_4 ?_
  refine lv_iconst (v := 1) hx hb dX12_ofCord_7 (by decide) ?_
  refine a_ldc C Z.1 aM_1 (vin rfl) (j := 1) rfl dX12_ofCord_8 ?_
  refine lv_iconst (v := 1) hx hb dX12_ofCord_9 (by decide) ?_
  refine lv_isub hx hb dX12_ofCord_10 ?_
  refine lv_i2l hx hb dX12_ofCord_11 rfl ?_
  refine v_X12_in C.1 hl.1 tw_5_191 ⟨Nat.le_of_ble_eq_true rfl, Nat.le_of_ble_eq_true rfl⟩ ⟨Nat.le_refl _, Nat.le_refl _⟩ (Nat.le_of_ble_eq_true rfl) dX12_ofCord_12 hB (fun v1 hB => ?_)
  refine lv_if_eq (tgt := 28) hx hb dX12_ofCord_15 (by decide) (fun q2 => ?_) (fun q2 => ?_)
  · have hB := hB.1 q2
    refine lv_aload_n hx hb dX12_ofCord_28 rfl (lv_at hl 0 rfl) ?_
    refine lv_iconst (v := 1) hx hb dX12_ofCord_29 (by decide) ?_
    refine v_X12_finds C hl.1 Z tw_5_194 ⟨Nat.le_of_ble_eq_true rfl, Nat.le_of_ble_eq_true rfl⟩ ⟨Nat.le_refl _, Nat.le_refl _⟩ (Nat.le_of_ble_eq_true rfl) dX12_ofCord_30 hB (fun v3 M4 H locs hB Z => ?_)
    exact e_iW C hr hlk Z dX12_ofCord_33 hB
  · have hB := hB.2 q2
    refine lv_iload_n hx hb dX12_ofCord_18 rfl (lv_at hl 2 rfl) ?_
    refine lv_i2l hx hb dX12_ofCord_19 rfl ?_
    refine lv_lconst (v := 0) hx hb dX12_ofCord_20 (by decide) ?_
    refine lv_lconst (v := 1) hx hb dX12_ofCord_21 (by decide) ?_
    refine v_X12_in C.1 hl.1 tw_5_191 ⟨Nat.le_of_ble_eq_true rfl, Nat.le_of_ble_eq_true rfl⟩ ⟨Nat.le_refl _, Nat.le_refl _⟩ (Nat.le_of_ble_eq_true rfl) dX12_ofCord_22 hB (fun v5 hB => ?_)
    refine lv_if_ne (tgt := 34) hx hb dX12_ofCord_25 (by decide) (fun q6 => ?_) (fun q6 => ?_)
    · have hB := hB.1 q6
      refine lv_iload_n hx hb dX12_ofCord_34 rfl (lv_at hl 2 rfl) ?_
      refine lv_if_ne (tgt := 46) hx hb dX12_ofCord_35 (by decide) (fun q7 => ?_) (fun q7 => ?_)
      · have hB := hB.1 q7
        refine lv_aload_n hx hb dX12_ofCord_46 rfl (lv_at hl 0 rfl) ?_
        refine lv_iload_n hx hb dX12_ofCord_47 rfl (lv_at hl 1 rfl) ?_
        refine v_X12_lengthOf C hl.1 Z.1 tw_6_63 ⟨Nat.le_of_ble_eq_true rfl, Nat.le_of_ble_eq_true rfl⟩ ⟨Nat.le_refl _, Nat.le_refl _⟩ (Nat.le_of_ble_eq_true rfl) dX12_ofCord_48 hB (fun v8 hB => ?_)
        exact e_iW C hr hlk Z dX12_ofCord_51 hB
      · have hB := hB.2 q7
        refine lv_aload_n hx hb dX12_ofCord_38 rfl (lv_at hl 0 rfl) ?_
        refine lv_iload_n hx hb dX12_ofCord_39 rfl (lv_at hl 1 rfl) ?_
        refine v_X12_windowsOf C hl.1 Z.1 tw_6_59 ⟨Nat.le_of_ble_eq_true rfl, Nat.le_of_ble_eq_true rfl⟩ ⟨Nat.le_refl _, Nat.le_refl _⟩ (Nat.le_of_ble_eq_true rfl) dX12_ofCord_40 hB (fun v9 hB => ?_)
        refine lv_goto (tgt := 51) hx hb dX12_ofCord_43 (by decide) ?_
        exact e_iW C hr hlk Z dX12_ofCord_51 hB
    · have hB := hB.2 q6
      refine lv_aload_n hx hb dX12_ofCord_28 rfl (lv_at hl 0 rfl) ?_
      refine lv_iconst (v := 1) hx hb dX12_ofCord_29 (by decide) ?_
      refine v_X12_finds C hl.1 Z tw_5_194 ⟨Nat.le_of_ble_eq_true rfl, Nat.le_of_ble_eq_true rfl⟩ ⟨Nat.le_refl _, Nat.le_refl _⟩ (Nat.le_of_ble_eq_true rfl) dX12_ofCord_30 hB (fun v10 M11 H locs hB Z => ?_)
      exact e_iW C hr hlk Z dX12_ofCord_33 hB
set_option maxRecDepth 100000 in
set_option maxHeartbeats 4000000 in
theorem v_X12_ofCord {M : Mem} {x1 : Int32} {x2 : Int32} {Q1 : Int32 → Mem → Prop} (C : Cx T D p s m args c cc nL own) (hls : ls.size = nL) (Z : Zz EM T D ad 16 A H0 M H locs) (hlink : Cond.methodLink own index yX12_ofCord ∈ TB) (hR : 3 + 1 ≤ R.frames ∧ 8 + (3 + 11) + 48 * 3 ≤ R.locals) (hcs : cells ≤ R.cells ∧ slots ≤ R.slots) (hcat : (rest.map fun v => v.category).sum ≤ 8) (hdg : decode cc pc = .ok (.invokevirtual index, 3)) (hB : P_X12_ofCord M x1 x2 Q1)
    (kk : ∀ (r : Int32) (M1 : Mem) (H1 : Heap) (locs1 : List Loc), Q1 r M1 → Zz EM T D ad 16 A H0 M1 H1 locs1 → W p l e R s m args below meth c H1 locs1 cells slots QQ (F0 m (pc + 3) ls (.int r :: rest))) : W p l e R s m args below meth c H locs cells slots QQ (F0 m pc ls (.int x2 :: .int x1 :: .ref (ad 0) :: rest)) :=
  k_VW (ci := 12) (n := 2) (c_X12_ofCord hB) tw_6_58 tw_6_56 tw_6_57 tw_1_12 ⟨rfl, by decide, by decide, by decide +kernel⟩ rfl rfl C hls Z oM hlink hR hcs hcat rfl hdg kk
def P_X12_open (M : Mem) (x1 : Int32) (x2 : Int32) (Q1 : Int32 → Mem → Prop) : Prop :=
  P_X12_isWindow M x1 (fun v1 => ((v1 = 0 → P_X12_finds M 1 (fun v3 M4 => Q1 v3 M4)) ∧
    (¬ v1 = 0 → P_X12_in (x2.toInt64) 0 9 (fun v5 => ((¬ v5 = 0 → P_X12_its M x1 2 (fun v7 => ((0 < v7 → P_X12_finds M 3 (fun v9 M10 => Q1 v9 M10)) ∧
        (¬ 0 < v7 → P_X12_its M x1 3 (fun v11 => ((¬ v11 = 1 → P_X12_its M x1 1 (fun v13 => P_X12_puts M x1 1 x2 (fun M14 => Q1 v13 M14))) ∧
          (v11 = 1 → P_X12_finds M 3 (fun v15 M16 => Q1 v15 M16)))))))) ∧
      (v5 = 0 → P_X12_finds M 1 (fun v17 M18 => Q1 v17 M18)))))))
set_option maxRecDepth 100000 in
set_option maxHeartbeats 4000000 in
theorem c_X12_open {l : Launch} {T : Nat → ClassId} {D : va_G} {ad : Nat → Nat} {M : Mem} {x1 : Int32} {x2 : Int32} {sz : Nat} {Q1 : Int32 → Mem → Prop} (hB : P_X12_open M x1 x2 Q1) : Met l yX12_open (Cond.code yX12_open cX12_open 4 (some .int) :: TB) (RM 3) (va_Pc [.ref (ad 0), .int x1, .int x2] (WrP EM T D ad 16 M sz)) (QcW EM T D ad 16 (AA ad 16 sz) Q1) 0 0 (AA ad 16 sz) := by
  refine st_W (by decide) (Nat.le_of_ble_eq_true rfl) (fun p e s m args below meth c ls C hr hlk hsz Z hl => ?_)
  have hl : lv_has ls 4 [(0, .ref (ad 0)), (1, .int x1), (2, .int x2)] := hl
  generalize AA ad 16 sz = A at Z ⊢
  have hx := C.x
  have hb := C.b
  delta P_X12_open at hB
  refine lv_aload_n hx hb dX12_open_0 rfl (lv_at hl 0 rfl) ?_
  refine lv_iload_n hx hb dX12_open_1 rfl (lv_at hl 1 rfl) ?_
  refine v_X12_isWindow C hl.1 Z.1 tw_6_51 ⟨Nat.le_of_ble_eq_true rfl, Nat.le_of_ble_eq_true rfl⟩ ⟨Nat.le_refl _, Nat.le_refl _⟩ (Nat.le_of_ble_eq_true rfl) dX12_open_2 hB (fun v1 hB => ?_)
  refine lv_if_eq (tgt := 20) hx hb dX12_open_5 (by decide) (fun q2 => ?_) (fun q2 => ?_)
  · have hB := hB.1 q2
    refine lv_aload_n hx hb dX12_open_20 rfl (lv_at hl 0 rfl) ?_
    refine lv_iconst (v := 1) hx hb dX12_open_21 (by decide) ?_
    refine v_X12_finds C hl.1 Z tw_5_194 ⟨Nat.le_of_ble_eq_true rfl, Nat.le_of_ble_eq_true rfl⟩ ⟨Nat.le_refl _, Nat.le_refl _⟩ (Nat.le_of_ble_eq_true rfl) dX12_open_22 hB (fun v3 M4 H locs hB Z => ?_)
    exact e_iW C hr hlk Z dX12_open_25 hB
  · have hB := hB.2 q2
    refine lv_iload_n hx hb dX12_open_8 rfl (lv_at hl 2 rfl) ?_
    refine lv_i2l hx hb dX12_open_9 rfl ?_
    refine lv_lconst (v := 0) hx hb dX12_open_10 (by decide) ?_
    refine lv_ldc2 hx hb C.1.2.2.2.1 (C.1.2.2.2.2 _ tw_6_25) dX12_open_11 ?_
    refine v_X12_in C.1 hl.1 tw_5_191 ⟨Nat.le_of_ble_eq_true rfl, Nat.le_of_ble_eq_true rfl⟩ ⟨Nat.le_refl _, Nat.le_refl _⟩ (Nat.le_of_ble_eq_true rfl) dX12_open_14 hB (fun v5 hB => ?_)
    refine lv_if_ne (tgt := 26) hx hb dX12_open_17 (by decide) (fun q6 => ?_) (fun q6 => ?_)
    · have hB := hB.1 q6
      refine lv_aload_n hx hb dX12_open_26 rfl (lv_at hl 0 rfl) ?_
      refine lv_iload_n hx hb dX12_open_27 rfl (lv_at hl 1 rfl) ?_
      refine lv_iconst (v := 2) hx hb dX12_open_28 (by decide) ?_
      refine v_X12_its C hl.1 Z.1 tw_6_39 ⟨Nat.le_of_ble_eq_true rfl, Nat.le_of_ble_eq_true rfl⟩ ⟨Nat.le_refl _, Nat.le_refl _⟩ (Nat.le_of_ble_eq_true rfl) dX12_open_29 hB (fun v7 hB => ?_)
      refine lv_if_gt (tgt := 45) hx hb dX12_open_32 (by decide) (fun q8 => ?_) (fun q8 => ?_)
      · have hB := hB.1 q8
        refine lv_aload_n hx hb dX12_open_45 rfl (lv_at hl 0 rfl) ?_
        refine lv_iconst (v := 3) hx hb dX12_open_46 (by decide) ?_
        refine v_X12_finds C hl.1 Z tw_5_194 ⟨Nat.le_of_ble_eq_true rfl, Nat.le_of_ble_eq_true rfl⟩ ⟨Nat.le_refl _, Nat.le_refl _⟩ (Nat.le_of_ble_eq_true rfl) dX12_open_47 hB (fun v9 M10 H locs hB Z => ?_)
        exact e_iW C hr hlk Z dX12_open_50 hB
      · have hB := hB.2 q8
        refine lv_aload_n hx hb dX12_open_35 rfl (lv_at hl 0 rfl) ?_
        refine lv_iload_n hx hb dX12_open_36 rfl (lv_at hl 1 rfl) ?_
        refine lv_iconst (v := 3) hx hb dX12_open_37 (by decide) ?_
        refine v_X12_its C hl.1 Z.1 tw_6_39 ⟨Nat.le_of_ble_eq_true rfl, Nat.le_of_ble_eq_true rfl⟩ ⟨Nat.le_refl _, Nat.le_refl _⟩ (Nat.le_of_ble_eq_true rfl) dX12_open_38 hB (fun v11 hB => ?_)
        refine lv_iconst (v := 1) hx hb dX12_open_41 (by decide) ?_
        refine lv_icmp_ne (tgt := 51) hx hb dX12_open_42 (by decide) (fun q12 => ?_) (fun q12 => ?_)
        · have hB := hB.1 q12
          refine lv_aload_n hx hb dX12_open_51 rfl (lv_at hl 0 rfl) ?_
          refine lv_iload_n hx hb dX12_open_52 rfl (lv_at hl 1 rfl) ?_
          refine lv_iconst (v := 1) hx hb dX12_open_53 (by decide) ?_
          refine v_X12_its C hl.1 Z.1 tw_6_39 ⟨Nat.le_of_ble_eq_true rfl, Nat.le_of_ble_eq_true rfl⟩ ⟨Nat.le_refl _, Nat.le_refl _⟩ (Nat.le_of_ble_eq_true rfl) dX12_open_54 hB (fun v13 hB => ?_)
          refine lv_istore_n (lv' := [(3, .int v13), (0, .ref (ad 0)), (1, .int x1), (2, .int x2)]) hx hb dX12_open_57 rfl hl (by decide) rfl (fun ls hl => ?_)
          refine lv_aload_n hx hb dX12_open_58 rfl (lv_at hl 1 rfl) ?_
          refine lv_iload_n hx hb dX12_open_59 rfl (lv_at hl 2 rfl) ?_
          refine lv_iconst (v := 1) hx hb dX12_open_60 (by decide) ?_
          refine lv_iload_n hx hb dX12_open_61 rfl (lv_at hl 3 rfl) ?_
          refine v_X12_puts C hl.1 Z tw_6_26 ⟨Nat.le_of_ble_eq_true rfl, Nat.le_of_ble_eq_true rfl⟩ ⟨Nat.le_refl _, Nat.le_refl _⟩ (Nat.le_of_ble_eq_true rfl) dX12_open_62 hB (fun M14 H locs hB Z => ?_)
          refine lv_iload_n hx hb dX12_open_65 rfl (lv_at hl 0 rfl) ?_
          exact e_iW C hr hlk Z dX12_open_66 hB
        · have hB := hB.2 q12
          refine lv_aload_n hx hb dX12_open_45 rfl (lv_at hl 0 rfl) ?_
          refine lv_iconst (v := 3) hx hb dX12_open_46 (by decide) ?_
          refine v_X12_finds C hl.1 Z tw_5_194 ⟨Nat.le_of_ble_eq_true rfl, Nat.le_of_ble_eq_true rfl⟩ ⟨Nat.le_refl _, Nat.le_refl _⟩ (Nat.le_of_ble_eq_true rfl) dX12_open_47 hB (fun v15 M16 H locs hB Z => ?_)
          exact e_iW C hr hlk Z dX12_open_50 hB
    · have hB := hB.2 q6
      refine lv_aload_n hx hb dX12_open_20 rfl (lv_at hl 0 rfl) ?_
      refine lv_iconst (v := 1) hx hb dX12_open_21 (by decide) ?_
      refine v_X12_finds C hl.1 Z tw_5_194 ⟨Nat.le_of_ble_eq_true rfl, Nat.le_of_ble_eq_true rfl⟩ ⟨Nat.le_refl _, Nat.le_refl _⟩ (Nat.le_of_ble_eq_true rfl) dX12_open_22 hB (fun v17 M18 H locs hB Z => ?_)
      exact e_iW C hr hlk Z dX12_open_25 hB
set_option maxRecDepth 100000 in
set_option maxHeartbeats 4000000 in
theorem v_X12_open {M : Mem} {x1 : Int32} {x2 : Int32} {Q1 : Int32 → Mem → Prop} (C : Cx T D p s m args c cc nL own) (hls : ls.size = nL) (Z : Zz EM T D ad 16 A H0 M H locs) (hlink : Cond.methodLink own index yX12_open ∈ TB) (hR : 3 + 1 ≤ R.frames ∧ 8 + (4 + 11) + 48 * 3 ≤ R.locals) (hcs : cells ≤ R.cells ∧ slots ≤ R.slots) (hcat : (rest.map fun v => v.category).sum ≤ 8) (hdg : decode cc pc = .ok (.invokevirtual index, 3)) (hB : P_X12_open M x1 x2 Q1)
    (kk : ∀ (r : Int32) (M1 : Mem) (H1 : Heap) (locs1 : List Loc), Q1 r M1 → Zz EM T D ad 16 A H0 M1 H1 locs1 → W p l e R s m args below meth c H1 locs1 cells slots QQ (F0 m (pc + 3) ls (.int r :: rest))) : W p l e R s m args below meth c H locs cells slots QQ (F0 m pc ls (.int x2 :: .int x1 :: .ref (ad 0) :: rest)) :=
  k_VW (ci := 12) (n := 2) (c_X12_open hB) tw_6_70 tw_6_68 tw_6_69 tw_1_12 ⟨rfl, by decide, by decide, by decide +kernel⟩ rfl rfl C hls Z oM hlink hR hcs hcat rfl hdg kk
def P_X12_swell (M : Mem) (x1 : Int32) (x2 : Int32) (Q1 : Int32 → Mem → Prop) : Prop :=
  P_X12_isWindow M x1 (fun v1 => ((v1 = 0 → P_X12_finds M 1 (fun v3 M4 => Q1 v3 M4)) ∧
    (¬ v1 = 0 → P_X12_in (x2.toInt64) 0 1 (fun v5 => ((¬ v5 = 0 → P_X12_its M x1 3 (fun v7 => P_X12_puts M x1 3 x2 (fun M8 => Q1 v7 M8))) ∧
      (v5 = 0 → P_X12_finds M 1 (fun v9 M10 => Q1 v9 M10)))))))
set_option maxRecDepth 100000 in
set_option maxHeartbeats 4000000 in
theorem c_X12_swell {l : Launch} {T : Nat → ClassId} {D : va_G} {ad : Nat → Nat} {M : Mem} {x1 : Int32} {x2 : Int32} {sz : Nat} {Q1 : Int32 → Mem → Prop} (hB : P_X12_swell M x1 x2 Q1) : Met l yX12_swell (Cond.code yX12_swell cX12_swell 4 (some .int) :: TB) (RM 3) (va_Pc [.ref (ad 0), .int x1, .int x2] (WrP EM T D ad 16 M sz)) (QcW EM T D ad 16 (AA ad 16 sz) Q1) 0 0 (AA ad 16 sz) := by
  refine st_W (by decide) (Nat.le_of_ble_eq_true rfl) (fun p e s m args below meth c ls C hr hlk hsz Z hl => ?_)
  have hl : lv_has ls 4 [(0, .ref (ad 0)), (1, .int x1), (2, .int x2)] := hl
  generalize AA ad 16 sz = A at Z ⊢
  have hx := C.x
  have hb := C.b
  delta P_X12_swell at hB
  refine lv_aload_n hx hb dX12_swell_0 rfl (lv_at hl 0 rfl) ?_
  refine lv_iload_n hx hb dX12_swell_1 rfl (lv_at hl 1 rfl) ?_
  refine v_X12_isWindow C hl.1 Z.1 tw_6_51 ⟨Nat.le_of_ble_eq_true rfl, Nat.le_of_ble_eq_true rfl⟩ ⟨Nat.le_refl _, Nat.le_refl _⟩ (Nat.le_of_ble_eq_true rfl) dX12_swell_2 hB (fun v1 hB => ?_)
  refine lv_if_eq (tgt := 18) hx hb dX12_swell_5 (by decide) (fun q2 => ?_) (fun q2 => ?_)
  · have hB := hB.1 q2
    refine lv_aload_n hx hb dX12_swell_18 rfl (lv_at hl 0 rfl) ?_
    refine lv_iconst (v := 1) hx hb dX12_swell_19 (by decide) ?_
    refine v_X12_finds C hl.1 Z tw_5_194 ⟨Nat.le_of_ble_eq_true rfl, Nat.le_of_ble_eq_true rfl⟩ ⟨Nat.le_refl _, Nat.le_refl _⟩ (Nat.le_of_ble_eq_true rfl) dX12_swell_20 hB (fun v3 M4 H locs hB Z => ?_)
    exact e_iW C hr hlk Z dX12_swell_23 hB
  · have hB := hB.2 q2
    refine lv_iload_n hx hb dX12_swell_8 rfl (lv_at hl 2 rfl) ?_
    refine lv_i2l hx hb dX12_swell_9 rfl ?_
    refine lv_lconst (v := 0) hx hb dX12_swell_10 (by decide) ?_
    refine lv_lconst (v := 1) hx hb dX12_swell_11 (by decide) ?_
    refine v_X12_in C.1 hl.1 tw_5_191 ⟨Nat.le_of_ble_eq_true rfl, Nat.le_of_ble_eq_true rfl⟩ ⟨Nat.le_refl _, Nat.le_refl _⟩ (Nat.le_of_ble_eq_true rfl) dX12_swell_12 hB (fun v5 hB => ?_)
    refine lv_if_ne (tgt := 24) hx hb dX12_swell_15 (by decide) (fun q6 => ?_) (fun q6 => ?_)
    · have hB := hB.1 q6
      refine lv_aload_n hx hb dX12_swell_24 rfl (lv_at hl 0 rfl) ?_
      refine lv_iload_n hx hb dX12_swell_25 rfl (lv_at hl 1 rfl) ?_
      refine lv_iconst (v := 3) hx hb dX12_swell_26 (by decide) ?_
      refine v_X12_its C hl.1 Z.1 tw_6_39 ⟨Nat.le_of_ble_eq_true rfl, Nat.le_of_ble_eq_true rfl⟩ ⟨Nat.le_refl _, Nat.le_refl _⟩ (Nat.le_of_ble_eq_true rfl) dX12_swell_27 hB (fun v7 hB => ?_)
      refine lv_istore_n (lv' := [(3, .int v7), (0, .ref (ad 0)), (1, .int x1), (2, .int x2)]) hx hb dX12_swell_30 rfl hl (by decide) rfl (fun ls hl => ?_)
      refine lv_aload_n hx hb dX12_swell_31 rfl (lv_at hl 1 rfl) ?_
      refine lv_iload_n hx hb dX12_swell_32 rfl (lv_at hl 2 rfl) ?_
      refine lv_iconst (v := 3) hx hb dX12_swell_33 (by decide) ?_
      refine lv_iload_n hx hb dX12_swell_34 rfl (lv_at hl 3 rfl) ?_
      refine v_X12_puts C hl.1 Z tw_6_26 ⟨Nat.le_of_ble_eq_true rfl, Nat.le_of_ble_eq_true rfl⟩ ⟨Nat.le_refl _, Nat.le_refl _⟩ (Nat.le_of_ble_eq_true rfl) dX12_swell_35 hB (fun M8 H locs hB Z => ?_)
      refine lv_iload_n hx hb dX12_swell_38 rfl (lv_at hl 0 rfl) ?_
      exact e_iW C hr hlk Z dX12_swell_39 hB
    · have hB := hB.2 q6
      refine lv_aload_n hx hb dX12_swell_18 rfl (lv_at hl 0 rfl) ?_
      refine lv_iconst (v := 1) hx hb dX12_swell_19 (by decide) ?_
      refine v_X12_finds C hl.1 Z tw_5_194 ⟨Nat.le_of_ble_eq_true rfl, Nat.le_of_ble_eq_true rfl⟩ ⟨Nat.le_refl _, Nat.le_refl _⟩ (Nat.le_of_ble_eq_true rfl) dX12_swell_20 hB (fun v9 M10 H locs hB Z => ?_)
      exact e_iW C hr hlk Z dX12_swell_23 hB
set_option maxRecDepth 100000 in
set_option maxHeartbeats 4000000 in
theorem v_X12_swell {M : Mem} {x1 : Int32} {x2 : Int32} {Q1 : Int32 → Mem → Prop} (C : Cx T D p s m args c cc nL own) (hls : ls.size = nL) (Z : Zz EM T D ad 16 A H0 M H locs) (hlink : Cond.methodLink own index yX12_swell ∈ TB) (hR : 3 + 1 ≤ R.frames ∧ 8 + (4 + 11) + 48 * 3 ≤ R.locals) (hcs : cells ≤ R.cells ∧ slots ≤ R.slots) (hcat : (rest.map fun v => v.category).sum ≤ 8) (hdg : decode cc pc = .ok (.invokevirtual index, 3)) (hB : P_X12_swell M x1 x2 Q1)
    (kk : ∀ (r : Int32) (M1 : Mem) (H1 : Heap) (locs1 : List Loc), Q1 r M1 → Zz EM T D ad 16 A H0 M1 H1 locs1 → W p l e R s m args below meth c H1 locs1 cells slots QQ (F0 m (pc + 3) ls (.int r :: rest))) : W p l e R s m args below meth c H locs cells slots QQ (F0 m pc ls (.int x2 :: .int x1 :: .ref (ad 0) :: rest)) :=
  k_VW (ci := 12) (n := 2) (c_X12_swell hB) tw_6_74 tw_6_72 tw_6_73 tw_1_12 ⟨rfl, by decide, by decide, by decide +kernel⟩ rfl rfl C hls Z oM hlink hR hcs hcat rfl hdg kk
def P_X12_isLocked (M : Mem) (Q1 : Int32 → Prop) : Prop :=
  (((M 1 3) < (M 1 6) → Q1 0) ∧
    (¬ (M 1 3) < (M 1 6) → (((M 1 7) ≤ (M 1 3) → Q1 0) ∧
      (¬ (M 1 7) ≤ (M 1 3) → Q1 1))))
set_option maxRecDepth 100000 in
set_option maxHeartbeats 4000000 in
theorem c_X12_isLocked {l : Launch} {T : Nat → ClassId} {D : va_G} {ad : Nat → Nat} {M : Mem} {Q1 : Int32 → Prop} (hB : P_X12_isLocked M Q1) : Met l yX12_isLocked (Cond.code yX12_isLocked cX12_isLocked 1 (some .boolean) :: TB) (RM 1) (va_Pc [.ref (ad 0)] (RdP EM T D ad 16 M)) (QcR Q1) 0 0 (fun _ => False) := by
  refine st_R (by decide) (Nat.le_of_ble_eq_true rfl) (fun p e s m args below meth c ls C hr hlk hP hl => ?_)
  have hl : lv_has ls 1 [(0, .ref (ad 0))] := hl
  have hx := C.x
  have hb := C.b
  delta P_X12_isLocked at hB
  refine lv_aload_n hx hb dX12_isLocked_0 rfl (lv_at hl 0 rfl) ?_
  refine gf_X12_0 C hP tw_5_98 dX12_isLocked_1 ?_
  refine lv_iconst (v := 3) hx hb dX12_isLocked_4 (by decide) ?_
  refine a_ldc C hP aM_1 (vin rfl) (j := 3) rfl dX12_isLocked_5 ?_
  refine lv_aload_n hx hb dX12_isLocked_6 rfl (lv_at hl 0 rfl) ?_
  refine gf_X12_0 C hP tw_5_98 dX12_isLocked_7 ?_
  refine lv_bipush (v := 6) hx hb dX12_isLocked_10 (by decide) ?_
  refine a_ldc C hP aM_1 (vin rfl) (j := 6) rfl dX12_isLocked_12 ?_
  refine lv_icmp_lt (tgt := 36) hx hb dX12_isLocked_13 (by decide) (fun q1 => ?_) (fun q1 => ?_)
  · have hB := hB.1 q1
    refine lv_iconst (v := 0) hx hb dX12_isLocked_36 (by decide) ?_
    exact e_zR C.1 hr hlk dX12_isLocked_37 (Or.inl rfl) hB
  · have hB := hB.2 q1
    refine lv_aload_n hx hb dX12_isLocked_16 rfl (lv_at hl 0 rfl) ?_
    refine gf_X12_0 C hP tw_5_98 dX12_isLocked_17 ?_
    refine lv_iconst (v := 3) hx hb dX12_isLocked_20 (by decide) ?_
    refine a_ldc C hP aM_1 (vin rfl) (j := 3) rfl dX12_isLocked_21 ?_
    refine lv_aload_n hx hb dX12_isLocked_22 rfl (lv_at hl 0 rfl) ?_
    refine gf_X12_0 C hP tw_5_98 dX12_isLocked_23 ?_
    refine lv_bipush (v := 7) hx hb dX12_isLocked_26 (by decide) ?_
    refine a_ldc C hP aM_1 (vin rfl) (j := 7) rfl dX12_isLocked_28 ?_
    refine lv_icmp_ge (tgt := 36) hx hb dX12_isLocked_29 (by decide) (fun q2 => ?_) (fun q2 => ?_)
    · have hB := hB.1 q2
      refine lv_iconst (v := 0) hx hb dX12_isLocked_36 (by decide) ?_
      exact e_zR C.1 hr hlk dX12_isLocked_37 (Or.inl rfl) hB
    · have hB := hB.2 q2
      refine lv_iconst (v := 1) hx hb dX12_isLocked_32 (by decide) ?_
      refine lv_goto (tgt := 37) hx hb dX12_isLocked_33 (by decide) ?_
      exact e_zR C.1 hr hlk dX12_isLocked_37 (Or.inr rfl) hB
set_option maxRecDepth 100000 in
set_option maxHeartbeats 4000000 in
theorem v_X12_isLocked {M : Mem} {Q1 : Int32 → Prop} (C : Cx T D p s m args c cc nL own) (hls : ls.size = nL) (hP : Pw EM T D ad 16 M H) (hlink : Cond.methodLink own index yX12_isLocked ∈ TB) (hR : 1 + 1 ≤ R.frames ∧ 8 + (1 + 11) + 48 * 1 ≤ R.locals) (hcs : cells ≤ R.cells ∧ slots ≤ R.slots) (hcat : (rest.map fun v => v.category).sum ≤ 8) (hdg : decode cc pc = .ok (.invokevirtual index, 3)) (hB : P_X12_isLocked M Q1)
    (kk : ∀ r : Int32, Q1 r → W p l e R s m args below meth c H locs cells slots QQ (F0 m (pc + 3) ls (.int r :: rest))) : W p l e R s m args below meth c H locs cells slots QQ (F0 m pc ls (.ref (ad 0) :: rest)) :=
  k_V (ci := 12) (n := 0) (c_X12_isLocked hB) tw_6_82 tw_6_81 tw_s_38 tw_1_12 ⟨rfl, by decide, by decide, by decide +kernel⟩ rfl rfl C hls hP oM hlink hR hcs hcat rfl hdg kk
def B_X12_canPull_34 (M : Mem) (Q1 : Int32 → Prop) (x1 : Int32) (x2 : Int32) (s0 : Int32) : Prop :=
  ((s0 = 0 → Q1 0) ∧
    (¬ s0 = 0 → P_X12_its M x1 3 (fun v3 => ((¬ v3 = 0 → Q1 0) ∧
      (v3 = 0 → P_X12_its M x2 3 (fun v5 => ((¬ v5 = 0 → Q1 0) ∧
        (v5 = 0 → P_X12_its M x1 1 (fun v7 => ((9 ≤ v7 → Q1 0) ∧
          (¬ 9 ≤ v7 → P_X12_its M x2 1 (fun v9 => ((v9 ≤ 0 → Q1 0) ∧
            (¬ v9 ≤ 0 → Q1 1))))))))))))))
def P_X12_canPull (M : Mem) (x1 : Int32) (x2 : Int32) (Q1 : Int32 → Prop) : Prop :=
  ((x1 = x2 → B_X12_canPull_34 M Q1 x1 x2 0) ∧
    (¬ x1 = x2 → P_X12_its M x1 2 (fun v11 => ((v11 ≤ 0 → B_X12_canPull_34 M Q1 x1 x2 0) ∧
      (¬ v11 ≤ 0 → P_X12_its M x1 2 (fun v13 => P_X12_its M x2 2 (fun v14 => ((¬ v13 = v14 → B_X12_canPull_34 M Q1 x1 x2 0) ∧
        (v13 = v14 → B_X12_canPull_34 M Q1 x1 x2 1)))))))))
set_option maxRecDepth 100000 in
set_option maxHeartbeats 4000000 in
theorem w_X12_canPull_34 {M : Mem} {Q1 : Int32 → Prop} {x1 : Int32} {x2 : Int32} {s0 : Int32} (C : Cx T D p s m args c cX12_canPull 4 "OneOfTwoModel") (hr : meth.sig.returnType = (some .boolean)) (hlk : meth.locks = false) (hP : Pw EM T D ad 16 M s.heap) {ls : Array Slot} (hl : lv_has ls 4 [(0, .ref (ad 0)), (1, .int x1), (2, .int x2)]) (hB : B_X12_canPull_34 M Q1 x1 x2 s0) : W p l e (RM 2) s m args below meth c s.heap [] 0 0 (MQ below (QcR Q1) args s 0 0 (fun _ => False)) (F0 m 34 ls [.int s0]) := by
  have hx := C.x
  have hb := C.b
  delta B_X12_canPull_34 at hB
  refine lv_istore_n (lv' := [(3, .int s0), (0, .ref (ad 0)), (1, .int x1), (2, .int x2)]) hx hb dX12_canPull_34 rfl hl (by decide) rfl (fun ls hl => ?_)
  refine lv_iload_n hx hb dX12_canPull_35 rfl (lv_at hl 0 rfl) ?_
  refine lv_if_eq (tgt := 81) hx hb dX12_canPull_36 (by decide) (fun q2 => ?_) (fun q2 => ?_)
  · have hB := hB.1 q2
    refine lv_iconst (v := 0) hx hb dX12_canPull_81 (by decide) ?_
    exact e_zR C.1 hr hlk dX12_canPull_82 (Or.inl rfl) hB
  · have hB := hB.2 q2
    refine lv_aload_n hx hb dX12_canPull_39 rfl (lv_at hl 1 rfl) ?_
    refine lv_iload_n hx hb dX12_canPull_40 rfl (lv_at hl 2 rfl) ?_
    refine lv_iconst (v := 3) hx hb dX12_canPull_41 (by decide) ?_
    refine v_X12_its C hl.1 hP tw_6_39 ⟨Nat.le_of_ble_eq_true rfl, Nat.le_of_ble_eq_true rfl⟩ ⟨Nat.le_refl _, Nat.le_refl _⟩ (Nat.le_of_ble_eq_true rfl) dX12_canPull_42 hB (fun v3 hB => ?_)
    refine lv_if_ne (tgt := 81) hx hb dX12_canPull_45 (by decide) (fun q4 => ?_) (fun q4 => ?_)
    · have hB := hB.1 q4
      refine lv_iconst (v := 0) hx hb dX12_canPull_81 (by decide) ?_
      exact e_zR C.1 hr hlk dX12_canPull_82 (Or.inl rfl) hB
    · have hB := hB.2 q4
      refine lv_aload_n hx hb dX12_canPull_48 rfl (lv_at hl 1 rfl) ?_
      refine lv_iload_n hx hb dX12_canPull_49 rfl (lv_at hl 3 rfl) ?_
      refine lv_iconst (v := 3) hx hb dX12_canPull_50 (by decide) ?_
      refine v_X12_its C hl.1 hP tw_6_39 ⟨Nat.le_of_ble_eq_true rfl, Nat.le_of_ble_eq_true rfl⟩ ⟨Nat.le_refl _, Nat.le_refl _⟩ (Nat.le_of_ble_eq_true rfl) dX12_canPull_51 hB (fun v5 hB => ?_)
      refine lv_if_ne (tgt := 81) hx hb dX12_canPull_54 (by decide) (fun q6 => ?_) (fun q6 => ?_)
      · have hB := hB.1 q6
        refine lv_iconst (v := 0) hx hb dX12_canPull_81 (by decide) ?_
        exact e_zR C.1 hr hlk dX12_canPull_82 (Or.inl rfl) hB
      · have hB := hB.2 q6
        refine lv_aload_n hx hb dX12_canPull_57 rfl (lv_at hl 1 rfl) ?_
        refine lv_iload_n hx hb dX12_canPull_58 rfl (lv_at hl 2 rfl) ?_
        refine lv_iconst (v := 1) hx hb dX12_canPull_59 (by decide) ?_
        refine v_X12_its C hl.1 hP tw_6_39 ⟨Nat.le_of_ble_eq_true rfl, Nat.le_of_ble_eq_true rfl⟩ ⟨Nat.le_refl _, Nat.le_refl _⟩ (Nat.le_of_ble_eq_true rfl) dX12_canPull_60 hB (fun v7 hB => ?_)
        refine lv_bipush (v := 9) hx hb dX12_canPull_63 (by decide) ?_
        refine lv_icmp_ge (tgt := 81) hx hb dX12_canPull_65 (by decide) (fun q8 => ?_) (fun q8 => ?_)
        · have hB := hB.1 q8
          refine lv_iconst (v := 0) hx hb dX12_canPull_81 (by decide) ?_
          exact e_zR C.1 hr hlk dX12_canPull_82 (Or.inl rfl) hB
        · have hB := hB.2 q8
          refine lv_aload_n hx hb dX12_canPull_68 rfl (lv_at hl 1 rfl) ?_
          refine lv_iload_n hx hb dX12_canPull_69 rfl (lv_at hl 3 rfl) ?_
          refine lv_iconst (v := 1) hx hb dX12_canPull_70 (by decide) ?_
          refine v_X12_its C hl.1 hP tw_6_39 ⟨Nat.le_of_ble_eq_true rfl, Nat.le_of_ble_eq_true rfl⟩ ⟨Nat.le_refl _, Nat.le_refl _⟩ (Nat.le_of_ble_eq_true rfl) dX12_canPull_71 hB (fun v9 hB => ?_)
          refine lv_if_le (tgt := 81) hx hb dX12_canPull_74 (by decide) (fun q10 => ?_) (fun q10 => ?_)
          · have hB := hB.1 q10
            refine lv_iconst (v := 0) hx hb dX12_canPull_81 (by decide) ?_
            exact e_zR C.1 hr hlk dX12_canPull_82 (Or.inl rfl) hB
          · have hB := hB.2 q10
            refine lv_iconst (v := 1) hx hb dX12_canPull_77 (by decide) ?_
            refine lv_goto (tgt := 82) hx hb dX12_canPull_78 (by decide) ?_
            exact e_zR C.1 hr hlk dX12_canPull_82 (Or.inr rfl) hB
set_option maxRecDepth 100000 in
set_option maxHeartbeats 4000000 in
theorem c_X12_canPull {l : Launch} {T : Nat → ClassId} {D : va_G} {ad : Nat → Nat} {M : Mem} {x1 : Int32} {x2 : Int32} {Q1 : Int32 → Prop} (hB : P_X12_canPull M x1 x2 Q1) : Met l yX12_canPull (Cond.code yX12_canPull cX12_canPull 4 (some .boolean) :: TB) (RM 2) (va_Pc [.ref (ad 0), .int x1, .int x2] (RdP EM T D ad 16 M)) (QcR Q1) 0 0 (fun _ => False) := by
  refine st_R (by decide) (Nat.le_of_ble_eq_true rfl) (fun p e s m args below meth c ls C hr hlk hP hl => ?_)
  have hl : lv_has ls 4 [(0, .ref (ad 0)), (1, .int x1), (2, .int x2)] := hl
  have hx := C.x
  have hb := C.b
  delta P_X12_canPull at hB
  refine lv_iload_n hx hb dX12_canPull_0 rfl (lv_at hl 1 rfl) ?_
  refine lv_iload_n hx hb dX12_canPull_1 rfl (lv_at hl 2 rfl) ?_
  refine lv_icmp_eq (tgt := 33) hx hb dX12_canPull_2 (by decide) (fun q1 => ?_) (fun q1 => ?_)
  · have hB := hB.1 q1
    refine lv_iconst (v := 0) hx hb dX12_canPull_33 (by decide) ?_
    exact w_X12_canPull_34 C hr hlk hP (lv_sub hl [0, 1, 2] rfl) hB
  · have hB := hB.2 q1
    refine lv_aload_n hx hb dX12_canPull_5 rfl (lv_at hl 0 rfl) ?_
    refine lv_iload_n hx hb dX12_canPull_6 rfl (lv_at hl 1 rfl) ?_
    refine lv_iconst (v := 2) hx hb dX12_canPull_7 (by decide) ?_
    refine v_X12_its C hl.1 hP tw_6_39 ⟨Nat.le_of_ble_eq_true rfl, Nat.le_of_ble_eq_true rfl⟩ ⟨Nat.le_refl _, Nat.le_refl _⟩ (Nat.le_of_ble_eq_true rfl) dX12_canPull_8 hB (fun v11 hB => ?_)
    refine lv_if_le (tgt := 33) hx hb dX12_canPull_11 (by decide) (fun q12 => ?_) (fun q12 => ?_)
    · have hB := hB.1 q12
      refine lv_iconst (v := 0) hx hb dX12_canPull_33 (by decide) ?_
      exact w_X12_canPull_34 C hr hlk hP (lv_sub hl [0, 1, 2] rfl) hB
    · have hB := hB.2 q12
      refine lv_aload_n hx hb dX12_canPull_14 rfl (lv_at hl 0 rfl) ?_
      refine lv_iload_n hx hb dX12_canPull_15 rfl (lv_at hl 1 rfl) ?_
      refine lv_iconst (v := 2) hx hb dX12_canPull_16 (by decide) ?_
      refine v_X12_its C hl.1 hP tw_6_39 ⟨Nat.le_of_ble_eq_true rfl, Nat.le_of_ble_eq_true rfl⟩ ⟨Nat.le_refl _, Nat.le_refl _⟩ (Nat.le_of_ble_eq_true rfl) dX12_canPull_17 hB (fun v13 hB => ?_)
      refine lv_aload_n hx hb dX12_canPull_20 rfl (lv_at hl 0 rfl) ?_
      refine lv_iload_n hx hb dX12_canPull_21 rfl (lv_at hl 2 rfl) ?_
      refine lv_iconst (v := 2) hx hb dX12_canPull_22 (by decide) ?_
      refine v_X12_its C hl.1 hP tw_6_39 ⟨Nat.le_of_ble_eq_true rfl, Nat.le_of_ble_eq_true rfl⟩ ⟨Nat.le_refl _, Nat.le_refl _⟩ (Nat.le_of_ble_eq_true rfl) dX12_canPull_23 hB (fun v14 hB => ?_)
      refine lv_icmp_ne (tgt := 33) hx hb dX12_canPull_26 (by decide) (fun q15 => ?_) (fun q15 => ?_)
      · have hB := hB.1 q15
        refine lv_iconst (v := 0) hx hb dX12_canPull_33 (by decide) ?_
        exact w_X12_canPull_34 C hr hlk hP (lv_sub hl [0, 1, 2] rfl) hB
      · have hB := hB.2 q15
        refine lv_iconst (v := 1) hx hb dX12_canPull_29 (by decide) ?_
        refine lv_goto (tgt := 34) hx hb dX12_canPull_30 (by decide) ?_
        exact w_X12_canPull_34 C hr hlk hP (lv_sub hl [0, 1, 2] rfl) hB
set_option maxRecDepth 100000 in
set_option maxHeartbeats 4000000 in
theorem v_X12_canPull {M : Mem} {x1 : Int32} {x2 : Int32} {Q1 : Int32 → Prop} (C : Cx T D p s m args c cc nL own) (hls : ls.size = nL) (hP : Pw EM T D ad 16 M H) (hlink : Cond.methodLink own index yX12_canPull ∈ TB) (hR : 2 + 1 ≤ R.frames ∧ 8 + (4 + 11) + 48 * 2 ≤ R.locals) (hcs : cells ≤ R.cells ∧ slots ≤ R.slots) (hcat : (rest.map fun v => v.category).sum ≤ 8) (hdg : decode cc pc = .ok (.invokevirtual index, 3)) (hB : P_X12_canPull M x1 x2 Q1)
    (kk : ∀ r : Int32, Q1 r → W p l e R s m args below meth c H locs cells slots QQ (F0 m (pc + 3) ls (.int r :: rest))) : W p l e R s m args below meth c H locs cells slots QQ (F0 m pc ls (.int x2 :: .int x1 :: .ref (ad 0) :: rest)) :=
  k_V (ci := 12) (n := 2) (c_X12_canPull hB) tw_6_86 tw_6_85 tw_s_39 tw_1_12 ⟨rfl, by decide, by decide, by decide +kernel⟩ rfl rfl C hls hP oM hlink hR hcs hcat rfl hdg kk
def P_X12_pulls (M : Mem) (x1 : Int32) (x2 : Int32) (Q1 : Mem → Prop) : Prop :=
  P_X12_its M x1 1 (fun v1 => P_X12_puts M x1 1 (v1 + 1) (fun M2 => P_X12_its M2 x2 1 (fun v3 => P_X12_puts M2 x2 1 (v3 - 1) (fun M4 => Q1 M4))))
set_option maxRecDepth 100000 in
set_option maxHeartbeats 4000000 in
theorem c_X12_pulls {l : Launch} {T : Nat → ClassId} {D : va_G} {ad : Nat → Nat} {M : Mem} {x1 : Int32} {x2 : Int32} {sz : Nat} {Q1 : Mem → Prop} (hB : P_X12_pulls M x1 x2 Q1) : Met l yX12_pulls (Cond.code yX12_pulls cX12_pulls 3 none :: TB) (RM 2) (va_Pc [.ref (ad 0), .int x1, .int x2] (WrP EM T D ad 16 M sz)) (QcV EM T D ad 16 (AA ad 16 sz) Q1) 0 0 (AA ad 16 sz) := by
  refine st_W (by decide) (Nat.le_of_ble_eq_true rfl) (fun p e s m args below meth c ls C hr hlk hsz Z hl => ?_)
  have hl : lv_has ls 3 [(0, .ref (ad 0)), (1, .int x1), (2, .int x2)] := hl
  generalize AA ad 16 sz = A at Z ⊢
  have hx := C.x
  have hb := C.b
  delta P_X12_pulls at hB
  refine lv_aload_n hx hb dX12_pulls_0 rfl (lv_at hl 0 rfl) ?_
  refine lv_iload_n hx hb dX12_pulls_1 rfl (lv_at hl 1 rfl) ?_
  refine lv_iconst (v := 1) hx hb dX12_pulls_2 (by decide) ?_
  refine lv_aload_n hx hb dX12_pulls_3 rfl (lv_at hl 0 rfl) ?_
  refine lv_iload_n hx hb dX12_pulls_4 rfl (lv_at hl 1 rfl) ?_
  refine lv_iconst (v := 1) hx hb dX12_pulls_5 (by decide) ?_
  refine v_X12_its C hl.1 Z.1 tw_6_39 ⟨Nat.le_of_ble_eq_true rfl, Nat.le_of_ble_eq_true rfl⟩ ⟨Nat.le_refl _, Nat.le_refl _⟩ (Nat.le_of_ble_eq_true rfl) dX12_pulls_6 hB (fun v1 hB => ?_)
  refine lv_iconst (v := 1) hx hb dX12_pulls_9 (by decide) ?_
  refine lv_iadd hx hb dX12_pulls_10 ?_
  refine v_X12_puts C hl.1 Z tw_6_26 ⟨Nat.le_of_ble_eq_true rfl, Nat.le_of_ble_eq_true rfl⟩ ⟨Nat.le_refl _, Nat.le_refl _⟩ (Nat.le_of_ble_eq_true rfl) dX12_pulls_11 hB (fun M2 H locs hB Z => ?_)
  refine lv_aload_n hx hb dX12_pulls_14 rfl (lv_at hl 0 rfl) ?_
  refine lv_iload_n hx hb dX12_pulls_15 rfl (lv_at hl 2 rfl) ?_
  refine lv_iconst (v := 1) hx hb dX12_pulls_16 (by decide) ?_
  refine lv_aload_n hx hb dX12_pulls_17 rfl (lv_at hl 0 rfl) ?_
  refine lv_iload_n hx hb dX12_pulls_18 rfl (lv_at hl 2 rfl) ?_
  refine lv_iconst (v := 1) hx hb dX12_pulls_19 (by decide) ?_
  refine v_X12_its C hl.1 Z.1 tw_6_39 ⟨Nat.le_of_ble_eq_true rfl, Nat.le_of_ble_eq_true rfl⟩ ⟨Nat.le_refl _, Nat.le_refl _⟩ (Nat.le_of_ble_eq_true rfl) dX12_pulls_20 hB (fun v3 hB => ?_)
  refine lv_iconst (v := 1) hx hb dX12_pulls_23 (by decide) ?_
  refine lv_isub hx hb dX12_pulls_24 ?_
  refine v_X12_puts C hl.1 Z tw_6_26 ⟨Nat.le_of_ble_eq_true rfl, Nat.le_of_ble_eq_true rfl⟩ ⟨Nat.le_refl _, Nat.le_refl _⟩ (Nat.le_of_ble_eq_true rfl) dX12_pulls_25 hB (fun M4 H locs hB Z => ?_)
  exact e_vW C hr hlk Z dX12_pulls_28 hB
set_option maxRecDepth 100000 in
set_option maxHeartbeats 4000000 in
theorem v_X12_pulls {M : Mem} {x1 : Int32} {x2 : Int32} {Q1 : Mem → Prop} (C : Cx T D p s m args c cc nL own) (hls : ls.size = nL) (Z : Zz EM T D ad 16 A H0 M H locs) (hlink : Cond.methodLink own index yX12_pulls ∈ TB) (hR : 2 + 1 ≤ R.frames ∧ 8 + (3 + 11) + 48 * 2 ≤ R.locals) (hcs : cells ≤ R.cells ∧ slots ≤ R.slots) (hcat : (rest.map fun v => v.category).sum ≤ 8) (hdg : decode cc pc = .ok (.invokevirtual index, 3)) (hB : P_X12_pulls M x1 x2 Q1)
    (kk : ∀ (M1 : Mem) (H1 : Heap) (locs1 : List Loc), Q1 M1 → Zz EM T D ad 16 A H0 M1 H1 locs1 → W p l e R s m args below meth c H1 locs1 cells slots QQ (F0 m (pc + 3) ls rest)) : W p l e R s m args below meth c H locs cells slots QQ (F0 m pc ls (.int x2 :: .int x1 :: .ref (ad 0) :: rest)) :=
  k_VV (ci := 12) (n := 2) (c_X12_pulls hB) tw_6_90 tw_6_89 tw_s_40 tw_1_12 ⟨rfl, by decide, by decide, by decide +kernel⟩ rfl rfl C hls Z oM hlink hR hcs hcat rfl hdg kk
def P_X12_pull (M : Mem) (x1 : Int32) (x2 : Int32) (Q1 : Int32 → Mem → Prop) : Prop :=
  P_X12_isWindow M x1 (fun v1 => ((v1 = 0 → P_X12_finds M 1 (fun v3 M4 => Q1 v3 M4)) ∧
    (¬ v1 = 0 → P_X12_isWindow M x2 (fun v5 => ((¬ v5 = 0 → P_X12_isLocked M (fun v7 => ((¬ v7 = 0 → P_X12_finds M 3 (fun v9 M10 => Q1 v9 M10)) ∧
        (v7 = 0 → P_X12_canPull M x1 x2 (fun v11 => ((¬ v11 = 0 → P_X12_pulls M x1 x2 (fun M13 => P_X12_its M13 x1 1 (fun v14 => Q1 v14 M13))) ∧
          (v11 = 0 → P_X12_finds M 3 (fun v15 M16 => Q1 v15 M16)))))))) ∧
      (v5 = 0 → P_X12_finds M 1 (fun v17 M18 => Q1 v17 M18)))))))
set_option maxRecDepth 100000 in
set_option maxHeartbeats 4000000 in
theorem c_X12_pull {l : Launch} {T : Nat → ClassId} {D : va_G} {ad : Nat → Nat} {M : Mem} {x1 : Int32} {x2 : Int32} {sz : Nat} {Q1 : Int32 → Mem → Prop} (hB : P_X12_pull M x1 x2 Q1) : Met l yX12_pull (Cond.code yX12_pull cX12_pull 3 (some .int) :: TB) (RM 3) (va_Pc [.ref (ad 0), .int x1, .int x2] (WrP EM T D ad 16 M sz)) (QcW EM T D ad 16 (AA ad 16 sz) Q1) 0 0 (AA ad 16 sz) := by
  refine st_W (by decide) (Nat.le_of_ble_eq_true rfl) (fun p e s m args below meth c ls C hr hlk hsz Z hl => ?_)
  have hl : lv_has ls 3 [(0, .ref (ad 0)), (1, .int x1), (2, .int x2)] := hl
  generalize AA ad 16 sz = A at Z ⊢
  have hx := C.x
  have hb := C.b
  delta P_X12_pull at hB
  refine lv_aload_n hx hb dX12_pull_0 rfl (lv_at hl 0 rfl) ?_
  refine lv_iload_n hx hb dX12_pull_1 rfl (lv_at hl 1 rfl) ?_
  refine v_X12_isWindow C hl.1 Z.1 tw_6_51 ⟨Nat.le_of_ble_eq_true rfl, Nat.le_of_ble_eq_true rfl⟩ ⟨Nat.le_refl _, Nat.le_refl _⟩ (Nat.le_of_ble_eq_true rfl) dX12_pull_2 hB (fun v1 hB => ?_)
  refine lv_if_eq (tgt := 16) hx hb dX12_pull_5 (by decide) (fun q2 => ?_) (fun q2 => ?_)
  · have hB := hB.1 q2
    refine lv_aload_n hx hb dX12_pull_16 rfl (lv_at hl 0 rfl) ?_
    refine lv_iconst (v := 1) hx hb dX12_pull_17 (by decide) ?_
    refine v_X12_finds C hl.1 Z tw_5_194 ⟨Nat.le_of_ble_eq_true rfl, Nat.le_of_ble_eq_true rfl⟩ ⟨Nat.le_refl _, Nat.le_refl _⟩ (Nat.le_of_ble_eq_true rfl) dX12_pull_18 hB (fun v3 M4 H locs hB Z => ?_)
    exact e_iW C hr hlk Z dX12_pull_21 hB
  · have hB := hB.2 q2
    refine lv_aload_n hx hb dX12_pull_8 rfl (lv_at hl 0 rfl) ?_
    refine lv_iload_n hx hb dX12_pull_9 rfl (lv_at hl 2 rfl) ?_
    refine v_X12_isWindow C hl.1 Z.1 tw_6_51 ⟨Nat.le_of_ble_eq_true rfl, Nat.le_of_ble_eq_true rfl⟩ ⟨Nat.le_refl _, Nat.le_refl _⟩ (Nat.le_of_ble_eq_true rfl) dX12_pull_10 hB (fun v5 hB => ?_)
    refine lv_if_ne (tgt := 22) hx hb dX12_pull_13 (by decide) (fun q6 => ?_) (fun q6 => ?_)
    · have hB := hB.1 q6
      refine lv_aload_n hx hb dX12_pull_22 rfl (lv_at hl 0 rfl) ?_
      refine v_X12_isLocked C hl.1 Z.1 tw_6_79 ⟨Nat.le_of_ble_eq_true rfl, Nat.le_of_ble_eq_true rfl⟩ ⟨Nat.le_refl _, Nat.le_refl _⟩ (Nat.le_of_ble_eq_true rfl) dX12_pull_23 hB (fun v7 hB => ?_)
      refine lv_if_ne (tgt := 38) hx hb dX12_pull_26 (by decide) (fun q8 => ?_) (fun q8 => ?_)
      · have hB := hB.1 q8
        refine lv_aload_n hx hb dX12_pull_38 rfl (lv_at hl 0 rfl) ?_
        refine lv_iconst (v := 3) hx hb dX12_pull_39 (by decide) ?_
        refine v_X12_finds C hl.1 Z tw_5_194 ⟨Nat.le_of_ble_eq_true rfl, Nat.le_of_ble_eq_true rfl⟩ ⟨Nat.le_refl _, Nat.le_refl _⟩ (Nat.le_of_ble_eq_true rfl) dX12_pull_40 hB (fun v9 M10 H locs hB Z => ?_)
        exact e_iW C hr hlk Z dX12_pull_43 hB
      · have hB := hB.2 q8
        refine lv_aload_n hx hb dX12_pull_29 rfl (lv_at hl 0 rfl) ?_
        refine lv_iload_n hx hb dX12_pull_30 rfl (lv_at hl 1 rfl) ?_
        refine lv_iload_n hx hb dX12_pull_31 rfl (lv_at hl 2 rfl) ?_
        refine v_X12_canPull C hl.1 Z.1 tw_6_83 ⟨Nat.le_of_ble_eq_true rfl, Nat.le_of_ble_eq_true rfl⟩ ⟨Nat.le_refl _, Nat.le_refl _⟩ (Nat.le_of_ble_eq_true rfl) dX12_pull_32 hB (fun v11 hB => ?_)
        refine lv_if_ne (tgt := 44) hx hb dX12_pull_35 (by decide) (fun q12 => ?_) (fun q12 => ?_)
        · have hB := hB.1 q12
          refine lv_aload_n hx hb dX12_pull_44 rfl (lv_at hl 0 rfl) ?_
          refine lv_iload_n hx hb dX12_pull_45 rfl (lv_at hl 1 rfl) ?_
          refine lv_iload_n hx hb dX12_pull_46 rfl (lv_at hl 2 rfl) ?_
          refine v_X12_pulls C hl.1 Z tw_6_87 ⟨Nat.le_of_ble_eq_true rfl, Nat.le_of_ble_eq_true rfl⟩ ⟨Nat.le_refl _, Nat.le_refl _⟩ (Nat.le_of_ble_eq_true rfl) dX12_pull_47 hB (fun M13 H locs hB Z => ?_)
          refine lv_aload_n hx hb dX12_pull_50 rfl (lv_at hl 0 rfl) ?_
          refine lv_iload_n hx hb dX12_pull_51 rfl (lv_at hl 1 rfl) ?_
          refine lv_iconst (v := 1) hx hb dX12_pull_52 (by decide) ?_
          refine v_X12_its C hl.1 Z.1 tw_6_39 ⟨Nat.le_of_ble_eq_true rfl, Nat.le_of_ble_eq_true rfl⟩ ⟨Nat.le_refl _, Nat.le_refl _⟩ (Nat.le_of_ble_eq_true rfl) dX12_pull_53 hB (fun v14 hB => ?_)
          exact e_iW C hr hlk Z dX12_pull_56 hB
        · have hB := hB.2 q12
          refine lv_aload_n hx hb dX12_pull_38 rfl (lv_at hl 0 rfl) ?_
          refine lv_iconst (v := 3) hx hb dX12_pull_39 (by decide) ?_
          refine v_X12_finds C hl.1 Z tw_5_194 ⟨Nat.le_of_ble_eq_true rfl, Nat.le_of_ble_eq_true rfl⟩ ⟨Nat.le_refl _, Nat.le_refl _⟩ (Nat.le_of_ble_eq_true rfl) dX12_pull_40 hB (fun v15 M16 H locs hB Z => ?_)
          exact e_iW C hr hlk Z dX12_pull_43 hB
    · have hB := hB.2 q6
      refine lv_aload_n hx hb dX12_pull_16 rfl (lv_at hl 0 rfl) ?_
      refine lv_iconst (v := 1) hx hb dX12_pull_17 (by decide) ?_
      refine v_X12_finds C hl.1 Z tw_5_194 ⟨Nat.le_of_ble_eq_true rfl, Nat.le_of_ble_eq_true rfl⟩ ⟨Nat.le_refl _, Nat.le_refl _⟩ (Nat.le_of_ble_eq_true rfl) dX12_pull_18 hB (fun v17 M18 H locs hB Z => ?_)
      exact e_iW C hr hlk Z dX12_pull_21 hB
set_option maxRecDepth 100000 in
set_option maxHeartbeats 4000000 in
theorem v_X12_pull {M : Mem} {x1 : Int32} {x2 : Int32} {Q1 : Int32 → Mem → Prop} (C : Cx T D p s m args c cc nL own) (hls : ls.size = nL) (Z : Zz EM T D ad 16 A H0 M H locs) (hlink : Cond.methodLink own index yX12_pull ∈ TB) (hR : 3 + 1 ≤ R.frames ∧ 8 + (3 + 11) + 48 * 3 ≤ R.locals) (hcs : cells ≤ R.cells ∧ slots ≤ R.slots) (hcat : (rest.map fun v => v.category).sum ≤ 8) (hdg : decode cc pc = .ok (.invokevirtual index, 3)) (hB : P_X12_pull M x1 x2 Q1)
    (kk : ∀ (r : Int32) (M1 : Mem) (H1 : Heap) (locs1 : List Loc), Q1 r M1 → Zz EM T D ad 16 A H0 M1 H1 locs1 → W p l e R s m args below meth c H1 locs1 cells slots QQ (F0 m (pc + 3) ls (.int r :: rest))) : W p l e R s m args below meth c H locs cells slots QQ (F0 m pc ls (.int x2 :: .int x1 :: .ref (ad 0) :: rest)) :=
  k_VW (ci := 12) (n := 2) (c_X12_pull hB) tw_6_78 tw_6_76 tw_6_77 tw_1_12 ⟨rfl, by decide, by decide, by decide +kernel⟩ rfl rfl C hls Z oM hlink hR hcs hcat rfl hdg kk
def P_X12_swaps (M : Mem) (x1 : Int32) (x2 : Int32) (Q1 : Mem → Prop) : Prop :=
  P_X12_its M x1 2 (fun v1 => P_X12_its M x2 2 (fun v2 => P_X12_puts M x1 2 v2 (fun M3 => P_X12_puts M3 x2 2 v1 (fun M4 => Q1 M4))))
set_option maxRecDepth 100000 in
set_option maxHeartbeats 4000000 in
theorem c_X12_swaps {l : Launch} {T : Nat → ClassId} {D : va_G} {ad : Nat → Nat} {M : Mem} {x1 : Int32} {x2 : Int32} {sz : Nat} {Q1 : Mem → Prop} (hB : P_X12_swaps M x1 x2 Q1) : Met l yX12_swaps (Cond.code yX12_swaps cX12_swaps 4 none :: TB) (RM 2) (va_Pc [.ref (ad 0), .int x1, .int x2] (WrP EM T D ad 16 M sz)) (QcV EM T D ad 16 (AA ad 16 sz) Q1) 0 0 (AA ad 16 sz) := by
  refine st_W (by decide) (Nat.le_of_ble_eq_true rfl) (fun p e s m args below meth c ls C hr hlk hsz Z hl => ?_)
  have hl : lv_has ls 4 [(0, .ref (ad 0)), (1, .int x1), (2, .int x2)] := hl
  generalize AA ad 16 sz = A at Z ⊢
  have hx := C.x
  have hb := C.b
  delta P_X12_swaps at hB
  refine lv_aload_n hx hb dX12_swaps_0 rfl (lv_at hl 0 rfl) ?_
  refine lv_iload_n hx hb dX12_swaps_1 rfl (lv_at hl 1 rfl) ?_
  refine lv_iconst (v := 2) hx hb dX12_swaps_2 (by decide) ?_
  refine v_X12_its C hl.1 Z.1 tw_6_39 ⟨Nat.le_of_ble_eq_true rfl, Nat.le_of_ble_eq_true rfl⟩ ⟨Nat.le_refl _, Nat.le_refl _⟩ (Nat.le_of_ble_eq_true rfl) dX12_swaps_3 hB (fun v1 hB => ?_)
  refine lv_istore_n (lv' := [(3, .int v1), (0, .ref (ad 0)), (1, .int x1), (2, .int x2)]) hx hb dX12_swaps_6 rfl hl (by decide) rfl (fun ls hl => ?_)
  refine lv_aload_n hx hb dX12_swaps_7 rfl (lv_at hl 1 rfl) ?_
  refine lv_iload_n hx hb dX12_swaps_8 rfl (lv_at hl 2 rfl) ?_
  refine lv_iconst (v := 2) hx hb dX12_swaps_9 (by decide) ?_
  refine lv_aload_n hx hb dX12_swaps_10 rfl (lv_at hl 1 rfl) ?_
  refine lv_iload_n hx hb dX12_swaps_11 rfl (lv_at hl 3 rfl) ?_
  refine lv_iconst (v := 2) hx hb dX12_swaps_12 (by decide) ?_
  refine v_X12_its C hl.1 Z.1 tw_6_39 ⟨Nat.le_of_ble_eq_true rfl, Nat.le_of_ble_eq_true rfl⟩ ⟨Nat.le_refl _, Nat.le_refl _⟩ (Nat.le_of_ble_eq_true rfl) dX12_swaps_13 hB (fun v2 hB => ?_)
  refine v_X12_puts C hl.1 Z tw_6_26 ⟨Nat.le_of_ble_eq_true rfl, Nat.le_of_ble_eq_true rfl⟩ ⟨Nat.le_refl _, Nat.le_refl _⟩ (Nat.le_of_ble_eq_true rfl) dX12_swaps_16 hB (fun M3 H locs hB Z => ?_)
  refine lv_aload_n hx hb dX12_swaps_19 rfl (lv_at hl 1 rfl) ?_
  refine lv_iload_n hx hb dX12_swaps_20 rfl (lv_at hl 3 rfl) ?_
  refine lv_iconst (v := 2) hx hb dX12_swaps_21 (by decide) ?_
  refine lv_iload_n hx hb dX12_swaps_22 rfl (lv_at hl 0 rfl) ?_
  refine v_X12_puts C hl.1 Z tw_6_26 ⟨Nat.le_of_ble_eq_true rfl, Nat.le_of_ble_eq_true rfl⟩ ⟨Nat.le_refl _, Nat.le_refl _⟩ (Nat.le_of_ble_eq_true rfl) dX12_swaps_23 hB (fun M4 H locs hB Z => ?_)
  exact e_vW C hr hlk Z dX12_swaps_26 hB
set_option maxRecDepth 100000 in
set_option maxHeartbeats 4000000 in
theorem v_X12_swaps {M : Mem} {x1 : Int32} {x2 : Int32} {Q1 : Mem → Prop} (C : Cx T D p s m args c cc nL own) (hls : ls.size = nL) (Z : Zz EM T D ad 16 A H0 M H locs) (hlink : Cond.methodLink own index yX12_swaps ∈ TB) (hR : 2 + 1 ≤ R.frames ∧ 8 + (4 + 11) + 48 * 2 ≤ R.locals) (hcs : cells ≤ R.cells ∧ slots ≤ R.slots) (hcat : (rest.map fun v => v.category).sum ≤ 8) (hdg : decode cc pc = .ok (.invokevirtual index, 3)) (hB : P_X12_swaps M x1 x2 Q1)
    (kk : ∀ (M1 : Mem) (H1 : Heap) (locs1 : List Loc), Q1 M1 → Zz EM T D ad 16 A H0 M1 H1 locs1 → W p l e R s m args below meth c H1 locs1 cells slots QQ (F0 m (pc + 3) ls rest)) : W p l e R s m args below meth c H locs cells slots QQ (F0 m pc ls (.int x2 :: .int x1 :: .ref (ad 0) :: rest)) :=
  k_VV (ci := 12) (n := 2) (c_X12_swaps hB) tw_6_98 tw_6_97 tw_s_41 tw_1_12 ⟨rfl, by decide, by decide, by decide +kernel⟩ rfl rfl C hls Z oM hlink hR hcs hcat rfl hdg kk
def P_X12_swap (M : Mem) (x1 : Int32) (x2 : Int32) (Q1 : Int32 → Mem → Prop) : Prop :=
  P_X12_isWindow M x1 (fun v1 => ((v1 = 0 → P_X12_finds M 1 (fun v3 M4 => Q1 v3 M4)) ∧
    (¬ v1 = 0 → P_X12_isWindow M x2 (fun v5 => ((¬ v5 = 0 → P_X12_swaps M x1 x2 (fun M7 => Q1 1 M7)) ∧
      (v5 = 0 → P_X12_finds M 1 (fun v8 M9 => Q1 v8 M9)))))))
set_option maxRecDepth 100000 in
set_option maxHeartbeats 4000000 in
theorem c_X12_swap {l : Launch} {T : Nat → ClassId} {D : va_G} {ad : Nat → Nat} {M : Mem} {x1 : Int32} {x2 : Int32} {sz : Nat} {Q1 : Int32 → Mem → Prop} (hB : P_X12_swap M x1 x2 Q1) : Met l yX12_swap (Cond.code yX12_swap cX12_swap 3 (some .int) :: TB) (RM 3) (va_Pc [.ref (ad 0), .int x1, .int x2] (WrP EM T D ad 16 M sz)) (QcW EM T D ad 16 (AA ad 16 sz) Q1) 0 0 (AA ad 16 sz) := by
  refine st_W (by decide) (Nat.le_of_ble_eq_true rfl) (fun p e s m args below meth c ls C hr hlk hsz Z hl => ?_)
  have hl : lv_has ls 3 [(0, .ref (ad 0)), (1, .int x1), (2, .int x2)] := hl
  generalize AA ad 16 sz = A at Z ⊢
  have hx := C.x
  have hb := C.b
  delta P_X12_swap at hB
  refine lv_aload_n hx hb dX12_swap_0 rfl (lv_at hl 0 rfl) ?_
  refine lv_iload_n hx hb dX12_swap_1 rfl (lv_at hl 1 rfl) ?_
  refine v_X12_isWindow C hl.1 Z.1 tw_6_51 ⟨Nat.le_of_ble_eq_true rfl, Nat.le_of_ble_eq_true rfl⟩ ⟨Nat.le_refl _, Nat.le_refl _⟩ (Nat.le_of_ble_eq_true rfl) dX12_swap_2 hB (fun v1 hB => ?_)
  refine lv_if_eq (tgt := 16) hx hb dX12_swap_5 (by decide) (fun q2 => ?_) (fun q2 => ?_)
  · have hB := hB.1 q2
    refine lv_aload_n hx hb dX12_swap_16 rfl (lv_at hl 0 rfl) ?_
    refine lv_iconst (v := 1) hx hb dX12_swap_17 (by decide) ?_
    refine v_X12_finds C hl.1 Z tw_5_194 ⟨Nat.le_of_ble_eq_true rfl, Nat.le_of_ble_eq_true rfl⟩ ⟨Nat.le_refl _, Nat.le_refl _⟩ (Nat.le_of_ble_eq_true rfl) dX12_swap_18 hB (fun v3 M4 H locs hB Z => ?_)
    exact e_iW C hr hlk Z dX12_swap_21 hB
  · have hB := hB.2 q2
    refine lv_aload_n hx hb dX12_swap_8 rfl (lv_at hl 0 rfl) ?_
    refine lv_iload_n hx hb dX12_swap_9 rfl (lv_at hl 2 rfl) ?_
    refine v_X12_isWindow C hl.1 Z.1 tw_6_51 ⟨Nat.le_of_ble_eq_true rfl, Nat.le_of_ble_eq_true rfl⟩ ⟨Nat.le_refl _, Nat.le_refl _⟩ (Nat.le_of_ble_eq_true rfl) dX12_swap_10 hB (fun v5 hB => ?_)
    refine lv_if_ne (tgt := 22) hx hb dX12_swap_13 (by decide) (fun q6 => ?_) (fun q6 => ?_)
    · have hB := hB.1 q6
      refine lv_aload_n hx hb dX12_swap_22 rfl (lv_at hl 0 rfl) ?_
      refine lv_iload_n hx hb dX12_swap_23 rfl (lv_at hl 1 rfl) ?_
      refine lv_iload_n hx hb dX12_swap_24 rfl (lv_at hl 2 rfl) ?_
      refine v_X12_swaps C hl.1 Z tw_6_95 ⟨Nat.le_of_ble_eq_true rfl, Nat.le_of_ble_eq_true rfl⟩ ⟨Nat.le_refl _, Nat.le_refl _⟩ (Nat.le_of_ble_eq_true rfl) dX12_swap_25 hB (fun M7 H locs hB Z => ?_)
      refine lv_iconst (v := 1) hx hb dX12_swap_28 (by decide) ?_
      exact e_iW C hr hlk Z dX12_swap_29 hB
    · have hB := hB.2 q6
      refine lv_aload_n hx hb dX12_swap_16 rfl (lv_at hl 0 rfl) ?_
      refine lv_iconst (v := 1) hx hb dX12_swap_17 (by decide) ?_
      refine v_X12_finds C hl.1 Z tw_5_194 ⟨Nat.le_of_ble_eq_true rfl, Nat.le_of_ble_eq_true rfl⟩ ⟨Nat.le_refl _, Nat.le_refl _⟩ (Nat.le_of_ble_eq_true rfl) dX12_swap_18 hB (fun v8 M9 H locs hB Z => ?_)
      exact e_iW C hr hlk Z dX12_swap_21 hB
set_option maxRecDepth 100000 in
set_option maxHeartbeats 4000000 in
theorem v_X12_swap {M : Mem} {x1 : Int32} {x2 : Int32} {Q1 : Int32 → Mem → Prop} (C : Cx T D p s m args c cc nL own) (hls : ls.size = nL) (Z : Zz EM T D ad 16 A H0 M H locs) (hlink : Cond.methodLink own index yX12_swap ∈ TB) (hR : 3 + 1 ≤ R.frames ∧ 8 + (3 + 11) + 48 * 3 ≤ R.locals) (hcs : cells ≤ R.cells ∧ slots ≤ R.slots) (hcat : (rest.map fun v => v.category).sum ≤ 8) (hdg : decode cc pc = .ok (.invokevirtual index, 3)) (hB : P_X12_swap M x1 x2 Q1)
    (kk : ∀ (r : Int32) (M1 : Mem) (H1 : Heap) (locs1 : List Loc), Q1 r M1 → Zz EM T D ad 16 A H0 M1 H1 locs1 → W p l e R s m args below meth c H1 locs1 cells slots QQ (F0 m (pc + 3) ls (.int r :: rest))) : W p l e R s m args below meth c H locs cells slots QQ (F0 m pc ls (.int x2 :: .int x1 :: .ref (ad 0) :: rest)) :=
  k_VW (ci := 12) (n := 2) (c_X12_swap hB) tw_6_94 tw_6_92 tw_6_93 tw_1_12 ⟨rfl, by decide, by decide, by decide +kernel⟩ rfl rfl C hls Z oM hlink hR hcs hcat rfl hdg kk
def B_X12_openIn_35 (M : Mem) (Q1 : Int32 → Prop) (X4 : Int32 → Int32 → Prop) (x1 : Int32) (x3 : Int32) (s0 : Int32) (s1 : Int32) : Prop :=
  ∀ x2_4 : Int32, x2_4 = s0 + s1 → ∀ x3_5 : Int32, x3_5 = x3 + 1 → X4 x2_4 x3_5
def B_X12_openIn_4 (M : Mem) (Q1 : Int32 → Prop) (x1 : Int32) (x2 : Int32) (x3 : Int32) : Prop :=
  ∀ X4 : Int32 → Int32 → Prop, (∀ (x2 : Int32) (x3 : Int32), ((((M 1 0) ≤ x3 → Q1 x2) ∧
    (¬ (M 1 0) ≤ x3 → P_X12_its M x3 0 (fun v2 => ((¬ v2 = x1 → B_X12_openIn_35 M Q1 X4 x1 x3 x2 0) ∧
      (v2 = x1 → P_X12_its M x3 1 (fun v6 => B_X12_openIn_35 M Q1 X4 x1 x3 x2 v6))))))) → X4 x2 x3) → X4 x2 x3
def P_X12_openIn (M : Mem) (x1 : Int32) (Q1 : Int32 → Prop) : Prop :=
  B_X12_openIn_4 M Q1 x1 0 0
set_option maxRecDepth 100000 in
set_option maxHeartbeats 4000000 in
theorem w_X12_openIn_35 {M : Mem} {Q1 : Int32 → Prop} {X4 : Int32 → Int32 → Prop} {x1 : Int32} {x3 : Int32} {s0 : Int32} {s1 : Int32} (C : Cx T D p s m args c cX12_openIn 4 "OneOfTwoModel") (hr : meth.sig.returnType = (some .int)) (hlk : meth.locks = false) (hP : Pw EM T D ad 16 M s.heap) (hX4 : ∀ (x2 : Int32) (x3 : Int32), X4 x2 x3 → ∀ (ls : Array Slot), lv_has ls 4 [(0, .ref (ad 0)), (1, .int x1), (2, .int x2), (3, .int x3)] → W p l e (RM 2) s m args below meth c s.heap [] 0 0 (MQ below (QcR Q1) args s 0 0 (fun _ => False)) (F0 m 4 ls [])) {ls : Array Slot} (hl : lv_has ls 4 [(0, .ref (ad 0)), (1, .int x1), (3, .int x3)]) (hB : B_X12_openIn_35 M Q1 X4 x1 x3 s0 s1) : W p l e (RM 2) s m args below meth c s.heap [] 0 0 (MQ below (QcR Q1) args s 0 0 (fun _ => False)) (F0 m 35 ls [.int s1, .int s0]) := by
  have hx := C.x
  have hb := C.b
  delta B_X12_openIn_35 at hB
  refine lv_iadd hx hb dX12_openIn_35 ?_
  refine lv_topi (fun x2_4 ex2_4 => ?_)
  have hB := hB x2_4 ex2_4
  refine lv_istore_n (lv' := [(2, .int x2_4), (0, .ref (ad 0)), (1, .int x1), (3, .int x3)]) hx hb dX12_openIn_36 rfl hl (by decide) rfl (fun ls hl => ?_)
  obtain ⟨x3_5, ex3_5⟩ : ∃ y : Int32, y = x3 + 1 := ⟨_, rfl⟩
  have hB := hB x3_5 ex3_5
  refine lv_iinc (v := x3_5) (lv' := [(3, .int x3_5), (2, .int x2_4), (0, .ref (ad 0)), (1, .int x1)]) hx hb dX12_openIn_37 hl (k := 3) rfl (by rw [ex3_5]; rfl) (by decide) rfl (fun ls hl => ?_)
  refine lv_goto (tgt := 4) hx hb dX12_openIn_40 (by decide) ?_
  exact hX4 _ _ hB _ (lv_sub hl [2, 3, 1, 0] rfl)
set_option maxRecDepth 100000 in
set_option maxHeartbeats 4000000 in
theorem w_X12_openIn_4 {M : Mem} {Q1 : Int32 → Prop} {x1 : Int32} {x2 : Int32} {x3 : Int32} (C : Cx T D p s m args c cX12_openIn 4 "OneOfTwoModel") (hr : meth.sig.returnType = (some .int)) (hlk : meth.locks = false) (hP : Pw EM T D ad 16 M s.heap) {ls : Array Slot} (hl : lv_has ls 4 [(0, .ref (ad 0)), (1, .int x1), (2, .int x2), (3, .int x3)]) (hB : B_X12_openIn_4 M Q1 x1 x2 x3) : W p l e (RM 2) s m args below meth c s.heap [] 0 0 (MQ below (QcR Q1) args s 0 0 (fun _ => False)) (F0 m 4 ls []) := by
  delta B_X12_openIn_4 at hB
  obtain ⟨X4, hX4, hY4⟩ : ∃ X4 : Int32 → Int32 → Prop, (∀ (x2 : Int32) (x3 : Int32), X4 x2 x3 → ∀ (ls : Array Slot), lv_has ls 4 [(0, .ref (ad 0)), (1, .int x1), (2, .int x2), (3, .int x3)] → W p l e (RM 2) s m args below meth c s.heap [] 0 0 (MQ below (QcR Q1) args s 0 0 (fun _ => False)) (F0 m 4 ls [])) ∧ (∀ (x2 : Int32) (x3 : Int32), (∀ (ls : Array Slot), lv_has ls 4 [(0, .ref (ad 0)), (1, .int x1), (2, .int x2), (3, .int x3)] → W p l e (RM 2) s m args below meth c s.heap [] 0 0 (MQ below (QcR Q1) args s 0 0 (fun _ => False)) (F0 m 4 ls [])) → X4 x2 x3) := ⟨fun (x2 : Int32) (x3 : Int32) => ∀ (ls : Array Slot), lv_has ls 4 [(0, .ref (ad 0)), (1, .int x1), (2, .int x2), (3, .int x3)] → W p l e (RM 2) s m args below meth c s.heap [] 0 0 (MQ below (QcR Q1) args s 0 0 (fun _ => False)) (F0 m 4 ls []), fun _ _ h => h, fun _ _ h => h⟩
  refine hX4 _ _ (hB X4 (fun x2 x3 hB => hY4 _ _ (fun ls hl => ?_))) _ hl
  have hx := C.x
  have hb := C.b
  refine lv_iload_n hx hb dX12_openIn_4 rfl (lv_at hl 3 rfl) ?_
  refine lv_aload_n hx hb dX12_openIn_5 rfl (lv_at hl 0 rfl) ?_
  refine gf_X12_0 C hP tw_5_98 dX12_openIn_6 ?_
  refine lv_iconst (v := 0) hx hb dX12_openIn_9 (by decide) ?_
  refine a_ldc C hP aM_1 (vin rfl) (j := 0) rfl dX12_openIn_10 ?_
  refine lv_icmp_ge (tgt := 43) hx hb dX12_openIn_11 (by decide) (fun q1 => ?_) (fun q1 => ?_)
  · have hB := hB.1 q1
    refine lv_iload_n hx hb dX12_openIn_43 rfl (lv_at hl 2 rfl) ?_
    exact e_iR C.1 hr hlk dX12_openIn_44 hB
  · have hB := hB.2 q1
    refine lv_iload_n hx hb dX12_openIn_14 rfl (lv_at hl 2 rfl) ?_
    refine lv_aload_n hx hb dX12_openIn_15 rfl (lv_at hl 0 rfl) ?_
    refine lv_iload_n hx hb dX12_openIn_16 rfl (lv_at hl 3 rfl) ?_
    refine lv_iconst (v := 0) hx hb dX12_openIn_17 (by decide) ?_
    refine v_X12_its C hl.1 hP tw_6_39 ⟨Nat.le_of_ble_eq_true rfl, Nat.le_of_ble_eq_true rfl⟩ ⟨Nat.le_refl _, Nat.le_refl _⟩ (Nat.le_of_ble_eq_true rfl) dX12_openIn_18 hB (fun v2 hB => ?_)
    refine lv_iload_n hx hb dX12_openIn_21 rfl (lv_at hl 1 rfl) ?_
    refine lv_icmp_ne (tgt := 34) hx hb dX12_openIn_22 (by decide) (fun q3 => ?_) (fun q3 => ?_)
    · have hB := hB.1 q3
      refine lv_iconst (v := 0) hx hb dX12_openIn_34 (by decide) ?_
      exact w_X12_openIn_35 C hr hlk hP hX4 (lv_sub hl [0, 1, 3] rfl) hB
    · have hB := hB.2 q3
      refine lv_aload_n hx hb dX12_openIn_25 rfl (lv_at hl 0 rfl) ?_
      refine lv_iload_n hx hb dX12_openIn_26 rfl (lv_at hl 3 rfl) ?_
      refine lv_iconst (v := 1) hx hb dX12_openIn_27 (by decide) ?_
      refine v_X12_its C hl.1 hP tw_6_39 ⟨Nat.le_of_ble_eq_true rfl, Nat.le_of_ble_eq_true rfl⟩ ⟨Nat.le_refl _, Nat.le_refl _⟩ (Nat.le_of_ble_eq_true rfl) dX12_openIn_28 hB (fun v6 hB => ?_)
      refine lv_goto (tgt := 35) hx hb dX12_openIn_31 (by decide) ?_
      exact w_X12_openIn_35 C hr hlk hP hX4 (lv_sub hl [0, 1, 3] rfl) hB
set_option maxRecDepth 100000 in
set_option maxHeartbeats 4000000 in
theorem c_X12_openIn {l : Launch} {T : Nat → ClassId} {D : va_G} {ad : Nat → Nat} {M : Mem} {x1 : Int32} {Q1 : Int32 → Prop} (hB : P_X12_openIn M x1 Q1) : Met l yX12_openIn (Cond.code yX12_openIn cX12_openIn 4 (some .int) :: TB) (RM 2) (va_Pc [.ref (ad 0), .int x1] (RdP EM T D ad 16 M)) (QcR Q1) 0 0 (fun _ => False) := by
  refine st_R (by decide) (Nat.le_of_ble_eq_true rfl) (fun p e s m args below meth c ls C hr hlk hP hl => ?_)
  have hl : lv_has ls 4 [(0, .ref (ad 0)), (1, .int x1)] := hl
  have hx := C.x
  have hb := C.b
  delta P_X12_openIn at hB
  refine lv_iconst (v := 0) hx hb dX12_openIn_0 (by decide) ?_
  refine lv_istore_n (lv' := [(2, .int 0), (0, .ref (ad 0)), (1, .int x1)]) hx hb dX12_openIn_1 rfl hl (by decide) rfl (fun ls hl => ?_)
  refine lv_iconst (v := 0) hx hb dX12_openIn_2 (by decide) ?_
  refine lv_istore_n (lv' := [(3, .int 0), (2, .int 0), (0, .ref (ad 0)), (1, .int x1)]) hx hb dX12_openIn_3 rfl hl (by decide) rfl (fun ls hl => ?_)
  exact w_X12_openIn_4 C hr hlk hP (lv_sub hl [2, 3, 1, 0] rfl) hB
set_option maxRecDepth 100000 in
set_option maxHeartbeats 4000000 in
theorem v_X12_openIn {M : Mem} {x1 : Int32} {Q1 : Int32 → Prop} (C : Cx T D p s m args c cc nL own) (hls : ls.size = nL) (hP : Pw EM T D ad 16 M H) (hlink : Cond.methodLink own index yX12_openIn ∈ TB) (hR : 2 + 1 ≤ R.frames ∧ 8 + (4 + 11) + 48 * 2 ≤ R.locals) (hcs : cells ≤ R.cells ∧ slots ≤ R.slots) (hcat : (rest.map fun v => v.category).sum ≤ 8) (hdg : decode cc pc = .ok (.invokevirtual index, 3)) (hB : P_X12_openIn M x1 Q1)
    (kk : ∀ r : Int32, Q1 r → W p l e R s m args below meth c H locs cells slots QQ (F0 m (pc + 3) ls (.int r :: rest))) : W p l e R s m args below meth c H locs cells slots QQ (F0 m pc ls (.int x1 :: .ref (ad 0) :: rest)) :=
  k_V (ci := 12) (n := 1) (c_X12_openIn hB) tw_6_110 tw_6_109 tw_s_43 tw_1_12 ⟨rfl, by decide, by decide, by decide +kernel⟩ rfl rfl C hls hP oM hlink hR hcs hcat rfl hdg kk
def P_X12_airOf (M : Mem) (x1 : Int32) (Q1 : Int32 → Mem → Prop) : Prop :=
  P_X12_openIn M x1 (fun v1 => P_X12_openIn M (x1 - 1) (fun v2 => P_X12_openIn M (x1 + 1) (fun v3 => P_X12_textGives M 0 v1 (v2 + v3) (M 1 3) (fun v4 M5 => Q1 v4 M5))))
set_option maxRecDepth 100000 in
set_option maxHeartbeats 4000000 in
theorem c_X12_airOf {l : Launch} {T : Nat → ClassId} {D : va_G} {ad : Nat → Nat} {M : Mem} {x1 : Int32} {sz : Nat} {Q1 : Int32 → Mem → Prop} (hB : P_X12_airOf M x1 Q1) : Met l yX12_airOf (Cond.code yX12_airOf cX12_airOf 2 (some .int) :: TB) (RM 52) (va_Pc [.ref (ad 0), .int x1] (WrP EM T D ad 16 M sz)) (QcW EM T D ad 16 (AA ad 16 sz) Q1) 0 0 (AA ad 16 sz) := by
  refine st_W (by decide) (Nat.le_of_ble_eq_true rfl) (fun p e s m args below meth c ls C hr hlk hsz Z hl => ?_)
  have hl : lv_has ls 2 [(0, .ref (ad 0)), (1, .int x1)] := hl
  generalize AA ad 16 sz = A at Z ⊢
  have hx := C.x
  have hb := C.b
  delta P_X12_airOf at hB
  refine lv_aload_n hx hb dX12_airOf_0 rfl (lv_at hl 0 rfl) ?_
  refine lv_iconst (v := 0) hx hb dX12_airOf_1 (by decide) ?_
  refine lv_aload_n hx hb dX12_airOf_2 rfl (lv_at hl 0 rfl) ?_
  refine lv_iload_n hx hb dX12_airOf_3 rfl (lv_at hl 1 rfl) ?_
  refine v_X12_openIn C hl.1 Z.1 tw_6_107 ⟨Nat.le_of_ble_eq_true rfl, Nat.le_of_ble_eq_true rfl⟩ ⟨Nat.le_refl _, Nat.le_refl _⟩ (Nat.le_of_ble_eq_true rfl) dX12_airOf_4 hB (fun v1 hB => ?_)
  refine lv_aload_n hx hb dX12_airOf_7 rfl (lv_at hl 0 rfl) ?_
  refine lv_iload_n hx hb dX12_airOf_8 rfl (lv_at hl 1 rfl) ?_
  refine lv_iconst (v := 1) hx hb dX12_airOf_9 (by decide) ?_
  refine lv_isub hx hb dX12_airOf_10 ?_
  refine v_X12_openIn C hl.1 Z.1 tw_6_107 ⟨Nat.le_of_ble_eq_true rfl, Nat.le_of_ble_eq_true rfl⟩ ⟨Nat.le_refl _, Nat.le_refl _⟩ (Nat.le_of_ble_eq_true rfl) dX12_airOf_11 hB (fun v2 hB => ?_)
  refine lv_aload_n hx hb dX12_airOf_14 rfl (lv_at hl 0 rfl) ?_
  refine lv_iload_n hx hb dX12_airOf_15 rfl (lv_at hl 1 rfl) ?_
  refine lv_iconst (v := 1) hx hb dX12_airOf_16 (by decide) ?_
  refine lv_iadd hx hb dX12_airOf_17 ?_
  refine v_X12_openIn C hl.1 Z.1 tw_6_107 ⟨Nat.le_of_ble_eq_true rfl, Nat.le_of_ble_eq_true rfl⟩ ⟨Nat.le_refl _, Nat.le_refl _⟩ (Nat.le_of_ble_eq_true rfl) dX12_airOf_18 hB (fun v3 hB => ?_)
  refine lv_iadd hx hb dX12_airOf_21 ?_
  refine lv_aload_n hx hb dX12_airOf_22 rfl (lv_at hl 0 rfl) ?_
  refine gf_X12_0 C Z.1 tw_5_98 dX12_airOf_23 ?_
  refine lv_iconst (v := 3) hx hb dX12_airOf_26 (by decide) ?_
  refine a_ldc C Z.1 aM_1 (vin rfl) (j := 3) rfl dX12_airOf_27 ?_
  refine v_X12_textGives C hl.1 Z tw_6_14 ⟨Nat.le_of_ble_eq_true rfl, Nat.le_of_ble_eq_true rfl⟩ ⟨Nat.le_refl _, Nat.le_refl _⟩ (Nat.le_of_ble_eq_true rfl) dX12_airOf_28 hB (fun v4 M5 H locs hB Z => ?_)
  exact e_iW C hr hlk Z dX12_airOf_31 hB
set_option maxRecDepth 100000 in
set_option maxHeartbeats 4000000 in
theorem v_X12_airOf {M : Mem} {x1 : Int32} {Q1 : Int32 → Mem → Prop} (C : Cx T D p s m args c cc nL own) (hls : ls.size = nL) (Z : Zz EM T D ad 16 A H0 M H locs) (hlink : Cond.methodLink own index yX12_airOf ∈ TB) (hR : 52 + 1 ≤ R.frames ∧ 8 + (2 + 11) + 48 * 52 ≤ R.locals) (hcs : cells ≤ R.cells ∧ slots ≤ R.slots) (hcat : (rest.map fun v => v.category).sum ≤ 8) (hdg : decode cc pc = .ok (.invokevirtual index, 3)) (hB : P_X12_airOf M x1 Q1)
    (kk : ∀ (r : Int32) (M1 : Mem) (H1 : Heap) (locs1 : List Loc), Q1 r M1 → Zz EM T D ad 16 A H0 M1 H1 locs1 → W p l e R s m args below meth c H1 locs1 cells slots QQ (F0 m (pc + 3) ls (.int r :: rest))) : W p l e R s m args below meth c H locs cells slots QQ (F0 m pc ls (.int x1 :: .ref (ad 0) :: rest)) :=
  k_VW (ci := 12) (n := 1) (c_X12_airOf hB) tw_6_106 tw_6_105 tw_s_42 tw_1_12 ⟨rfl, by decide, by decide, by decide +kernel⟩ rfl rfl C hls Z oM hlink hR hcs hcat rfl hdg kk
def P_X12_air (M : Mem) (x1 : Int32) (Q1 : Int32 → Mem → Prop) : Prop :=
  P_X12_in (x1.toInt64) 0 8 (fun v1 => ((v1 = 0 → P_X12_finds M 1 (fun v3 M4 => Q1 v3 M4)) ∧
    (¬ v1 = 0 → P_X12_airOf M x1 (fun v5 M6 => Q1 v5 M6))))
set_option maxRecDepth 100000 in
set_option maxHeartbeats 4000000 in
theorem c_X12_air {l : Launch} {T : Nat → ClassId} {D : va_G} {ad : Nat → Nat} {M : Mem} {x1 : Int32} {sz : Nat} {Q1 : Int32 → Mem → Prop} (hB : P_X12_air M x1 Q1) : Met l yX12_air (Cond.code yX12_air cX12_air 2 (some .int) :: TB) (RM 53) (va_Pc [.ref (ad 0), .int x1] (WrP EM T D ad 16 M sz)) (QcW EM T D ad 16 (AA ad 16 sz) Q1) 0 0 (AA ad 16 sz) := by
  refine st_W (by decide) (Nat.le_of_ble_eq_true rfl) (fun p e s m args below meth c ls C hr hlk hsz Z hl => ?_)
  have hl : lv_has ls 2 [(0, .ref (ad 0)), (1, .int x1)] := hl
  generalize AA ad 16 sz = A at Z ⊢
  have hx := C.x
  have hb := C.b
  delta P_X12_air at hB
  refine lv_iload_n hx hb dX12_air_0 rfl (lv_at hl 1 rfl) ?_
  refine lv_i2l hx hb dX12_air_1 rfl ?_
  refine lv_lconst (v := 0) hx hb dX12_air_2 (by decide) ?_
  refine lv_ldc2 hx hb C.1.2.2.2.1 (C.1.2.2.2.2 _ tw_5_190) dX12_air_3 ?_
  refine v_X12_in C.1 hl.1 tw_5_191 ⟨Nat.le_of_ble_eq_true rfl, Nat.le_of_ble_eq_true rfl⟩ ⟨Nat.le_refl _, Nat.le_refl _⟩ (Nat.le_of_ble_eq_true rfl) dX12_air_6 hB (fun v1 hB => ?_)
  refine lv_if_eq (tgt := 20) hx hb dX12_air_9 (by decide) (fun q2 => ?_) (fun q2 => ?_)
  · have hB := hB.1 q2
    refine lv_aload_n hx hb dX12_air_20 rfl (lv_at hl 0 rfl) ?_
    refine lv_iconst (v := 1) hx hb dX12_air_21 (by decide) ?_
    refine v_X12_finds C hl.1 Z tw_5_194 ⟨Nat.le_of_ble_eq_true rfl, Nat.le_of_ble_eq_true rfl⟩ ⟨Nat.le_refl _, Nat.le_refl _⟩ (Nat.le_of_ble_eq_true rfl) dX12_air_22 hB (fun v3 M4 H locs hB Z => ?_)
    exact e_iW C hr hlk Z dX12_air_25 hB
  · have hB := hB.2 q2
    refine lv_aload_n hx hb dX12_air_12 rfl (lv_at hl 0 rfl) ?_
    refine lv_iload_n hx hb dX12_air_13 rfl (lv_at hl 1 rfl) ?_
    refine v_X12_airOf C hl.1 Z tw_6_103 ⟨Nat.le_of_ble_eq_true rfl, Nat.le_of_ble_eq_true rfl⟩ ⟨Nat.le_refl _, Nat.le_refl _⟩ (Nat.le_of_ble_eq_true rfl) dX12_air_14 hB (fun v5 M6 H locs hB Z => ?_)
    refine lv_goto (tgt := 25) hx hb dX12_air_17 (by decide) ?_
    exact e_iW C hr hlk Z dX12_air_25 hB
set_option maxRecDepth 100000 in
set_option maxHeartbeats 4000000 in
theorem v_X12_air {M : Mem} {x1 : Int32} {Q1 : Int32 → Mem → Prop} (C : Cx T D p s m args c cc nL own) (hls : ls.size = nL) (Z : Zz EM T D ad 16 A H0 M H locs) (hlink : Cond.methodLink own index yX12_air ∈ TB) (hR : 53 + 1 ≤ R.frames ∧ 8 + (2 + 11) + 48 * 53 ≤ R.locals) (hcs : cells ≤ R.cells ∧ slots ≤ R.slots) (hcat : (rest.map fun v => v.category).sum ≤ 8) (hdg : decode cc pc = .ok (.invokevirtual index, 3)) (hB : P_X12_air M x1 Q1)
    (kk : ∀ (r : Int32) (M1 : Mem) (H1 : Heap) (locs1 : List Loc), Q1 r M1 → Zz EM T D ad 16 A H0 M1 H1 locs1 → W p l e R s m args below meth c H1 locs1 cells slots QQ (F0 m (pc + 3) ls (.int r :: rest))) : W p l e R s m args below meth c H locs cells slots QQ (F0 m pc ls (.int x1 :: .ref (ad 0) :: rest)) :=
  k_VW (ci := 12) (n := 1) (c_X12_air hB) tw_6_102 tw_6_100 tw_6_101 tw_1_12 ⟨rfl, by decide, by decide, by decide +kernel⟩ rfl rfl C hls Z oM hlink hR hcs hcat rfl hdg kk
def B_X12_leastOf_42 (M : Mem) (Q1 : Int32 → Prop) (x1 : Int32) : Prop :=
  P_X12_of M x1 1 (fun v3 => Q1 (5 + (v3 / 2)))
def P_X12_leastOf (M : Mem) (x1 : Int32) (Q1 : Int32 → Prop) : Prop :=
  P_X12_of M x1 0 (fun v1 => ((v1 = 1 → Q1 0) ∧
    (v1 = 2 → B_X12_leastOf_42 M Q1 x1) ∧
    (v1 = 4 → Q1 4) ∧
    (v1 = 5 → B_X12_leastOf_42 M Q1 x1) ∧
    (¬ v1 = 1 → ¬ v1 = 2 → ¬ v1 = 4 → ¬ v1 = 5 → Q1 2)))
set_option maxRecDepth 100000 in
set_option maxHeartbeats 4000000 in
theorem w_X12_leastOf_42 {M : Mem} {Q1 : Int32 → Prop} {x1 : Int32} (C : Cx T D p s m args c cX12_leastOf 2 "OneOfTwoModel") (hr : meth.sig.returnType = (some .int)) (hlk : meth.locks = false) (hP : Pw EM T D ad 16 M s.heap) {ls : Array Slot} (hl : lv_has ls 2 [(0, .ref (ad 0)), (1, .int x1)]) (hB : B_X12_leastOf_42 M Q1 x1) : W p l e (RM 2) s m args below meth c s.heap [] 0 0 (MQ below (QcR Q1) args s 0 0 (fun _ => False)) (F0 m 42 ls []) := by
  have hx := C.x
  have hb := C.b
  delta B_X12_leastOf_42 at hB
  refine lv_iconst (v := 5) hx hb dX12_leastOf_42 (by decide) ?_
  refine lv_aload_n hx hb dX12_leastOf_43 rfl (lv_at hl 0 rfl) ?_
  refine lv_iload_n hx hb dX12_leastOf_44 rfl (lv_at hl 1 rfl) ?_
  refine lv_iconst (v := 1) hx hb dX12_leastOf_45 (by decide) ?_
  refine v_X12_of C hl.1 hP tw_6_133 ⟨Nat.le_of_ble_eq_true rfl, Nat.le_of_ble_eq_true rfl⟩ ⟨Nat.le_refl _, Nat.le_refl _⟩ (Nat.le_of_ble_eq_true rfl) dX12_leastOf_46 hB (fun v3 hB => ?_)
  refine lv_iconst (v := 2) hx hb dX12_leastOf_49 (by decide) ?_
  refine lv_idiv hx hb dX12_leastOf_50 (by decide) ?_
  refine lv_iadd hx hb dX12_leastOf_51 ?_
  exact e_iR C.1 hr hlk dX12_leastOf_52 hB
set_option maxRecDepth 100000 in
set_option maxHeartbeats 4000000 in
theorem c_X12_leastOf {l : Launch} {T : Nat → ClassId} {D : va_G} {ad : Nat → Nat} {M : Mem} {x1 : Int32} {Q1 : Int32 → Prop} (hB : P_X12_leastOf M x1 Q1) : Met l yX12_leastOf (Cond.code yX12_leastOf cX12_leastOf 2 (some .int) :: TB) (RM 2) (va_Pc [.ref (ad 0), .int x1] (RdP EM T D ad 16 M)) (QcR Q1) 0 0 (fun _ => False) := by
  refine st_R (by decide) (Nat.le_of_ble_eq_true rfl) (fun p e s m args below meth c ls C hr hlk hP hl => ?_)
  have hl : lv_has ls 2 [(0, .ref (ad 0)), (1, .int x1)] := hl
  have hx := C.x
  have hb := C.b
  delta P_X12_leastOf at hB
  refine lv_aload_n hx hb dX12_leastOf_0 rfl (lv_at hl 0 rfl) ?_
  refine lv_iload_n hx hb dX12_leastOf_1 rfl (lv_at hl 1 rfl) ?_
  refine lv_iconst (v := 0) hx hb dX12_leastOf_2 (by decide) ?_
  refine v_X12_of C hl.1 hP tw_6_133 ⟨Nat.le_of_ble_eq_true rfl, Nat.le_of_ble_eq_true rfl⟩ ⟨Nat.le_refl _, Nat.le_refl _⟩ (Nat.le_of_ble_eq_true rfl) dX12_leastOf_3 hB (fun v1 hB => ?_)
  by_cases q2_0 : v1 = 1
  · have hB := hB.1 q2_0
    refine lv_tableIn (off := 34) (tgt := 40) hx hb dX12_leastOf_6 (by rw [q2_0]; decide) (by rw [q2_0]; decide) (by rw [q2_0]; rfl) (by decide) ?_
    refine lv_iconst (v := 0) hx hb dX12_leastOf_40 (by decide) ?_
    exact e_iR C.1 hr hlk dX12_leastOf_41 hB
  by_cases q2_1 : v1 = 2
  · have hB := hB.2.1 q2_1
    refine lv_tableIn (off := 36) (tgt := 42) hx hb dX12_leastOf_6 (by rw [q2_1]; decide) (by rw [q2_1]; decide) (by rw [q2_1]; rfl) (by decide) ?_
    exact w_X12_leastOf_42 C hr hlk hP (lv_sub hl [0, 1] rfl) hB
  by_cases q2_2 : v1 = 4
  · have hB := hB.2.2.1 q2_2
    refine lv_tableIn (off := 47) (tgt := 53) hx hb dX12_leastOf_6 (by rw [q2_2]; decide) (by rw [q2_2]; decide) (by rw [q2_2]; rfl) (by decide) ?_
    refine lv_iconst (v := 4) hx hb dX12_leastOf_53 (by decide) ?_
    exact e_iR C.1 hr hlk dX12_leastOf_54 hB
  by_cases q2_3 : v1 = 5
  · have hB := hB.2.2.2.1 q2_3
    refine lv_tableIn (off := 36) (tgt := 42) hx hb dX12_leastOf_6 (by rw [q2_3]; decide) (by rw [q2_3]; decide) (by rw [q2_3]; rfl) (by decide) ?_
    exact w_X12_leastOf_42 C hr hlk hP (lv_sub hl [0, 1] rfl) hB
  have hB := hB.2.2.2.2 q2_0 q2_1 q2_2 q2_3
  by_cases q2_g3 : v1 = 3
  · refine lv_tableIn (off := 49) (tgt := 55) hx hb dX12_leastOf_6 (by rw [q2_g3]; decide) (by rw [q2_g3]; decide) (by rw [q2_g3]; rfl) (by decide) ?_
    refine lv_iconst (v := 2) hx hb dX12_leastOf_55 (by decide) ?_
    exact e_iR C.1 hr hlk dX12_leastOf_56 hB
  refine lv_tableOut (tgt := 55) hx hb dX12_leastOf_6 (sw_out 1 5 5 (by decide) (lt_s (lt_s (lt_s (lt_s (lt_s lt_0 q2_0) q2_1) q2_g3) q2_2) q2_3)) (by decide) ?_
  refine lv_iconst (v := 2) hx hb dX12_leastOf_55 (by decide) ?_
  exact e_iR C.1 hr hlk dX12_leastOf_56 hB
set_option maxRecDepth 100000 in
set_option maxHeartbeats 4000000 in
theorem v_X12_leastOf {M : Mem} {x1 : Int32} {Q1 : Int32 → Prop} (C : Cx T D p s m args c cc nL own) (hls : ls.size = nL) (hP : Pw EM T D ad 16 M H) (hlink : Cond.methodLink own index yX12_leastOf ∈ TB) (hR : 2 + 1 ≤ R.frames ∧ 8 + (2 + 11) + 48 * 2 ≤ R.locals) (hcs : cells ≤ R.cells ∧ slots ≤ R.slots) (hcat : (rest.map fun v => v.category).sum ≤ 8) (hdg : decode cc pc = .ok (.invokevirtual index, 3)) (hB : P_X12_leastOf M x1 Q1)
    (kk : ∀ r : Int32, Q1 r → W p l e R s m args below meth c H locs cells slots QQ (F0 m (pc + 3) ls (.int r :: rest))) : W p l e R s m args below meth c H locs cells slots QQ (F0 m pc ls (.int x1 :: .ref (ad 0) :: rest)) :=
  k_V (ci := 12) (n := 1) (c_X12_leastOf hB) tw_6_132 tw_6_131 tw_s_46 tw_1_12 ⟨rfl, by decide, by decide, by decide +kernel⟩ rfl rfl C hls hP oM hlink hR hcs hcat rfl hdg kk
def B_X12_mostOf_61 (M : Mem) (Q1 : Int32 → Prop) (x1 : Int32) : Prop :=
  P_X12_of M x1 1 (fun v5 => Q1 (9 + v5))
def P_X12_mostOf (M : Mem) (x1 : Int32) (Q1 : Int32 → Prop) : Prop :=
  P_X12_of M x1 0 (fun v1 => ((v1 = 1 → P_X12_of M x1 1 (fun v3 => Q1 (3 + v3))) ∧
    (v1 = 2 → Q1 99) ∧
    (v1 = 4 → P_X12_of M x1 1 (fun v4 => Q1 (4 + v4))) ∧
    (v1 = 5 → Q1 99) ∧
    (¬ v1 = 1 → ¬ v1 = 2 → ¬ v1 = 4 → ¬ v1 = 5 → B_X12_mostOf_61 M Q1 x1)))
set_option maxRecDepth 100000 in
set_option maxHeartbeats 4000000 in
theorem w_X12_mostOf_61 {M : Mem} {Q1 : Int32 → Prop} {x1 : Int32} (C : Cx T D p s m args c cX12_mostOf 2 "OneOfTwoModel") (hr : meth.sig.returnType = (some .int)) (hlk : meth.locks = false) (hP : Pw EM T D ad 16 M s.heap) {ls : Array Slot} (hl : lv_has ls 2 [(0, .ref (ad 0)), (1, .int x1)]) (hB : B_X12_mostOf_61 M Q1 x1) : W p l e (RM 2) s m args below meth c s.heap [] 0 0 (MQ below (QcR Q1) args s 0 0 (fun _ => False)) (F0 m 61 ls []) := by
  have hx := C.x
  have hb := C.b
  delta B_X12_mostOf_61 at hB
  refine lv_bipush (v := 9) hx hb dX12_mostOf_61 (by decide) ?_
  refine lv_aload_n hx hb dX12_mostOf_63 rfl (lv_at hl 0 rfl) ?_
  refine lv_iload_n hx hb dX12_mostOf_64 rfl (lv_at hl 1 rfl) ?_
  refine lv_iconst (v := 1) hx hb dX12_mostOf_65 (by decide) ?_
  refine v_X12_of C hl.1 hP tw_6_133 ⟨Nat.le_of_ble_eq_true rfl, Nat.le_of_ble_eq_true rfl⟩ ⟨Nat.le_refl _, Nat.le_refl _⟩ (Nat.le_of_ble_eq_true rfl) dX12_mostOf_66 hB (fun v5 hB => ?_)
  refine lv_iadd hx hb dX12_mostOf_69 ?_
  exact e_iR C.1 hr hlk dX12_mostOf_70 hB
set_option maxRecDepth 100000 in
set_option maxHeartbeats 4000000 in
theorem c_X12_mostOf {l : Launch} {T : Nat → ClassId} {D : va_G} {ad : Nat → Nat} {M : Mem} {x1 : Int32} {Q1 : Int32 → Prop} (hB : P_X12_mostOf M x1 Q1) : Met l yX12_mostOf (Cond.code yX12_mostOf cX12_mostOf 2 (some .int) :: TB) (RM 2) (va_Pc [.ref (ad 0), .int x1] (RdP EM T D ad 16 M)) (QcR Q1) 0 0 (fun _ => False) := by
  refine st_R (by decide) (Nat.le_of_ble_eq_true rfl) (fun p e s m args below meth c ls C hr hlk hP hl => ?_)
  have hl : lv_has ls 2 [(0, .ref (ad 0)), (1, .int x1)] := hl
  have hx := C.x
  have hb := C.b
  delta P_X12_mostOf at hB
  refine lv_aload_n hx hb dX12_mostOf_0 rfl (lv_at hl 0 rfl) ?_
  refine lv_iload_n hx hb dX12_mostOf_1 rfl (lv_at hl 1 rfl) ?_
  refine lv_iconst (v := 0) hx hb dX12_mostOf_2 (by decide) ?_
  refine v_X12_of C hl.1 hP tw_6_133 ⟨Nat.le_of_ble_eq_true rfl, Nat.le_of_ble_eq_true rfl⟩ ⟨Nat.le_refl _, Nat.le_refl _⟩ (Nat.le_of_ble_eq_true rfl) dX12_mostOf_3 hB (fun v1 hB => ?_)
  by_cases q2_0 : v1 = 1
  · have hB := hB.1 q2_0
    refine lv_tableIn (off := 34) (tgt := 40) hx hb dX12_mostOf_6 (by rw [q2_0]; decide) (by rw [q2_0]; decide) (by rw [q2_0]; rfl) (by decide) ?_
    refine lv_iconst (v := 3) hx hb dX12_mostOf_40 (by decide) ?_
    refine lv_aload_n hx hb dX12_mostOf_41 rfl (lv_at hl 0 rfl) ?_
    refine lv_iload_n hx hb dX12_mostOf_42 rfl (lv_at hl 1 rfl) ?_
    refine lv_iconst (v := 1) hx hb dX12_mostOf_43 (by decide) ?_
    refine v_X12_of C hl.1 hP tw_6_133 ⟨Nat.le_of_ble_eq_true rfl, Nat.le_of_ble_eq_true rfl⟩ ⟨Nat.le_refl _, Nat.le_refl _⟩ (Nat.le_of_ble_eq_true rfl) dX12_mostOf_44 hB (fun v3 hB => ?_)
    refine lv_iadd hx hb dX12_mostOf_47 ?_
    exact e_iR C.1 hr hlk dX12_mostOf_48 hB
  by_cases q2_1 : v1 = 2
  · have hB := hB.2.1 q2_1
    refine lv_tableIn (off := 43) (tgt := 49) hx hb dX12_mostOf_6 (by rw [q2_1]; decide) (by rw [q2_1]; decide) (by rw [q2_1]; rfl) (by decide) ?_
    refine lv_bipush (v := 99) hx hb dX12_mostOf_49 (by decide) ?_
    exact e_iR C.1 hr hlk dX12_mostOf_51 hB
  by_cases q2_2 : v1 = 4
  · have hB := hB.2.2.1 q2_2
    refine lv_tableIn (off := 46) (tgt := 52) hx hb dX12_mostOf_6 (by rw [q2_2]; decide) (by rw [q2_2]; decide) (by rw [q2_2]; rfl) (by decide) ?_
    refine lv_iconst (v := 4) hx hb dX12_mostOf_52 (by decide) ?_
    refine lv_aload_n hx hb dX12_mostOf_53 rfl (lv_at hl 0 rfl) ?_
    refine lv_iload_n hx hb dX12_mostOf_54 rfl (lv_at hl 1 rfl) ?_
    refine lv_iconst (v := 1) hx hb dX12_mostOf_55 (by decide) ?_
    refine v_X12_of C hl.1 hP tw_6_133 ⟨Nat.le_of_ble_eq_true rfl, Nat.le_of_ble_eq_true rfl⟩ ⟨Nat.le_refl _, Nat.le_refl _⟩ (Nat.le_of_ble_eq_true rfl) dX12_mostOf_56 hB (fun v4 hB => ?_)
    refine lv_iadd hx hb dX12_mostOf_59 ?_
    exact e_iR C.1 hr hlk dX12_mostOf_60 hB
  by_cases q2_3 : v1 = 5
  · have hB := hB.2.2.2.1 q2_3
    refine lv_tableIn (off := 43) (tgt := 49) hx hb dX12_mostOf_6 (by rw [q2_3]; decide) (by rw [q2_3]; decide) (by rw [q2_3]; rfl) (by decide) ?_
    refine lv_bipush (v := 99) hx hb dX12_mostOf_49 (by decide) ?_
    exact e_iR C.1 hr hlk dX12_mostOf_51 hB
  have hB := hB.2.2.2.2 q2_0 q2_1 q2_2 q2_3
  by_cases q2_g3 : v1 = 3
  · refine lv_tableIn (off := 55) (tgt := 61) hx hb dX12_mostOf_6 (by rw [q2_g3]; decide) (by rw [q2_g3]; decide) (by rw [q2_g3]; rfl) (by decide) ?_
    exact w_X12_mostOf_61 C hr hlk hP (lv_sub hl [0, 1] rfl) hB
  refine lv_tableOut (tgt := 61) hx hb dX12_mostOf_6 (sw_out 1 5 5 (by decide) (lt_s (lt_s (lt_s (lt_s (lt_s lt_0 q2_0) q2_1) q2_g3) q2_2) q2_3)) (by decide) ?_
  exact w_X12_mostOf_61 C hr hlk hP (lv_sub hl [0, 1] rfl) hB
set_option maxRecDepth 100000 in
set_option maxHeartbeats 4000000 in
theorem v_X12_mostOf {M : Mem} {x1 : Int32} {Q1 : Int32 → Prop} (C : Cx T D p s m args c cc nL own) (hls : ls.size = nL) (hP : Pw EM T D ad 16 M H) (hlink : Cond.methodLink own index yX12_mostOf ∈ TB) (hR : 2 + 1 ≤ R.frames ∧ 8 + (2 + 11) + 48 * 2 ≤ R.locals) (hcs : cells ≤ R.cells ∧ slots ≤ R.slots) (hcat : (rest.map fun v => v.category).sum ≤ 8) (hdg : decode cc pc = .ok (.invokevirtual index, 3)) (hB : P_X12_mostOf M x1 Q1)
    (kk : ∀ r : Int32, Q1 r → W p l e R s m args below meth c H locs cells slots QQ (F0 m (pc + 3) ls (.int r :: rest))) : W p l e R s m args below meth c H locs cells slots QQ (F0 m pc ls (.int x1 :: .ref (ad 0) :: rest)) :=
  k_V (ci := 12) (n := 1) (c_X12_mostOf hB) tw_6_140 tw_6_139 tw_s_48 tw_1_12 ⟨rfl, by decide, by decide, by decide +kernel⟩ rfl rfl C hls hP oM hlink hR hcs hcat rfl hdg kk
def P_X12_pullsOf (M : Mem) (x1 : Int32) (Q1 : Int32 → Prop) : Prop :=
  P_X12_of M x1 0 (fun v1 => ((¬ v1 = 5 → Q1 1) ∧
    (v1 = 5 → Q1 2)))
set_option maxRecDepth 100000 in
set_option maxHeartbeats 4000000 in
theorem c_X12_pullsOf {l : Launch} {T : Nat → ClassId} {D : va_G} {ad : Nat → Nat} {M : Mem} {x1 : Int32} {Q1 : Int32 → Prop} (hB : P_X12_pullsOf M x1 Q1) : Met l yX12_pullsOf (Cond.code yX12_pullsOf cX12_pullsOf 2 (some .int) :: TB) (RM 2) (va_Pc [.ref (ad 0), .int x1] (RdP EM T D ad 16 M)) (QcR Q1) 0 0 (fun _ => False) := by
  refine st_R (by decide) (Nat.le_of_ble_eq_true rfl) (fun p e s m args below meth c ls C hr hlk hP hl => ?_)
  have hl : lv_has ls 2 [(0, .ref (ad 0)), (1, .int x1)] := hl
  have hx := C.x
  have hb := C.b
  delta P_X12_pullsOf at hB
  refine lv_aload_n hx hb dX12_pullsOf_0 rfl (lv_at hl 0 rfl) ?_
  refine lv_iload_n hx hb dX12_pullsOf_1 rfl (lv_at hl 1 rfl) ?_
  refine lv_iconst (v := 0) hx hb dX12_pullsOf_2 (by decide) ?_
  refine v_X12_of C hl.1 hP tw_6_133 ⟨Nat.le_of_ble_eq_true rfl, Nat.le_of_ble_eq_true rfl⟩ ⟨Nat.le_refl _, Nat.le_refl _⟩ (Nat.le_of_ble_eq_true rfl) dX12_pullsOf_3 hB (fun v1 hB => ?_)
  refine lv_iconst (v := 5) hx hb dX12_pullsOf_6 (by decide) ?_
  refine lv_icmp_ne (tgt := 14) hx hb dX12_pullsOf_7 (by decide) (fun q2 => ?_) (fun q2 => ?_)
  · have hB := hB.1 q2
    refine lv_iconst (v := 1) hx hb dX12_pullsOf_14 (by decide) ?_
    exact e_iR C.1 hr hlk dX12_pullsOf_15 hB
  · have hB := hB.2 q2
    refine lv_iconst (v := 2) hx hb dX12_pullsOf_10 (by decide) ?_
    refine lv_goto (tgt := 15) hx hb dX12_pullsOf_11 (by decide) ?_
    exact e_iR C.1 hr hlk dX12_pullsOf_15 hB
set_option maxRecDepth 100000 in
set_option maxHeartbeats 4000000 in
theorem v_X12_pullsOf {M : Mem} {x1 : Int32} {Q1 : Int32 → Prop} (C : Cx T D p s m args c cc nL own) (hls : ls.size = nL) (hP : Pw EM T D ad 16 M H) (hlink : Cond.methodLink own index yX12_pullsOf ∈ TB) (hR : 2 + 1 ≤ R.frames ∧ 8 + (2 + 11) + 48 * 2 ≤ R.locals) (hcs : cells ≤ R.cells ∧ slots ≤ R.slots) (hcat : (rest.map fun v => v.category).sum ≤ 8) (hdg : decode cc pc = .ok (.invokevirtual index, 3)) (hB : P_X12_pullsOf M x1 Q1)
    (kk : ∀ r : Int32, Q1 r → W p l e R s m args below meth c H locs cells slots QQ (F0 m (pc + 3) ls (.int r :: rest))) : W p l e R s m args below meth c H locs cells slots QQ (F0 m pc ls (.int x1 :: .ref (ad 0) :: rest)) :=
  k_V (ci := 12) (n := 1) (c_X12_pullsOf hB) tw_6_144 tw_6_143 tw_s_49 tw_1_12 ⟨rfl, by decide, by decide, by decide +kernel⟩ rfl rfl C hls hP oM hlink hR hcs hcat rfl hdg kk
def B_X12_isContent_69 (Q1 : Int32 → Mem → Prop) (x3 : Int32) (x4 : Int32) (s0 : Int32) (M : Mem) : Prop :=
  ((¬ x3 = 3 → ((¬ x3 = 6 → (x4 = 0 ∨ x4 = 1) ∧ Q1 x4 M) ∧
      (x3 = 6 → ((¬ s0 = 0 → Q1 0 M) ∧
        (s0 = 0 → Q1 1 M))))) ∧
    (x3 = 3 → (s0 = 0 ∨ s0 = 1) ∧ Q1 s0 M))
def P_X12_isContent (M : Mem) (x1 : Int32) (Q1 : Int32 → Mem → Prop) : Prop :=
  P_X12_of M x1 2 (fun v1 => P_X12_airOf M v1 (fun v2 M3 => P_X12_of M3 x1 0 (fun v4 => P_X12_leastOf M3 x1 (fun v5 => P_X12_mostOf M3 x1 (fun v6 => P_X12_in (v2.toInt64) (v5.toInt64) (v6.toInt64) (fun v7 => ((¬ v7 = 0 → B_X12_isContent_69 Q1 v4 v7 1 M3) ∧
    (v7 = 0 → (((M3 1 3) < 6 → B_X12_isContent_69 Q1 v4 v7 1 M3) ∧
      (¬ (M3 1 3) < 6 → (((M3 1 3) < 20 → B_X12_isContent_69 Q1 v4 v7 0 M3) ∧
        (¬ (M3 1 3) < 20 → B_X12_isContent_69 Q1 v4 v7 1 M3))))))))))))
set_option maxRecDepth 100000 in
set_option maxHeartbeats 4000000 in
theorem w_X12_isContent_69 {M : Mem} {Q1 : Int32 → Mem → Prop} {x3 : Int32} {x4 : Int32} {s0 : Int32} (C : Cx T D p s m args c cX12_isContent 6 "OneOfTwoModel") (hr : meth.sig.returnType = (some .boolean)) (hlk : meth.locks = false) (Z : Zz EM T D ad 16 A s.heap M H locs) {ls : Array Slot} (hl : lv_has ls 6 [(3, .int x3), (4, .int x4)]) (hB : B_X12_isContent_69 Q1 x3 x4 s0 M) : W p l e (RM 53) s m args below meth c H locs 0 0 (MQ below (QcW EM T D ad 16 A Q1) args s 0 0 A) (F0 m 69 ls [.int s0]) := by
  have hx := C.x
  have hb := C.b
  delta B_X12_isContent_69 at hB
  refine lv_istore (lv' := [(5, .int s0), (3, .int x3), (4, .int x4)]) hx hb dX12_isContent_69 hl (by decide) rfl (fun ls hl => ?_)
  refine lv_iload_n hx hb dX12_isContent_71 rfl (lv_at hl 1 rfl) ?_
  refine lv_iconst (v := 3) hx hb dX12_isContent_72 (by decide) ?_
  refine lv_icmp_ne (tgt := 81) hx hb dX12_isContent_73 (by decide) (fun q9 => ?_) (fun q9 => ?_)
  · have hB := hB.1 q9
    refine lv_iload_n hx hb dX12_isContent_81 rfl (lv_at hl 1 rfl) ?_
    refine lv_bipush (v := 6) hx hb dX12_isContent_82 (by decide) ?_
    refine lv_icmp_ne (tgt := 100) hx hb dX12_isContent_84 (by decide) (fun q10 => ?_) (fun q10 => ?_)
    · have hB := hB.1 q10
      refine lv_iload hx hb dX12_isContent_100 (lv_at hl 2 rfl) ?_
      exact e_zW C hr hlk Z dX12_isContent_102 hB.1 hB.2
    · have hB := hB.2 q10
      refine lv_iload hx hb dX12_isContent_87 (lv_at hl 0 rfl) ?_
      refine lv_if_ne (tgt := 96) hx hb dX12_isContent_89 (by decide) (fun q11 => ?_) (fun q11 => ?_)
      · have hB := hB.1 q11
        refine lv_iconst (v := 0) hx hb dX12_isContent_96 (by decide) ?_
        refine lv_goto (tgt := 102) hx hb dX12_isContent_97 (by decide) ?_
        exact e_zW C hr hlk Z dX12_isContent_102 (Or.inl rfl) hB
      · have hB := hB.2 q11
        refine lv_iconst (v := 1) hx hb dX12_isContent_92 (by decide) ?_
        refine lv_goto (tgt := 102) hx hb dX12_isContent_93 (by decide) ?_
        exact e_zW C hr hlk Z dX12_isContent_102 (Or.inr rfl) hB
  · have hB := hB.2 q9
    refine lv_iload hx hb dX12_isContent_76 (lv_at hl 0 rfl) ?_
    refine lv_goto (tgt := 102) hx hb dX12_isContent_78 (by decide) ?_
    exact e_zW C hr hlk Z dX12_isContent_102 hB.1 hB.2
set_option maxRecDepth 100000 in
set_option maxHeartbeats 4000000 in
theorem c_X12_isContent {l : Launch} {T : Nat → ClassId} {D : va_G} {ad : Nat → Nat} {M : Mem} {x1 : Int32} {sz : Nat} {Q1 : Int32 → Mem → Prop} (hB : P_X12_isContent M x1 Q1) : Met l yX12_isContent (Cond.code yX12_isContent cX12_isContent 6 (some .boolean) :: TB) (RM 53) (va_Pc [.ref (ad 0), .int x1] (WrP EM T D ad 16 M sz)) (QcW EM T D ad 16 (AA ad 16 sz) Q1) 0 0 (AA ad 16 sz) := by
  refine st_W (by decide) (Nat.le_of_ble_eq_true rfl) (fun p e s m args below meth c ls C hr hlk hsz Z hl => ?_)
  have hl : lv_has ls 6 [(0, .ref (ad 0)), (1, .int x1)] := hl
  generalize AA ad 16 sz = A at Z ⊢
  have hx := C.x
  have hb := C.b
  delta P_X12_isContent at hB
  refine lv_aload_n hx hb dX12_isContent_0 rfl (lv_at hl 0 rfl) ?_
  refine lv_aload_n hx hb dX12_isContent_1 rfl (lv_at hl 0 rfl) ?_
  refine lv_iload_n hx hb dX12_isContent_2 rfl (lv_at hl 1 rfl) ?_
  refine lv_iconst (v := 2) hx hb dX12_isContent_3 (by decide) ?_
  refine v_X12_of C hl.1 Z.1 tw_6_133 ⟨Nat.le_of_ble_eq_true rfl, Nat.le_of_ble_eq_true rfl⟩ ⟨Nat.le_refl _, Nat.le_refl _⟩ (Nat.le_of_ble_eq_true rfl) dX12_isContent_4 hB (fun v1 hB => ?_)
  refine v_X12_airOf C hl.1 Z tw_6_103 ⟨Nat.le_of_ble_eq_true rfl, Nat.le_of_ble_eq_true rfl⟩ ⟨Nat.le_refl _, Nat.le_refl _⟩ (Nat.le_of_ble_eq_true rfl) dX12_isContent_7 hB (fun v2 M3 H locs hB Z => ?_)
  refine lv_istore_n (lv' := [(2, .int v2), (0, .ref (ad 0)), (1, .int x1)]) hx hb dX12_isContent_10 rfl hl (by decide) rfl (fun ls hl => ?_)
  refine lv_aload_n hx hb dX12_isContent_11 rfl (lv_at hl 1 rfl) ?_
  refine lv_iload_n hx hb dX12_isContent_12 rfl (lv_at hl 2 rfl) ?_
  refine lv_iconst (v := 0) hx hb dX12_isContent_13 (by decide) ?_
  refine v_X12_of C hl.1 Z.1 tw_6_133 ⟨Nat.le_of_ble_eq_true rfl, Nat.le_of_ble_eq_true rfl⟩ ⟨Nat.le_refl _, Nat.le_refl _⟩ (Nat.le_of_ble_eq_true rfl) dX12_isContent_14 hB (fun v4 hB => ?_)
  refine lv_istore_n (lv' := [(3, .int v4), (2, .int v2), (0, .ref (ad 0)), (1, .int x1)]) hx hb dX12_isContent_17 rfl hl (by decide) rfl (fun ls hl => ?_)
  refine lv_iload_n hx hb dX12_isContent_18 rfl (lv_at hl 1 rfl) ?_
  refine lv_i2l hx hb dX12_isContent_19 rfl ?_
  refine lv_aload_n hx hb dX12_isContent_20 rfl (lv_at hl 2 rfl) ?_
  refine lv_iload_n hx hb dX12_isContent_21 rfl (lv_at hl 3 rfl) ?_
  refine v_X12_leastOf C hl.1 Z.1 tw_6_129 ⟨Nat.le_of_ble_eq_true rfl, Nat.le_of_ble_eq_true rfl⟩ ⟨Nat.le_refl _, Nat.le_refl _⟩ (Nat.le_of_ble_eq_true rfl) dX12_isContent_22 hB (fun v5 hB => ?_)
  refine lv_i2l hx hb dX12_isContent_25 rfl ?_
  refine lv_aload_n hx hb dX12_isContent_26 rfl (lv_at hl 2 rfl) ?_
  refine lv_iload_n hx hb dX12_isContent_27 rfl (lv_at hl 3 rfl) ?_
  refine v_X12_mostOf C hl.1 Z.1 tw_6_137 ⟨Nat.le_of_ble_eq_true rfl, Nat.le_of_ble_eq_true rfl⟩ ⟨Nat.le_refl _, Nat.le_refl _⟩ (Nat.le_of_ble_eq_true rfl) dX12_isContent_28 hB (fun v6 hB => ?_)
  refine lv_i2l hx hb dX12_isContent_31 rfl ?_
  refine v_X12_in C.1 hl.1 tw_5_191 ⟨Nat.le_of_ble_eq_true rfl, Nat.le_of_ble_eq_true rfl⟩ ⟨Nat.le_refl _, Nat.le_refl _⟩ (Nat.le_of_ble_eq_true rfl) dX12_isContent_32 hB (fun v7 hB => ?_)
  refine lv_istore (lv' := [(4, .int v7), (3, .int v4), (2, .int v2), (0, .ref (ad 0)), (1, .int x1)]) hx hb dX12_isContent_35 hl (by decide) rfl (fun ls hl => ?_)
  refine lv_iload hx hb dX12_isContent_37 (lv_at hl 0 rfl) ?_
  refine lv_if_ne (tgt := 64) hx hb dX12_isContent_39 (by decide) (fun q8 => ?_) (fun q8 => ?_)
  · have hB := hB.1 q8
    refine lv_iconst (v := 1) hx hb dX12_isContent_64 (by decide) ?_
    refine lv_goto (tgt := 69) hx hb dX12_isContent_65 (by decide) ?_
    exact w_X12_isContent_69 C hr hlk Z (lv_sub hl [1, 0] rfl) hB
  · have hB := hB.2 q8
    refine lv_aload_n hx hb dX12_isContent_42 rfl (lv_at hl 3 rfl) ?_
    refine gf_X12_0 C Z.1 tw_5_98 dX12_isContent_43 ?_
    refine lv_iconst (v := 3) hx hb dX12_isContent_46 (by decide) ?_
    refine a_ldc C Z.1 aM_1 (vin rfl) (j := 3) rfl dX12_isContent_47 ?_
    refine lv_bipush (v := 6) hx hb dX12_isContent_48 (by decide) ?_
    refine lv_icmp_lt (tgt := 64) hx hb dX12_isContent_50 (by decide) (fun q12 => ?_) (fun q12 => ?_)
    · have hB := hB.1 q12
      refine lv_iconst (v := 1) hx hb dX12_isContent_64 (by decide) ?_
      refine lv_goto (tgt := 69) hx hb dX12_isContent_65 (by decide) ?_
      exact w_X12_isContent_69 C hr hlk Z (lv_sub hl [1, 0] rfl) hB
    · have hB := hB.2 q12
      refine lv_aload_n hx hb dX12_isContent_53 rfl (lv_at hl 3 rfl) ?_
      refine gf_X12_0 C Z.1 tw_5_98 dX12_isContent_54 ?_
      refine lv_iconst (v := 3) hx hb dX12_isContent_57 (by decide) ?_
      refine a_ldc C Z.1 aM_1 (vin rfl) (j := 3) rfl dX12_isContent_58 ?_
      refine lv_bipush (v := 20) hx hb dX12_isContent_59 (by decide) ?_
      refine lv_icmp_lt (tgt := 68) hx hb dX12_isContent_61 (by decide) (fun q13 => ?_) (fun q13 => ?_)
      · have hB := hB.1 q13
        refine lv_iconst (v := 0) hx hb dX12_isContent_68 (by decide) ?_
        exact w_X12_isContent_69 C hr hlk Z (lv_sub hl [1, 0] rfl) hB
      · have hB := hB.2 q13
        refine lv_iconst (v := 1) hx hb dX12_isContent_64 (by decide) ?_
        refine lv_goto (tgt := 69) hx hb dX12_isContent_65 (by decide) ?_
        exact w_X12_isContent_69 C hr hlk Z (lv_sub hl [1, 0] rfl) hB
set_option maxRecDepth 100000 in
set_option maxHeartbeats 4000000 in
theorem v_X12_isContent {M : Mem} {x1 : Int32} {Q1 : Int32 → Mem → Prop} (C : Cx T D p s m args c cc nL own) (hls : ls.size = nL) (Z : Zz EM T D ad 16 A H0 M H locs) (hlink : Cond.methodLink own index yX12_isContent ∈ TB) (hR : 53 + 1 ≤ R.frames ∧ 8 + (6 + 11) + 48 * 53 ≤ R.locals) (hcs : cells ≤ R.cells ∧ slots ≤ R.slots) (hcat : (rest.map fun v => v.category).sum ≤ 8) (hdg : decode cc pc = .ok (.invokevirtual index, 3)) (hB : P_X12_isContent M x1 Q1)
    (kk : ∀ (r : Int32) (M1 : Mem) (H1 : Heap) (locs1 : List Loc), Q1 r M1 → Zz EM T D ad 16 A H0 M1 H1 locs1 → W p l e R s m args below meth c H1 locs1 cells slots QQ (F0 m (pc + 3) ls (.int r :: rest))) : W p l e R s m args below meth c H locs cells slots QQ (F0 m pc ls (.int x1 :: .ref (ad 0) :: rest)) :=
  k_VW (ci := 12) (n := 1) (c_X12_isContent hB) tw_6_148 tw_6_147 tw_s_50 tw_1_12 ⟨rfl, by decide, by decide, by decide +kernel⟩ rfl rfl C hls Z oM hlink hR hcs hcat rfl hdg kk
def B_X12_allContent_30 (Q1 : Int32 → Mem → Prop) (X4 : Int32 → Int32 → Mem → Prop) (x2 : Int32) (s0 : Int32) (s1 : Int32) (M : Mem) : Prop :=
  ∀ x1_5 : Int32, x1_5 = s0 ||| s1 → ∀ x2_6 : Int32, x2_6 = x2 + 1 → X4 x1_5 x2_6 M
def B_X12_allContent_4 (Q1 : Int32 → Mem → Prop) (x1 : Int32) (x2 : Int32) (M : Mem) : Prop :=
  ∀ X4 : Int32 → Int32 → Mem → Prop, (∀ (x1 : Int32) (x2 : Int32) (M : Mem), ((((M 1 2) ≤ x2 → Q1 x1 M) ∧
    (¬ (M 1 2) ≤ x2 → P_X12_isContent M x2 (fun v2 M3 => ((v2 = 0 → B_X12_allContent_30 Q1 X4 x2 x1 0 M3) ∧
      (¬ v2 = 0 → B_X12_allContent_30 Q1 X4 x2 x1 (1 <<< (x2 &&& 31)) M3)))))) → X4 x1 x2 M) → X4 x1 x2 M
def P_X12_allContent (M : Mem) (Q1 : Int32 → Mem → Prop) : Prop :=
  B_X12_allContent_4 Q1 0 0 M
set_option maxRecDepth 100000 in
set_option maxHeartbeats 4000000 in
theorem w_X12_allContent_30 {M : Mem} {Q1 : Int32 → Mem → Prop} {X4 : Int32 → Int32 → Mem → Prop} {x2 : Int32} {s0 : Int32} {s1 : Int32} (C : Cx T D p s m args c cX12_allContent 3 "OneOfTwoModel") (hr : meth.sig.returnType = (some .int)) (hlk : meth.locks = false) (Z : Zz EM T D ad 16 A s.heap M H locs) (hX4 : ∀ (x1 : Int32) (x2 : Int32) (M : Mem), X4 x1 x2 M → ∀ (H : Heap) (locs : List Loc) (ls : Array Slot), Zz EM T D ad 16 A s.heap M H locs → lv_has ls 3 [(0, .ref (ad 0)), (1, .int x1), (2, .int x2)] → W p l e (RM 54) s m args below meth c H locs 0 0 (MQ below (QcW EM T D ad 16 A Q1) args s 0 0 A) (F0 m 4 ls [])) {ls : Array Slot} (hl : lv_has ls 3 [(0, .ref (ad 0)), (2, .int x2)]) (hB : B_X12_allContent_30 Q1 X4 x2 s0 s1 M) : W p l e (RM 54) s m args below meth c H locs 0 0 (MQ below (QcW EM T D ad 16 A Q1) args s 0 0 A) (F0 m 30 ls [.int s1, .int s0]) := by
  have hx := C.x
  have hb := C.b
  delta B_X12_allContent_30 at hB
  refine lv_ior hx hb dX12_allContent_30 ?_
  refine lv_topi (fun x1_5 ex1_5 => ?_)
  have hB := hB x1_5 ex1_5
  refine lv_istore_n (lv' := [(1, .int x1_5), (0, .ref (ad 0)), (2, .int x2)]) hx hb dX12_allContent_31 rfl hl (by decide) rfl (fun ls hl => ?_)
  obtain ⟨x2_6, ex2_6⟩ : ∃ y : Int32, y = x2 + 1 := ⟨_, rfl⟩
  have hB := hB x2_6 ex2_6
  refine lv_iinc (v := x2_6) (lv' := [(2, .int x2_6), (1, .int x1_5), (0, .ref (ad 0))]) hx hb dX12_allContent_32 hl (k := 2) rfl (by rw [ex2_6]; rfl) (by decide) rfl (fun ls hl => ?_)
  refine lv_goto (tgt := 4) hx hb dX12_allContent_35 (by decide) ?_
  exact hX4 _ _ _ hB _ _ _ Z (lv_sub hl [2, 1, 0] rfl)
set_option maxRecDepth 100000 in
set_option maxHeartbeats 4000000 in
theorem w_X12_allContent_4 {M : Mem} {Q1 : Int32 → Mem → Prop} {x1 : Int32} {x2 : Int32} (C : Cx T D p s m args c cX12_allContent 3 "OneOfTwoModel") (hr : meth.sig.returnType = (some .int)) (hlk : meth.locks = false) (Z : Zz EM T D ad 16 A s.heap M H locs) {ls : Array Slot} (hl : lv_has ls 3 [(0, .ref (ad 0)), (1, .int x1), (2, .int x2)]) (hB : B_X12_allContent_4 Q1 x1 x2 M) : W p l e (RM 54) s m args below meth c H locs 0 0 (MQ below (QcW EM T D ad 16 A Q1) args s 0 0 A) (F0 m 4 ls []) := by
  delta B_X12_allContent_4 at hB
  obtain ⟨X4, hX4, hY4⟩ : ∃ X4 : Int32 → Int32 → Mem → Prop, (∀ (x1 : Int32) (x2 : Int32) (M : Mem), X4 x1 x2 M → ∀ (H : Heap) (locs : List Loc) (ls : Array Slot), Zz EM T D ad 16 A s.heap M H locs → lv_has ls 3 [(0, .ref (ad 0)), (1, .int x1), (2, .int x2)] → W p l e (RM 54) s m args below meth c H locs 0 0 (MQ below (QcW EM T D ad 16 A Q1) args s 0 0 A) (F0 m 4 ls [])) ∧ (∀ (x1 : Int32) (x2 : Int32) (M : Mem), (∀ (H : Heap) (locs : List Loc) (ls : Array Slot), Zz EM T D ad 16 A s.heap M H locs → lv_has ls 3 [(0, .ref (ad 0)), (1, .int x1), (2, .int x2)] → W p l e (RM 54) s m args below meth c H locs 0 0 (MQ below (QcW EM T D ad 16 A Q1) args s 0 0 A) (F0 m 4 ls [])) → X4 x1 x2 M) := ⟨fun (x1 : Int32) (x2 : Int32) (M : Mem) => ∀ (H : Heap) (locs : List Loc) (ls : Array Slot), Zz EM T D ad 16 A s.heap M H locs → lv_has ls 3 [(0, .ref (ad 0)), (1, .int x1), (2, .int x2)] → W p l e (RM 54) s m args below meth c H locs 0 0 (MQ below (QcW EM T D ad 16 A Q1) args s 0 0 A) (F0 m 4 ls []), fun _ _ _ h => h, fun _ _ _ h => h⟩
  refine hX4 _ _ _ (hB X4 (fun x1 x2 M hB => hY4 _ _ _ (fun H locs ls Z hl => ?_))) _ _ _ Z hl
  have hx := C.x
  have hb := C.b
  refine lv_iload_n hx hb dX12_allContent_4 rfl (lv_at hl 2 rfl) ?_
  refine lv_aload_n hx hb dX12_allContent_5 rfl (lv_at hl 0 rfl) ?_
  refine gf_X12_0 C Z.1 tw_5_98 dX12_allContent_6 ?_
  refine lv_iconst (v := 2) hx hb dX12_allContent_9 (by decide) ?_
  refine a_ldc C Z.1 aM_1 (vin rfl) (j := 2) rfl dX12_allContent_10 ?_
  refine lv_icmp_ge (tgt := 38) hx hb dX12_allContent_11 (by decide) (fun q1 => ?_) (fun q1 => ?_)
  · have hB := hB.1 q1
    refine lv_iload_n hx hb dX12_allContent_38 rfl (lv_at hl 1 rfl) ?_
    exact e_iW C hr hlk Z dX12_allContent_39 hB
  · have hB := hB.2 q1
    refine lv_iload_n hx hb dX12_allContent_14 rfl (lv_at hl 1 rfl) ?_
    refine lv_aload_n hx hb dX12_allContent_15 rfl (lv_at hl 0 rfl) ?_
    refine lv_iload_n hx hb dX12_allContent_16 rfl (lv_at hl 2 rfl) ?_
    refine v_X12_isContent C hl.1 Z tw_6_145 ⟨Nat.le_of_ble_eq_true rfl, Nat.le_of_ble_eq_true rfl⟩ ⟨Nat.le_refl _, Nat.le_refl _⟩ (Nat.le_of_ble_eq_true rfl) dX12_allContent_17 hB (fun v2 M3 H locs hB Z => ?_)
    refine lv_if_eq (tgt := 29) hx hb dX12_allContent_20 (by decide) (fun q4 => ?_) (fun q4 => ?_)
    · have hB := hB.1 q4
      refine lv_iconst (v := 0) hx hb dX12_allContent_29 (by decide) ?_
      exact w_X12_allContent_30 C hr hlk Z hX4 (lv_sub hl [0, 2] rfl) hB
    · have hB := hB.2 q4
      refine lv_iconst (v := 1) hx hb dX12_allContent_23 (by decide) ?_
      refine lv_iload_n hx hb dX12_allContent_24 rfl (lv_at hl 2 rfl) ?_
      refine lv_ishl hx hb dX12_allContent_25 ?_
      refine lv_goto (tgt := 30) hx hb dX12_allContent_26 (by decide) ?_
      exact w_X12_allContent_30 C hr hlk Z hX4 (lv_sub hl [0, 2] rfl) hB
set_option maxRecDepth 100000 in
set_option maxHeartbeats 4000000 in
theorem c_X12_allContent {l : Launch} {T : Nat → ClassId} {D : va_G} {ad : Nat → Nat} {M : Mem} {sz : Nat} {Q1 : Int32 → Mem → Prop} (hB : P_X12_allContent M Q1) : Met l yX12_allContent (Cond.code yX12_allContent cX12_allContent 3 (some .int) :: TB) (RM 54) (va_Pc [.ref (ad 0)] (WrP EM T D ad 16 M sz)) (QcW EM T D ad 16 (AA ad 16 sz) Q1) 0 0 (AA ad 16 sz) := by
  refine st_W (by decide) (Nat.le_of_ble_eq_true rfl) (fun p e s m args below meth c ls C hr hlk hsz Z hl => ?_)
  have hl : lv_has ls 3 [(0, .ref (ad 0))] := hl
  generalize AA ad 16 sz = A at Z ⊢
  have hx := C.x
  have hb := C.b
  delta P_X12_allContent at hB
  refine lv_iconst (v := 0) hx hb dX12_allContent_0 (by decide) ?_
  refine lv_istore_n (lv' := [(1, .int 0), (0, .ref (ad 0))]) hx hb dX12_allContent_1 rfl hl (by decide) rfl (fun ls hl => ?_)
  refine lv_iconst (v := 0) hx hb dX12_allContent_2 (by decide) ?_
  refine lv_istore_n (lv' := [(2, .int 0), (1, .int 0), (0, .ref (ad 0))]) hx hb dX12_allContent_3 rfl hl (by decide) rfl (fun ls hl => ?_)
  exact w_X12_allContent_4 C hr hlk Z (lv_sub hl [2, 1, 0] rfl) hB
set_option maxRecDepth 100000 in
set_option maxHeartbeats 4000000 in
theorem v_X12_allContent {M : Mem} {Q1 : Int32 → Mem → Prop} (C : Cx T D p s m args c cc nL own) (hls : ls.size = nL) (Z : Zz EM T D ad 16 A H0 M H locs) (hlink : Cond.methodLink own index yX12_allContent ∈ TB) (hR : 54 + 1 ≤ R.frames ∧ 8 + (3 + 11) + 48 * 54 ≤ R.locals) (hcs : cells ≤ R.cells ∧ slots ≤ R.slots) (hcat : (rest.map fun v => v.category).sum ≤ 8) (hdg : decode cc pc = .ok (.invokevirtual index, 3)) (hB : P_X12_allContent M Q1)
    (kk : ∀ (r : Int32) (M1 : Mem) (H1 : Heap) (locs1 : List Loc), Q1 r M1 → Zz EM T D ad 16 A H0 M1 H1 locs1 → W p l e R s m args below meth c H1 locs1 cells slots QQ (F0 m (pc + 3) ls (.int r :: rest))) : W p l e R s m args below meth c H locs cells slots QQ (F0 m pc ls (.ref (ad 0) :: rest)) :=
  k_VW (ci := 12) (n := 0) (c_X12_allContent hB) tw_6_171 tw_6_170 tw_s_51 tw_1_12 ⟨rfl, by decide, by decide, by decide +kernel⟩ rfl rfl C hls Z oM hlink hR hcs hcat rfl hdg kk
def P_X12_lodger (M : Mem) (x1 : Int32) (x2 : Int32) (Q1 : Int32 → Mem → Prop) : Prop :=
  P_X12_in (x1.toInt64) 0 69 (fun v1 => ((v1 = 0 → P_X12_finds M 1 (fun v3 M4 => Q1 v3 M4)) ∧
    (¬ v1 = 0 → P_X12_in (x2.toInt64) 0 8 (fun v5 => ((¬ v5 = 0 → ((¬ (M 1 2) = 6 → ∀ x3_8 : Int32, x3_8 = M 1 2 → ∀ M9 : Mem, M9 = sf M 1 2 ((M 1 2) + 1) → P_X12_sets M9 x3_8 0 (x1 / 10) (fun M10 => P_X12_sets M10 x3_8 1 (x1 - x1 / 10 * 10) (fun M11 => P_X12_sets M11 x3_8 2 x2 (fun M12 => Q1 x3_8 M12)))) ∧
        ((M 1 2) = 6 → P_X12_finds M 4 (fun v13 M14 => Q1 v13 M14)))) ∧
      (v5 = 0 → P_X12_finds M 1 (fun v15 M16 => Q1 v15 M16)))))))
set_option maxRecDepth 100000 in
set_option maxHeartbeats 4000000 in
theorem c_X12_lodger {l : Launch} {T : Nat → ClassId} {D : va_G} {ad : Nat → Nat} {M : Mem} {x1 : Int32} {x2 : Int32} {sz : Nat} {Q1 : Int32 → Mem → Prop} (hB : P_X12_lodger M x1 x2 Q1) : Met l yX12_lodger (Cond.code yX12_lodger cX12_lodger 4 (some .int) :: TB) (RM 2) (va_Pc [.ref (ad 0), .int x1, .int x2] (WrP EM T D ad 16 M sz)) (QcW EM T D ad 16 (AA ad 16 sz) Q1) 0 0 (AA ad 16 sz) := by
  refine st_W (by decide) (Nat.le_of_ble_eq_true rfl) (fun p e s m args below meth c ls C hr hlk hsz Z hl => ?_)
  have hl : lv_has ls 4 [(0, .ref (ad 0)), (1, .int x1), (2, .int x2)] := hl
  generalize AA ad 16 sz = A at Z ⊢
  have hx := C.x
  have hb := C.b
  delta P_X12_lodger at hB
  refine lv_iload_n hx hb dX12_lodger_0 rfl (lv_at hl 1 rfl) ?_
  refine lv_i2l hx hb dX12_lodger_1 rfl ?_
  refine lv_lconst (v := 0) hx hb dX12_lodger_2 (by decide) ?_
  refine lv_ldc2 hx hb C.1.2.2.2.1 (C.1.2.2.2.2 _ tw_6_115) dX12_lodger_3 ?_
  refine v_X12_in C.1 hl.1 tw_5_191 ⟨Nat.le_of_ble_eq_true rfl, Nat.le_of_ble_eq_true rfl⟩ ⟨Nat.le_refl _, Nat.le_refl _⟩ (Nat.le_of_ble_eq_true rfl) dX12_lodger_6 hB (fun v1 hB => ?_)
  refine lv_if_eq (tgt := 24) hx hb dX12_lodger_9 (by decide) (fun q2 => ?_) (fun q2 => ?_)
  · have hB := hB.1 q2
    refine lv_aload_n hx hb dX12_lodger_24 rfl (lv_at hl 0 rfl) ?_
    refine lv_iconst (v := 1) hx hb dX12_lodger_25 (by decide) ?_
    refine v_X12_finds C hl.1 Z tw_5_194 ⟨Nat.le_of_ble_eq_true rfl, Nat.le_of_ble_eq_true rfl⟩ ⟨Nat.le_refl _, Nat.le_refl _⟩ (Nat.le_of_ble_eq_true rfl) dX12_lodger_26 hB (fun v3 M4 H locs hB Z => ?_)
    exact e_iW C hr hlk Z dX12_lodger_29 hB
  · have hB := hB.2 q2
    refine lv_iload_n hx hb dX12_lodger_12 rfl (lv_at hl 2 rfl) ?_
    refine lv_i2l hx hb dX12_lodger_13 rfl ?_
    refine lv_lconst (v := 0) hx hb dX12_lodger_14 (by decide) ?_
    refine lv_ldc2 hx hb C.1.2.2.2.1 (C.1.2.2.2.2 _ tw_5_190) dX12_lodger_15 ?_
    refine v_X12_in C.1 hl.1 tw_5_191 ⟨Nat.le_of_ble_eq_true rfl, Nat.le_of_ble_eq_true rfl⟩ ⟨Nat.le_refl _, Nat.le_refl _⟩ (Nat.le_of_ble_eq_true rfl) dX12_lodger_18 hB (fun v5 hB => ?_)
    refine lv_if_ne (tgt := 30) hx hb dX12_lodger_21 (by decide) (fun q6 => ?_) (fun q6 => ?_)
    · have hB := hB.1 q6
      refine lv_aload_n hx hb dX12_lodger_30 rfl (lv_at hl 0 rfl) ?_
      refine gf_X12_0 C Z.1 tw_5_98 dX12_lodger_31 ?_
      refine lv_iconst (v := 2) hx hb dX12_lodger_34 (by decide) ?_
      refine a_ldc C Z.1 aM_1 (vin rfl) (j := 2) rfl dX12_lodger_35 ?_
      refine lv_bipush (v := 6) hx hb dX12_lodger_36 (by decide) ?_
      refine lv_icmp_ne (tgt := 47) hx hb dX12_lodger_38 (by decide) (fun q7 => ?_) (fun q7 => ?_)
      · have hB := hB.1 q7
        refine lv_aload_n hx hb dX12_lodger_47 rfl (lv_at hl 0 rfl) ?_
        refine gf_X12_0 C Z.1 tw_5_98 dX12_lodger_48 ?_
        refine lv_iconst (v := 2) hx hb dX12_lodger_51 (by decide) ?_
        refine a_ldc C Z.1 aM_1 (vin rfl) (j := 2) rfl dX12_lodger_52 ?_
        refine lv_topi (fun x3_8 ex3_8 => ?_)
        have hB := hB x3_8 ex3_8
        refine lv_istore_n (lv' := [(3, .int x3_8), (0, .ref (ad 0)), (1, .int x1), (2, .int x2)]) hx hb dX12_lodger_53 rfl hl (by decide) rfl (fun ls hl => ?_)
        refine lv_aload_n hx hb dX12_lodger_54 rfl (lv_at hl 1 rfl) ?_
        refine gf_X12_0 C Z.1 tw_5_98 dX12_lodger_55 ?_
        refine lv_iconst (v := 2) hx hb dX12_lodger_58 (by decide) ?_
        refine lv_dup2_11 hx hb dX12_lodger_59 rfl rfl ?_
        refine a_ldc C Z.1 aM_1 (vin rfl) (j := 2) rfl dX12_lodger_60 ?_
        refine lv_iconst (v := 1) hx hb dX12_lodger_61 (by decide) ?_
        refine lv_iadd hx hb dX12_lodger_62 ?_
        refine a_stc C Z aM_1 (vin rfl) rfl dX12_lodger_63 (fun M9 H locs eM9 Z => ?_)
        have hB := hB M9 eM9
        refine lv_aload_n hx hb dX12_lodger_64 rfl (lv_at hl 1 rfl) ?_
        refine lv_iload_n hx hb dX12_lodger_65 rfl (lv_at hl 0 rfl) ?_
        refine lv_iconst (v := 0) hx hb dX12_lodger_66 (by decide) ?_
        refine lv_iload_n hx hb dX12_lodger_67 rfl (lv_at hl 2 rfl) ?_
        refine lv_bipush (v := 10) hx hb dX12_lodger_68 (by decide) ?_
        refine lv_idiv hx hb dX12_lodger_70 (by decide) ?_
        refine v_X12_sets C hl.1 Z tw_6_116 ⟨Nat.le_of_ble_eq_true rfl, Nat.le_of_ble_eq_true rfl⟩ ⟨Nat.le_refl _, Nat.le_refl _⟩ (Nat.le_of_ble_eq_true rfl) dX12_lodger_71 hB (fun M10 H locs hB Z => ?_)
        refine lv_aload_n hx hb dX12_lodger_74 rfl (lv_at hl 1 rfl) ?_
        refine lv_iload_n hx hb dX12_lodger_75 rfl (lv_at hl 0 rfl) ?_
        refine lv_iconst (v := 1) hx hb dX12_lodger_76 (by decide) ?_
        refine lv_iload_n hx hb dX12_lodger_77 rfl (lv_at hl 2 rfl) ?_
        refine lv_bipush (v := 10) hx hb dX12_lodger_78 (by decide) ?_
        refine lv_irem hx hb dX12_lodger_80 (by decide) ?_
        refine v_X12_sets C hl.1 Z tw_6_116 ⟨Nat.le_of_ble_eq_true rfl, Nat.le_of_ble_eq_true rfl⟩ ⟨Nat.le_refl _, Nat.le_refl _⟩ (Nat.le_of_ble_eq_true rfl) dX12_lodger_81 hB (fun M11 H locs hB Z => ?_)
        refine lv_aload_n hx hb dX12_lodger_84 rfl (lv_at hl 1 rfl) ?_
        refine lv_iload_n hx hb dX12_lodger_85 rfl (lv_at hl 0 rfl) ?_
        refine lv_iconst (v := 2) hx hb dX12_lodger_86 (by decide) ?_
        refine lv_iload_n hx hb dX12_lodger_87 rfl (lv_at hl 3 rfl) ?_
        refine v_X12_sets C hl.1 Z tw_6_116 ⟨Nat.le_of_ble_eq_true rfl, Nat.le_of_ble_eq_true rfl⟩ ⟨Nat.le_refl _, Nat.le_refl _⟩ (Nat.le_of_ble_eq_true rfl) dX12_lodger_88 hB (fun M12 H locs hB Z => ?_)
        refine lv_iload_n hx hb dX12_lodger_91 rfl (lv_at hl 0 rfl) ?_
        exact e_iW C hr hlk Z dX12_lodger_92 hB
      · have hB := hB.2 q7
        refine lv_aload_n hx hb dX12_lodger_41 rfl (lv_at hl 0 rfl) ?_
        refine lv_iconst (v := 4) hx hb dX12_lodger_42 (by decide) ?_
        refine v_X12_finds C hl.1 Z tw_5_194 ⟨Nat.le_of_ble_eq_true rfl, Nat.le_of_ble_eq_true rfl⟩ ⟨Nat.le_refl _, Nat.le_refl _⟩ (Nat.le_of_ble_eq_true rfl) dX12_lodger_43 hB (fun v13 M14 H locs hB Z => ?_)
        exact e_iW C hr hlk Z dX12_lodger_46 hB
    · have hB := hB.2 q6
      refine lv_aload_n hx hb dX12_lodger_24 rfl (lv_at hl 0 rfl) ?_
      refine lv_iconst (v := 1) hx hb dX12_lodger_25 (by decide) ?_
      refine v_X12_finds C hl.1 Z tw_5_194 ⟨Nat.le_of_ble_eq_true rfl, Nat.le_of_ble_eq_true rfl⟩ ⟨Nat.le_refl _, Nat.le_refl _⟩ (Nat.le_of_ble_eq_true rfl) dX12_lodger_26 hB (fun v15 M16 H locs hB Z => ?_)
      exact e_iW C hr hlk Z dX12_lodger_29 hB
set_option maxRecDepth 100000 in
set_option maxHeartbeats 4000000 in
theorem v_X12_lodger {M : Mem} {x1 : Int32} {x2 : Int32} {Q1 : Int32 → Mem → Prop} (C : Cx T D p s m args c cc nL own) (hls : ls.size = nL) (Z : Zz EM T D ad 16 A H0 M H locs) (hlink : Cond.methodLink own index yX12_lodger ∈ TB) (hR : 2 + 1 ≤ R.frames ∧ 8 + (4 + 11) + 48 * 2 ≤ R.locals) (hcs : cells ≤ R.cells ∧ slots ≤ R.slots) (hcat : (rest.map fun v => v.category).sum ≤ 8) (hdg : decode cc pc = .ok (.invokevirtual index, 3)) (hB : P_X12_lodger M x1 x2 Q1)
    (kk : ∀ (r : Int32) (M1 : Mem) (H1 : Heap) (locs1 : List Loc), Q1 r M1 → Zz EM T D ad 16 A H0 M1 H1 locs1 → W p l e R s m args below meth c H1 locs1 cells slots QQ (F0 m (pc + 3) ls (.int r :: rest))) : W p l e R s m args below meth c H locs cells slots QQ (F0 m pc ls (.int x2 :: .int x1 :: .ref (ad 0) :: rest)) :=
  k_VW (ci := 12) (n := 2) (c_X12_lodger hB) tw_6_114 tw_6_112 tw_6_113 tw_1_12 ⟨rfl, by decide, by decide, by decide +kernel⟩ rfl rfl C hls Z oM hlink hR hcs hcat rfl hdg kk
def P_X12_ofLodger (M : Mem) (x1 : Int32) (x2 : Int32) (Q1 : Int32 → Mem → Prop) : Prop :=
  P_X12_isLodger M x1 (fun v1 => ((v1 = 0 → P_X12_finds M 1 (fun v3 M4 => Q1 v3 M4)) ∧
    (¬ v1 = 0 → P_X12_in (x2.toInt64) 0 6 (fun v5 => ((¬ v5 = 0 → ((x2 = 3 → P_X12_leastOf M x1 (fun v8 => Q1 v8 M)) ∧
        (x2 = 4 → P_X12_mostOf M x1 (fun v9 => Q1 v9 M)) ∧
        (x2 = 5 → P_X12_pullsOf M x1 (fun v10 => Q1 v10 M)) ∧
        (x2 = 6 → P_X12_isContent M x1 (fun v11 M12 => ((v11 = 0 → Q1 0 M12) ∧
          (¬ v11 = 0 → Q1 1 M12)))) ∧
        (¬ x2 = 3 → ¬ x2 = 4 → ¬ x2 = 5 → ¬ x2 = 6 → P_X12_of M x1 x2 (fun v14 => Q1 v14 M)))) ∧
      (v5 = 0 → P_X12_finds M 1 (fun v15 M16 => Q1 v15 M16)))))))
set_option maxRecDepth 100000 in
set_option maxHeartbeats 4000000 in
theorem c_X12_ofLodger {l : Launch} {T : Nat → ClassId} {D : va_G} {ad : Nat → Nat} {M : Mem} {x1 : Int32} {x2 : Int32} {sz : Nat} {Q1 : Int32 → Mem → Prop} (hB : P_X12_ofLodger M x1 x2 Q1) : Met l yX12_ofLodger (Cond.code yX12_ofLodger cX12_ofLodger 3 (some .int) :: TB) (RM 54) (va_Pc [.ref (ad 0), .int x1, .int x2] (WrP EM T D ad 16 M sz)) (QcW EM T D ad 16 (AA ad 16 sz) Q1) 0 0 (AA ad 16 sz) := by
  refine st_W (by decide) (Nat.le_of_ble_eq_true rfl) (fun p e s m args below meth c ls C hr hlk hsz Z hl => ?_)
  have hl : lv_has ls 3 [(0, .ref (ad 0)), (1, .int x1), (2, .int x2)] := hl
  generalize AA ad 16 sz = A at Z ⊢
  have hx := C.x
  have hb := C.b
  delta P_X12_ofLodger at hB
  refine lv_aload_n hx hb dX12_ofLodger_0 rfl (lv_at hl 0 rfl) ?_
  refine lv_iload_n hx hb dX12_ofLodger_1 rfl (lv_at hl 1 rfl) ?_
  refine v_X12_isLodger C hl.1 Z.1 tw_6_124 ⟨Nat.le_of_ble_eq_true rfl, Nat.le_of_ble_eq_true rfl⟩ ⟨Nat.le_refl _, Nat.le_refl _⟩ (Nat.le_of_ble_eq_true rfl) dX12_ofLodger_2 hB (fun v1 hB => ?_)
  refine lv_if_eq (tgt := 20) hx hb dX12_ofLodger_5 (by decide) (fun q2 => ?_) (fun q2 => ?_)
  · have hB := hB.1 q2
    refine lv_aload_n hx hb dX12_ofLodger_20 rfl (lv_at hl 0 rfl) ?_
    refine lv_iconst (v := 1) hx hb dX12_ofLodger_21 (by decide) ?_
    refine v_X12_finds C hl.1 Z tw_5_194 ⟨Nat.le_of_ble_eq_true rfl, Nat.le_of_ble_eq_true rfl⟩ ⟨Nat.le_refl _, Nat.le_refl _⟩ (Nat.le_of_ble_eq_true rfl) dX12_ofLodger_22 hB (fun v3 M4 H locs hB Z => ?_)
    exact e_iW C hr hlk Z dX12_ofLodger_25 hB
  · have hB := hB.2 q2
    refine lv_iload_n hx hb dX12_ofLodger_8 rfl (lv_at hl 2 rfl) ?_
    refine lv_i2l hx hb dX12_ofLodger_9 rfl ?_
    refine lv_lconst (v := 0) hx hb dX12_ofLodger_10 (by decide) ?_
    refine lv_ldc2 hx hb C.1.2.2.2.1 (C.1.2.2.2.2 _ tw_6_128) dX12_ofLodger_11 ?_
    refine v_X12_in C.1 hl.1 tw_5_191 ⟨Nat.le_of_ble_eq_true rfl, Nat.le_of_ble_eq_true rfl⟩ ⟨Nat.le_refl _, Nat.le_refl _⟩ (Nat.le_of_ble_eq_true rfl) dX12_ofLodger_14 hB (fun v5 hB => ?_)
    refine lv_if_ne (tgt := 26) hx hb dX12_ofLodger_17 (by decide) (fun q6 => ?_) (fun q6 => ?_)
    · have hB := hB.1 q6
      refine lv_iload_n hx hb dX12_ofLodger_26 rfl (lv_at hl 2 rfl) ?_
      by_cases q7_0 : x2 = 3
      · have hB := hB.1 q7_0
        refine lv_tableIn (off := 29) (tgt := 56) hx hb dX12_ofLodger_27 (by rw [q7_0]; decide) (by rw [q7_0]; decide) (by rw [q7_0]; rfl) (by decide) ?_
        refine lv_aload_n hx hb dX12_ofLodger_56 rfl (lv_at hl 0 rfl) ?_
        refine lv_iload_n hx hb dX12_ofLodger_57 rfl (lv_at hl 1 rfl) ?_
        refine v_X12_leastOf C hl.1 Z.1 tw_6_129 ⟨Nat.le_of_ble_eq_true rfl, Nat.le_of_ble_eq_true rfl⟩ ⟨Nat.le_refl _, Nat.le_refl _⟩ (Nat.le_of_ble_eq_true rfl) dX12_ofLodger_58 hB (fun v8 hB => ?_)
        exact e_iW C hr hlk Z dX12_ofLodger_61 hB
      by_cases q7_1 : x2 = 4
      · have hB := hB.2.1 q7_1
        refine lv_tableIn (off := 35) (tgt := 62) hx hb dX12_ofLodger_27 (by rw [q7_1]; decide) (by rw [q7_1]; decide) (by rw [q7_1]; rfl) (by decide) ?_
        refine lv_aload_n hx hb dX12_ofLodger_62 rfl (lv_at hl 0 rfl) ?_
        refine lv_iload_n hx hb dX12_ofLodger_63 rfl (lv_at hl 1 rfl) ?_
        refine v_X12_mostOf C hl.1 Z.1 tw_6_137 ⟨Nat.le_of_ble_eq_true rfl, Nat.le_of_ble_eq_true rfl⟩ ⟨Nat.le_refl _, Nat.le_refl _⟩ (Nat.le_of_ble_eq_true rfl) dX12_ofLodger_64 hB (fun v9 hB => ?_)
        exact e_iW C hr hlk Z dX12_ofLodger_67 hB
      by_cases q7_2 : x2 = 5
      · have hB := hB.2.2.1 q7_2
        refine lv_tableIn (off := 41) (tgt := 68) hx hb dX12_ofLodger_27 (by rw [q7_2]; decide) (by rw [q7_2]; decide) (by rw [q7_2]; rfl) (by decide) ?_
        refine lv_aload_n hx hb dX12_ofLodger_68 rfl (lv_at hl 0 rfl) ?_
        refine lv_iload_n hx hb dX12_ofLodger_69 rfl (lv_at hl 1 rfl) ?_
        refine v_X12_pullsOf C hl.1 Z.1 tw_6_141 ⟨Nat.le_of_ble_eq_true rfl, Nat.le_of_ble_eq_true rfl⟩ ⟨Nat.le_refl _, Nat.le_refl _⟩ (Nat.le_of_ble_eq_true rfl) dX12_ofLodger_70 hB (fun v10 hB => ?_)
        exact e_iW C hr hlk Z dX12_ofLodger_73 hB
      by_cases q7_3 : x2 = 6
      · have hB := hB.2.2.2.1 q7_3
        refine lv_tableIn (off := 47) (tgt := 74) hx hb dX12_ofLodger_27 (by rw [q7_3]; decide) (by rw [q7_3]; decide) (by rw [q7_3]; rfl) (by decide) ?_
        refine lv_aload_n hx hb dX12_ofLodger_74 rfl (lv_at hl 0 rfl) ?_
        refine lv_iload_n hx hb dX12_ofLodger_75 rfl (lv_at hl 1 rfl) ?_
        refine v_X12_isContent C hl.1 Z tw_6_145 ⟨Nat.le_of_ble_eq_true rfl, Nat.le_of_ble_eq_true rfl⟩ ⟨Nat.le_refl _, Nat.le_refl _⟩ (Nat.le_of_ble_eq_true rfl) dX12_ofLodger_76 hB (fun v11 M12 H locs hB Z => ?_)
        refine lv_if_eq (tgt := 86) hx hb dX12_ofLodger_79 (by decide) (fun q13 => ?_) (fun q13 => ?_)
        · have hB := hB.1 q13
          refine lv_iconst (v := 0) hx hb dX12_ofLodger_86 (by decide) ?_
          exact e_iW C hr hlk Z dX12_ofLodger_87 hB
        · have hB := hB.2 q13
          refine lv_iconst (v := 1) hx hb dX12_ofLodger_82 (by decide) ?_
          refine lv_goto (tgt := 87) hx hb dX12_ofLodger_83 (by decide) ?_
          exact e_iW C hr hlk Z dX12_ofLodger_87 hB
      have hB := hB.2.2.2.2 q7_0 q7_1 q7_2 q7_3
      refine lv_tableOut (tgt := 88) hx hb dX12_ofLodger_27 (sw_out 3 6 4 (by decide) (lt_s (lt_s (lt_s (lt_s lt_0 q7_0) q7_1) q7_2) q7_3)) (by decide) ?_
      refine lv_aload_n hx hb dX12_ofLodger_88 rfl (lv_at hl 0 rfl) ?_
      refine lv_iload_n hx hb dX12_ofLodger_89 rfl (lv_at hl 1 rfl) ?_
      refine lv_iload_n hx hb dX12_ofLodger_90 rfl (lv_at hl 2 rfl) ?_
      refine v_X12_of C hl.1 Z.1 tw_6_133 ⟨Nat.le_of_ble_eq_true rfl, Nat.le_of_ble_eq_true rfl⟩ ⟨Nat.le_refl _, Nat.le_refl _⟩ (Nat.le_of_ble_eq_true rfl) dX12_ofLodger_91 hB (fun v14 hB => ?_)
      exact e_iW C hr hlk Z dX12_ofLodger_94 hB
    · have hB := hB.2 q6
      refine lv_aload_n hx hb dX12_ofLodger_20 rfl (lv_at hl 0 rfl) ?_
      refine lv_iconst (v := 1) hx hb dX12_ofLodger_21 (by decide) ?_
      refine v_X12_finds C hl.1 Z tw_5_194 ⟨Nat.le_of_ble_eq_true rfl, Nat.le_of_ble_eq_true rfl⟩ ⟨Nat.le_refl _, Nat.le_refl _⟩ (Nat.le_of_ble_eq_true rfl) dX12_ofLodger_22 hB (fun v15 M16 H locs hB Z => ?_)
      exact e_iW C hr hlk Z dX12_ofLodger_25 hB
set_option maxRecDepth 100000 in
set_option maxHeartbeats 4000000 in
theorem v_X12_ofLodger {M : Mem} {x1 : Int32} {x2 : Int32} {Q1 : Int32 → Mem → Prop} (C : Cx T D p s m args c cc nL own) (hls : ls.size = nL) (Z : Zz EM T D ad 16 A H0 M H locs) (hlink : Cond.methodLink own index yX12_ofLodger ∈ TB) (hR : 54 + 1 ≤ R.frames ∧ 8 + (3 + 11) + 48 * 54 ≤ R.locals) (hcs : cells ≤ R.cells ∧ slots ≤ R.slots) (hcat : (rest.map fun v => v.category).sum ≤ 8) (hdg : decode cc pc = .ok (.invokevirtual index, 3)) (hB : P_X12_ofLodger M x1 x2 Q1)
    (kk : ∀ (r : Int32) (M1 : Mem) (H1 : Heap) (locs1 : List Loc), Q1 r M1 → Zz EM T D ad 16 A H0 M1 H1 locs1 → W p l e R s m args below meth c H1 locs1 cells slots QQ (F0 m (pc + 3) ls (.int r :: rest))) : W p l e R s m args below meth c H locs cells slots QQ (F0 m pc ls (.int x2 :: .int x1 :: .ref (ad 0) :: rest)) :=
  k_VW (ci := 12) (n := 2) (c_X12_ofLodger hB) tw_6_123 tw_6_121 tw_6_122 tw_1_12 ⟨rfl, by decide, by decide, by decide +kernel⟩ rfl rfl C hls Z oM hlink hR hcs hcat rfl hdg kk
def P_X12_become (M : Mem) (x1 : Int32) (x2 : Int32) (Q1 : Int32 → Mem → Prop) : Prop :=
  P_X12_isLodger M x1 (fun v1 => ((v1 = 0 → P_X12_finds M 1 (fun v3 M4 => Q1 v3 M4)) ∧
    (¬ v1 = 0 → P_X12_in (x2.toInt64) 0 69 (fun v5 => ((¬ v5 = 0 → P_X12_of M x1 0 (fun v7 => P_X12_sets M x1 0 (x2 / 10) (fun M8 => P_X12_sets M8 x1 1 (x2 - x2 / 10 * 10) (fun M9 => Q1 v7 M9)))) ∧
      (v5 = 0 → P_X12_finds M 1 (fun v10 M11 => Q1 v10 M11)))))))
set_option maxRecDepth 100000 in
set_option maxHeartbeats 4000000 in
theorem c_X12_become {l : Launch} {T : Nat → ClassId} {D : va_G} {ad : Nat → Nat} {M : Mem} {x1 : Int32} {x2 : Int32} {sz : Nat} {Q1 : Int32 → Mem → Prop} (hB : P_X12_become M x1 x2 Q1) : Met l yX12_become (Cond.code yX12_become cX12_become 4 (some .int) :: TB) (RM 3) (va_Pc [.ref (ad 0), .int x1, .int x2] (WrP EM T D ad 16 M sz)) (QcW EM T D ad 16 (AA ad 16 sz) Q1) 0 0 (AA ad 16 sz) := by
  refine st_W (by decide) (Nat.le_of_ble_eq_true rfl) (fun p e s m args below meth c ls C hr hlk hsz Z hl => ?_)
  have hl : lv_has ls 4 [(0, .ref (ad 0)), (1, .int x1), (2, .int x2)] := hl
  generalize AA ad 16 sz = A at Z ⊢
  have hx := C.x
  have hb := C.b
  delta P_X12_become at hB
  refine lv_aload_n hx hb dX12_become_0 rfl (lv_at hl 0 rfl) ?_
  refine lv_iload_n hx hb dX12_become_1 rfl (lv_at hl 1 rfl) ?_
  refine v_X12_isLodger C hl.1 Z.1 tw_6_124 ⟨Nat.le_of_ble_eq_true rfl, Nat.le_of_ble_eq_true rfl⟩ ⟨Nat.le_refl _, Nat.le_refl _⟩ (Nat.le_of_ble_eq_true rfl) dX12_become_2 hB (fun v1 hB => ?_)
  refine lv_if_eq (tgt := 20) hx hb dX12_become_5 (by decide) (fun q2 => ?_) (fun q2 => ?_)
  · have hB := hB.1 q2
    refine lv_aload_n hx hb dX12_become_20 rfl (lv_at hl 0 rfl) ?_
    refine lv_iconst (v := 1) hx hb dX12_become_21 (by decide) ?_
    refine v_X12_finds C hl.1 Z tw_5_194 ⟨Nat.le_of_ble_eq_true rfl, Nat.le_of_ble_eq_true rfl⟩ ⟨Nat.le_refl _, Nat.le_refl _⟩ (Nat.le_of_ble_eq_true rfl) dX12_become_22 hB (fun v3 M4 H locs hB Z => ?_)
    exact e_iW C hr hlk Z dX12_become_25 hB
  · have hB := hB.2 q2
    refine lv_iload_n hx hb dX12_become_8 rfl (lv_at hl 2 rfl) ?_
    refine lv_i2l hx hb dX12_become_9 rfl ?_
    refine lv_lconst (v := 0) hx hb dX12_become_10 (by decide) ?_
    refine lv_ldc2 hx hb C.1.2.2.2.1 (C.1.2.2.2.2 _ tw_6_115) dX12_become_11 ?_
    refine v_X12_in C.1 hl.1 tw_5_191 ⟨Nat.le_of_ble_eq_true rfl, Nat.le_of_ble_eq_true rfl⟩ ⟨Nat.le_refl _, Nat.le_refl _⟩ (Nat.le_of_ble_eq_true rfl) dX12_become_14 hB (fun v5 hB => ?_)
    refine lv_if_ne (tgt := 26) hx hb dX12_become_17 (by decide) (fun q6 => ?_) (fun q6 => ?_)
    · have hB := hB.1 q6
      refine lv_aload_n hx hb dX12_become_26 rfl (lv_at hl 0 rfl) ?_
      refine lv_iload_n hx hb dX12_become_27 rfl (lv_at hl 1 rfl) ?_
      refine lv_iconst (v := 0) hx hb dX12_become_28 (by decide) ?_
      refine v_X12_of C hl.1 Z.1 tw_6_133 ⟨Nat.le_of_ble_eq_true rfl, Nat.le_of_ble_eq_true rfl⟩ ⟨Nat.le_refl _, Nat.le_refl _⟩ (Nat.le_of_ble_eq_true rfl) dX12_become_29 hB (fun v7 hB => ?_)
      refine lv_istore_n (lv' := [(3, .int v7), (0, .ref (ad 0)), (1, .int x1), (2, .int x2)]) hx hb dX12_become_32 rfl hl (by decide) rfl (fun ls hl => ?_)
      refine lv_aload_n hx hb dX12_become_33 rfl (lv_at hl 1 rfl) ?_
      refine lv_iload_n hx hb dX12_become_34 rfl (lv_at hl 2 rfl) ?_
      refine lv_iconst (v := 0) hx hb dX12_become_35 (by decide) ?_
      refine lv_iload_n hx hb dX12_become_36 rfl (lv_at hl 3 rfl) ?_
      refine lv_bipush (v := 10) hx hb dX12_become_37 (by decide) ?_
      refine lv_idiv hx hb dX12_become_39 (by decide) ?_
      refine v_X12_sets C hl.1 Z tw_6_116 ⟨Nat.le_of_ble_eq_true rfl, Nat.le_of_ble_eq_true rfl⟩ ⟨Nat.le_refl _, Nat.le_refl _⟩ (Nat.le_of_ble_eq_true rfl) dX12_become_40 hB (fun M8 H locs hB Z => ?_)
      refine lv_aload_n hx hb dX12_become_43 rfl (lv_at hl 1 rfl) ?_
      refine lv_iload_n hx hb dX12_become_44 rfl (lv_at hl 2 rfl) ?_
      refine lv_iconst (v := 1) hx hb dX12_become_45 (by decide) ?_
      refine lv_iload_n hx hb dX12_become_46 rfl (lv_at hl 3 rfl) ?_
      refine lv_bipush (v := 10) hx hb dX12_become_47 (by decide) ?_
      refine lv_irem hx hb dX12_become_49 (by decide) ?_
      refine v_X12_sets C hl.1 Z tw_6_116 ⟨Nat.le_of_ble_eq_true rfl, Nat.le_of_ble_eq_true rfl⟩ ⟨Nat.le_refl _, Nat.le_refl _⟩ (Nat.le_of_ble_eq_true rfl) dX12_become_50 hB (fun M9 H locs hB Z => ?_)
      refine lv_iload_n hx hb dX12_become_53 rfl (lv_at hl 0 rfl) ?_
      exact e_iW C hr hlk Z dX12_become_54 hB
    · have hB := hB.2 q6
      refine lv_aload_n hx hb dX12_become_20 rfl (lv_at hl 0 rfl) ?_
      refine lv_iconst (v := 1) hx hb dX12_become_21 (by decide) ?_
      refine v_X12_finds C hl.1 Z tw_5_194 ⟨Nat.le_of_ble_eq_true rfl, Nat.le_of_ble_eq_true rfl⟩ ⟨Nat.le_refl _, Nat.le_refl _⟩ (Nat.le_of_ble_eq_true rfl) dX12_become_22 hB (fun v10 M11 H locs hB Z => ?_)
      exact e_iW C hr hlk Z dX12_become_25 hB
set_option maxRecDepth 100000 in
set_option maxHeartbeats 4000000 in
theorem v_X12_become {M : Mem} {x1 : Int32} {x2 : Int32} {Q1 : Int32 → Mem → Prop} (C : Cx T D p s m args c cc nL own) (hls : ls.size = nL) (Z : Zz EM T D ad 16 A H0 M H locs) (hlink : Cond.methodLink own index yX12_become ∈ TB) (hR : 3 + 1 ≤ R.frames ∧ 8 + (4 + 11) + 48 * 3 ≤ R.locals) (hcs : cells ≤ R.cells ∧ slots ≤ R.slots) (hcat : (rest.map fun v => v.category).sum ≤ 8) (hdg : decode cc pc = .ok (.invokevirtual index, 3)) (hB : P_X12_become M x1 x2 Q1)
    (kk : ∀ (r : Int32) (M1 : Mem) (H1 : Heap) (locs1 : List Loc), Q1 r M1 → Zz EM T D ad 16 A H0 M1 H1 locs1 → W p l e R s m args below meth c H1 locs1 cells slots QQ (F0 m (pc + 3) ls (.int r :: rest))) : W p l e R s m args below meth c H locs cells slots QQ (F0 m pc ls (.int x2 :: .int x1 :: .ref (ad 0) :: rest)) :=
  k_VW (ci := 12) (n := 2) (c_X12_become hB) tw_6_152 tw_6_150 tw_6_151 tw_1_12 ⟨rfl, by decide, by decide, by decide +kernel⟩ rfl rfl C hls Z oM hlink hR hcs hcat rfl hdg kk
def P_X12_above (x0 : Int32) (Q1 : Int32 → Prop) : Prop :=
  ((4 ≤ x0 → Q1 (x0 - 3)) ∧
    (¬ 4 ≤ x0 → Q1 0))
set_option maxRecDepth 100000 in
set_option maxHeartbeats 4000000 in
theorem c_X12_above {l : Launch} {x0 : Int32} {Q1 : Int32 → Prop} (hB : P_X12_above x0 Q1) : Met l yX12_above (Cond.code yX12_above cX12_above 1 (some .int) :: TB) (RM 1) (va_Pc [.int x0] StP) (QcR Q1) 0 0 (fun _ => False) := by
  refine st_S (by decide) (Nat.le_of_ble_eq_true rfl) (fun p e s m args below meth c ls C hr hlk hl => ?_)
  have hl : lv_has ls 1 [(0, .int x0)] := hl
  have hx := C.1
  have hb := C.2.1
  delta P_X12_above at hB
  refine lv_iload_n hx hb dX12_above_0 rfl (lv_at hl 0 rfl) ?_
  refine lv_iconst (v := 4) hx hb dX12_above_1 (by decide) ?_
  refine lv_icmp_ge (tgt := 9) hx hb dX12_above_2 (by decide) (fun q1 => ?_) (fun q1 => ?_)
  · have hB := hB.1 q1
    refine lv_iload_n hx hb dX12_above_9 rfl (lv_at hl 0 rfl) ?_
    refine lv_iconst (v := 3) hx hb dX12_above_10 (by decide) ?_
    refine lv_isub hx hb dX12_above_11 ?_
    exact e_iR C hr hlk dX12_above_12 hB
  · have hB := hB.2 q1
    refine lv_iconst (v := 0) hx hb dX12_above_5 (by decide) ?_
    refine lv_goto (tgt := 12) hx hb dX12_above_6 (by decide) ?_
    exact e_iR C hr hlk dX12_above_12 hB
set_option maxRecDepth 100000 in
set_option maxHeartbeats 4000000 in
theorem v_X12_above {x0 : Int32} {Q1 : Int32 → Prop} (C : CallFix p m c cc nL s args TB own) (hls : ls.size = nL) (hlink : Cond.methodLink own index yX12_above ∈ TB) (hR : 1 + 1 ≤ R.frames ∧ 8 + (1 + 11) + 48 * 1 ≤ R.locals) (hcs : cells ≤ R.cells ∧ slots ≤ R.slots) (hcat : (rest.map fun v => v.category).sum ≤ 8) (hdg : decode cc pc = .ok (.invokestatic index, 3)) (hB : P_X12_above x0 Q1)
    (kk : ∀ r : Int32, Q1 r → W p l e R s m args below meth c H locs cells slots QQ (F0 m (pc + 3) ls (.int r :: rest))) : W p l e R s m args below meth c H locs cells slots QQ (F0 m pc ls (.int x0 :: rest)) :=
  k_S (n := 1) (c_X12_above hB) tw_6_159 tw_6_158 tw_1_12 ⟨by decide, by decide, by decide +kernel⟩ rfl C hls  hlink hR hcs hcat rfl hdg kk
def B_X12_as_50 (Q1 : Int32 → Mem → Prop) (x1 : Int32) (M : Mem) : Prop :=
  P_X12_of M x1 1 (fun v9 => Q1 v9 M)
def P_X12_as (M : Mem) (x1 : Int32) (x2 : Int32) (Q1 : Int32 → Mem → Prop) : Prop :=
  P_X12_isLodger M x1 (fun v1 => ((v1 = 0 → P_X12_finds M 1 (fun v3 M4 => Q1 v3 M4)) ∧
    (¬ v1 = 0 → P_X12_in (x2.toInt64) 0 6 (fun v5 => ((¬ v5 = 0 → P_X12_of M x1 0 (fun v7 => ((x2 = 0 → B_X12_as_50 Q1 x1 M) ∧
        (¬ x2 = 0 → ((x2 = v7 → B_X12_as_50 Q1 x1 M) ∧
          (¬ x2 = v7 → P_X12_above v7 (fun v11 => ((¬ x2 = v11 → P_X12_finds M 5 (fun v13 M14 => Q1 v13 M14)) ∧
            (x2 = v11 → B_X12_as_50 Q1 x1 M))))))))) ∧
      (v5 = 0 → P_X12_finds M 1 (fun v15 M16 => Q1 v15 M16)))))))
set_option maxRecDepth 100000 in
set_option maxHeartbeats 4000000 in
theorem w_X12_as_50 {M : Mem} {Q1 : Int32 → Mem → Prop} {x1 : Int32} (C : Cx T D p s m args c cX12_as 4 "OneOfTwoModel") (hr : meth.sig.returnType = (some .int)) (hlk : meth.locks = false) (Z : Zz EM T D ad 16 A s.heap M H locs) {ls : Array Slot} (hl : lv_has ls 4 [(0, .ref (ad 0)), (1, .int x1)]) (hB : B_X12_as_50 Q1 x1 M) : W p l e (RM 3) s m args below meth c H locs 0 0 (MQ below (QcW EM T D ad 16 A Q1) args s 0 0 A) (F0 m 50 ls []) := by
  have hx := C.x
  have hb := C.b
  delta B_X12_as_50 at hB
  refine lv_aload_n hx hb dX12_as_50 rfl (lv_at hl 0 rfl) ?_
  refine lv_iload_n hx hb dX12_as_51 rfl (lv_at hl 1 rfl) ?_
  refine lv_iconst (v := 1) hx hb dX12_as_52 (by decide) ?_
  refine v_X12_of C hl.1 Z.1 tw_6_133 ⟨Nat.le_of_ble_eq_true rfl, Nat.le_of_ble_eq_true rfl⟩ ⟨Nat.le_refl _, Nat.le_refl _⟩ (Nat.le_of_ble_eq_true rfl) dX12_as_53 hB (fun v9 hB => ?_)
  refine lv_goto (tgt := 64) hx hb dX12_as_56 (by decide) ?_
  exact e_iW C hr hlk Z dX12_as_64 hB
set_option maxRecDepth 100000 in
set_option maxHeartbeats 4000000 in
theorem c_X12_as {l : Launch} {T : Nat → ClassId} {D : va_G} {ad : Nat → Nat} {M : Mem} {x1 : Int32} {x2 : Int32} {sz : Nat} {Q1 : Int32 → Mem → Prop} (hB : P_X12_as M x1 x2 Q1) : Met l yX12_as (Cond.code yX12_as cX12_as 4 (some .int) :: TB) (RM 3) (va_Pc [.ref (ad 0), .int x1, .int x2] (WrP EM T D ad 16 M sz)) (QcW EM T D ad 16 (AA ad 16 sz) Q1) 0 0 (AA ad 16 sz) := by
  refine st_W (by decide) (Nat.le_of_ble_eq_true rfl) (fun p e s m args below meth c ls C hr hlk hsz Z hl => ?_)
  have hl : lv_has ls 4 [(0, .ref (ad 0)), (1, .int x1), (2, .int x2)] := hl
  generalize AA ad 16 sz = A at Z ⊢
  have hx := C.x
  have hb := C.b
  delta P_X12_as at hB
  refine lv_aload_n hx hb dX12_as_0 rfl (lv_at hl 0 rfl) ?_
  refine lv_iload_n hx hb dX12_as_1 rfl (lv_at hl 1 rfl) ?_
  refine v_X12_isLodger C hl.1 Z.1 tw_6_124 ⟨Nat.le_of_ble_eq_true rfl, Nat.le_of_ble_eq_true rfl⟩ ⟨Nat.le_refl _, Nat.le_refl _⟩ (Nat.le_of_ble_eq_true rfl) dX12_as_2 hB (fun v1 hB => ?_)
  refine lv_if_eq (tgt := 20) hx hb dX12_as_5 (by decide) (fun q2 => ?_) (fun q2 => ?_)
  · have hB := hB.1 q2
    refine lv_aload_n hx hb dX12_as_20 rfl (lv_at hl 0 rfl) ?_
    refine lv_iconst (v := 1) hx hb dX12_as_21 (by decide) ?_
    refine v_X12_finds C hl.1 Z tw_5_194 ⟨Nat.le_of_ble_eq_true rfl, Nat.le_of_ble_eq_true rfl⟩ ⟨Nat.le_refl _, Nat.le_refl _⟩ (Nat.le_of_ble_eq_true rfl) dX12_as_22 hB (fun v3 M4 H locs hB Z => ?_)
    exact e_iW C hr hlk Z dX12_as_25 hB
  · have hB := hB.2 q2
    refine lv_iload_n hx hb dX12_as_8 rfl (lv_at hl 2 rfl) ?_
    refine lv_i2l hx hb dX12_as_9 rfl ?_
    refine lv_lconst (v := 0) hx hb dX12_as_10 (by decide) ?_
    refine lv_ldc2 hx hb C.1.2.2.2.1 (C.1.2.2.2.2 _ tw_6_128) dX12_as_11 ?_
    refine v_X12_in C.1 hl.1 tw_5_191 ⟨Nat.le_of_ble_eq_true rfl, Nat.le_of_ble_eq_true rfl⟩ ⟨Nat.le_refl _, Nat.le_refl _⟩ (Nat.le_of_ble_eq_true rfl) dX12_as_14 hB (fun v5 hB => ?_)
    refine lv_if_ne (tgt := 26) hx hb dX12_as_17 (by decide) (fun q6 => ?_) (fun q6 => ?_)
    · have hB := hB.1 q6
      refine lv_aload_n hx hb dX12_as_26 rfl (lv_at hl 0 rfl) ?_
      refine lv_iload_n hx hb dX12_as_27 rfl (lv_at hl 1 rfl) ?_
      refine lv_iconst (v := 0) hx hb dX12_as_28 (by decide) ?_
      refine v_X12_of C hl.1 Z.1 tw_6_133 ⟨Nat.le_of_ble_eq_true rfl, Nat.le_of_ble_eq_true rfl⟩ ⟨Nat.le_refl _, Nat.le_refl _⟩ (Nat.le_of_ble_eq_true rfl) dX12_as_29 hB (fun v7 hB => ?_)
      refine lv_istore_n (lv' := [(3, .int v7), (0, .ref (ad 0)), (1, .int x1), (2, .int x2)]) hx hb dX12_as_32 rfl hl (by decide) rfl (fun ls hl => ?_)
      refine lv_iload_n hx hb dX12_as_33 rfl (lv_at hl 3 rfl) ?_
      refine lv_if_eq (tgt := 50) hx hb dX12_as_34 (by decide) (fun q8 => ?_) (fun q8 => ?_)
      · have hB := hB.1 q8
        exact w_X12_as_50 C hr hlk Z (lv_sub hl [1, 2] rfl) hB
      · have hB := hB.2 q8
        refine lv_iload_n hx hb dX12_as_37 rfl (lv_at hl 3 rfl) ?_
        refine lv_iload_n hx hb dX12_as_38 rfl (lv_at hl 0 rfl) ?_
        refine lv_icmp_eq (tgt := 50) hx hb dX12_as_39 (by decide) (fun q10 => ?_) (fun q10 => ?_)
        · have hB := hB.1 q10
          exact w_X12_as_50 C hr hlk Z (lv_sub hl [1, 2] rfl) hB
        · have hB := hB.2 q10
          refine lv_iload_n hx hb dX12_as_42 rfl (lv_at hl 3 rfl) ?_
          refine lv_iload_n hx hb dX12_as_43 rfl (lv_at hl 0 rfl) ?_
          refine v_X12_above C.1 hl.1 tw_6_157 ⟨Nat.le_of_ble_eq_true rfl, Nat.le_of_ble_eq_true rfl⟩ ⟨Nat.le_refl _, Nat.le_refl _⟩ (Nat.le_of_ble_eq_true rfl) dX12_as_44 hB (fun v11 hB => ?_)
          refine lv_icmp_ne (tgt := 59) hx hb dX12_as_47 (by decide) (fun q12 => ?_) (fun q12 => ?_)
          · have hB := hB.1 q12
            refine lv_aload_n hx hb dX12_as_59 rfl (lv_at hl 1 rfl) ?_
            refine lv_iconst (v := 5) hx hb dX12_as_60 (by decide) ?_
            refine v_X12_finds C hl.1 Z tw_5_194 ⟨Nat.le_of_ble_eq_true rfl, Nat.le_of_ble_eq_true rfl⟩ ⟨Nat.le_refl _, Nat.le_refl _⟩ (Nat.le_of_ble_eq_true rfl) dX12_as_61 hB (fun v13 M14 H locs hB Z => ?_)
            exact e_iW C hr hlk Z dX12_as_64 hB
          · have hB := hB.2 q12
            exact w_X12_as_50 C hr hlk Z (lv_sub hl [1, 2] rfl) hB
    · have hB := hB.2 q6
      refine lv_aload_n hx hb dX12_as_20 rfl (lv_at hl 0 rfl) ?_
      refine lv_iconst (v := 1) hx hb dX12_as_21 (by decide) ?_
      refine v_X12_finds C hl.1 Z tw_5_194 ⟨Nat.le_of_ble_eq_true rfl, Nat.le_of_ble_eq_true rfl⟩ ⟨Nat.le_refl _, Nat.le_refl _⟩ (Nat.le_of_ble_eq_true rfl) dX12_as_22 hB (fun v15 M16 H locs hB Z => ?_)
      exact e_iW C hr hlk Z dX12_as_25 hB
set_option maxRecDepth 100000 in
set_option maxHeartbeats 4000000 in
theorem v_X12_as {M : Mem} {x1 : Int32} {x2 : Int32} {Q1 : Int32 → Mem → Prop} (C : Cx T D p s m args c cc nL own) (hls : ls.size = nL) (Z : Zz EM T D ad 16 A H0 M H locs) (hlink : Cond.methodLink own index yX12_as ∈ TB) (hR : 3 + 1 ≤ R.frames ∧ 8 + (4 + 11) + 48 * 3 ≤ R.locals) (hcs : cells ≤ R.cells ∧ slots ≤ R.slots) (hcat : (rest.map fun v => v.category).sum ≤ 8) (hdg : decode cc pc = .ok (.invokevirtual index, 3)) (hB : P_X12_as M x1 x2 Q1)
    (kk : ∀ (r : Int32) (M1 : Mem) (H1 : Heap) (locs1 : List Loc), Q1 r M1 → Zz EM T D ad 16 A H0 M1 H1 locs1 → W p l e R s m args below meth c H1 locs1 cells slots QQ (F0 m (pc + 3) ls (.int r :: rest))) : W p l e R s m args below meth c H locs cells slots QQ (F0 m pc ls (.int x2 :: .int x1 :: .ref (ad 0) :: rest)) :=
  k_VW (ci := 12) (n := 2) (c_X12_as hB) tw_6_156 tw_6_154 tw_6_155 tw_1_12 ⟨rfl, by decide, by decide, by decide +kernel⟩ rfl rfl C hls Z oM hlink hR hcs hcat rfl hdg kk
def P_X12_goes (M : Mem) (x1 : Int32) (x2 : Int32) (Q1 : Int32 → Mem → Prop) : Prop :=
  P_X12_isLodger M x1 (fun v1 => ((v1 = 0 → P_X12_finds M 1 (fun v3 M4 => Q1 v3 M4)) ∧
    (¬ v1 = 0 → P_X12_in (x2.toInt64) 0 8 (fun v5 => ((¬ v5 = 0 → P_X12_of M x1 2 (fun v7 => P_X12_sets M x1 2 x2 (fun M8 => Q1 v7 M8))) ∧
      (v5 = 0 → P_X12_finds M 1 (fun v9 M10 => Q1 v9 M10)))))))
set_option maxRecDepth 100000 in
set_option maxHeartbeats 4000000 in
theorem c_X12_goes {l : Launch} {T : Nat → ClassId} {D : va_G} {ad : Nat → Nat} {M : Mem} {x1 : Int32} {x2 : Int32} {sz : Nat} {Q1 : Int32 → Mem → Prop} (hB : P_X12_goes M x1 x2 Q1) : Met l yX12_goes (Cond.code yX12_goes cX12_goes 4 (some .int) :: TB) (RM 3) (va_Pc [.ref (ad 0), .int x1, .int x2] (WrP EM T D ad 16 M sz)) (QcW EM T D ad 16 (AA ad 16 sz) Q1) 0 0 (AA ad 16 sz) := by
  refine st_W (by decide) (Nat.le_of_ble_eq_true rfl) (fun p e s m args below meth c ls C hr hlk hsz Z hl => ?_)
  have hl : lv_has ls 4 [(0, .ref (ad 0)), (1, .int x1), (2, .int x2)] := hl
  generalize AA ad 16 sz = A at Z ⊢
  have hx := C.x
  have hb := C.b
  delta P_X12_goes at hB
  refine lv_aload_n hx hb dX12_goes_0 rfl (lv_at hl 0 rfl) ?_
  refine lv_iload_n hx hb dX12_goes_1 rfl (lv_at hl 1 rfl) ?_
  refine v_X12_isLodger C hl.1 Z.1 tw_6_124 ⟨Nat.le_of_ble_eq_true rfl, Nat.le_of_ble_eq_true rfl⟩ ⟨Nat.le_refl _, Nat.le_refl _⟩ (Nat.le_of_ble_eq_true rfl) dX12_goes_2 hB (fun v1 hB => ?_)
  refine lv_if_eq (tgt := 20) hx hb dX12_goes_5 (by decide) (fun q2 => ?_) (fun q2 => ?_)
  · have hB := hB.1 q2
    refine lv_aload_n hx hb dX12_goes_20 rfl (lv_at hl 0 rfl) ?_
    refine lv_iconst (v := 1) hx hb dX12_goes_21 (by decide) ?_
    refine v_X12_finds C hl.1 Z tw_5_194 ⟨Nat.le_of_ble_eq_true rfl, Nat.le_of_ble_eq_true rfl⟩ ⟨Nat.le_refl _, Nat.le_refl _⟩ (Nat.le_of_ble_eq_true rfl) dX12_goes_22 hB (fun v3 M4 H locs hB Z => ?_)
    exact e_iW C hr hlk Z dX12_goes_25 hB
  · have hB := hB.2 q2
    refine lv_iload_n hx hb dX12_goes_8 rfl (lv_at hl 2 rfl) ?_
    refine lv_i2l hx hb dX12_goes_9 rfl ?_
    refine lv_lconst (v := 0) hx hb dX12_goes_10 (by decide) ?_
    refine lv_ldc2 hx hb C.1.2.2.2.1 (C.1.2.2.2.2 _ tw_5_190) dX12_goes_11 ?_
    refine v_X12_in C.1 hl.1 tw_5_191 ⟨Nat.le_of_ble_eq_true rfl, Nat.le_of_ble_eq_true rfl⟩ ⟨Nat.le_refl _, Nat.le_refl _⟩ (Nat.le_of_ble_eq_true rfl) dX12_goes_14 hB (fun v5 hB => ?_)
    refine lv_if_ne (tgt := 26) hx hb dX12_goes_17 (by decide) (fun q6 => ?_) (fun q6 => ?_)
    · have hB := hB.1 q6
      refine lv_aload_n hx hb dX12_goes_26 rfl (lv_at hl 0 rfl) ?_
      refine lv_iload_n hx hb dX12_goes_27 rfl (lv_at hl 1 rfl) ?_
      refine lv_iconst (v := 2) hx hb dX12_goes_28 (by decide) ?_
      refine v_X12_of C hl.1 Z.1 tw_6_133 ⟨Nat.le_of_ble_eq_true rfl, Nat.le_of_ble_eq_true rfl⟩ ⟨Nat.le_refl _, Nat.le_refl _⟩ (Nat.le_of_ble_eq_true rfl) dX12_goes_29 hB (fun v7 hB => ?_)
      refine lv_istore_n (lv' := [(3, .int v7), (0, .ref (ad 0)), (1, .int x1), (2, .int x2)]) hx hb dX12_goes_32 rfl hl (by decide) rfl (fun ls hl => ?_)
      refine lv_aload_n hx hb dX12_goes_33 rfl (lv_at hl 1 rfl) ?_
      refine lv_iload_n hx hb dX12_goes_34 rfl (lv_at hl 2 rfl) ?_
      refine lv_iconst (v := 2) hx hb dX12_goes_35 (by decide) ?_
      refine lv_iload_n hx hb dX12_goes_36 rfl (lv_at hl 3 rfl) ?_
      refine v_X12_sets C hl.1 Z tw_6_116 ⟨Nat.le_of_ble_eq_true rfl, Nat.le_of_ble_eq_true rfl⟩ ⟨Nat.le_refl _, Nat.le_refl _⟩ (Nat.le_of_ble_eq_true rfl) dX12_goes_37 hB (fun M8 H locs hB Z => ?_)
      refine lv_iload_n hx hb dX12_goes_40 rfl (lv_at hl 0 rfl) ?_
      exact e_iW C hr hlk Z dX12_goes_41 hB
    · have hB := hB.2 q6
      refine lv_aload_n hx hb dX12_goes_20 rfl (lv_at hl 0 rfl) ?_
      refine lv_iconst (v := 1) hx hb dX12_goes_21 (by decide) ?_
      refine v_X12_finds C hl.1 Z tw_5_194 ⟨Nat.le_of_ble_eq_true rfl, Nat.le_of_ble_eq_true rfl⟩ ⟨Nat.le_refl _, Nat.le_refl _⟩ (Nat.le_of_ble_eq_true rfl) dX12_goes_22 hB (fun v9 M10 H locs hB Z => ?_)
      exact e_iW C hr hlk Z dX12_goes_25 hB
set_option maxRecDepth 100000 in
set_option maxHeartbeats 4000000 in
theorem v_X12_goes {M : Mem} {x1 : Int32} {x2 : Int32} {Q1 : Int32 → Mem → Prop} (C : Cx T D p s m args c cc nL own) (hls : ls.size = nL) (Z : Zz EM T D ad 16 A H0 M H locs) (hlink : Cond.methodLink own index yX12_goes ∈ TB) (hR : 3 + 1 ≤ R.frames ∧ 8 + (4 + 11) + 48 * 3 ≤ R.locals) (hcs : cells ≤ R.cells ∧ slots ≤ R.slots) (hcat : (rest.map fun v => v.category).sum ≤ 8) (hdg : decode cc pc = .ok (.invokevirtual index, 3)) (hB : P_X12_goes M x1 x2 Q1)
    (kk : ∀ (r : Int32) (M1 : Mem) (H1 : Heap) (locs1 : List Loc), Q1 r M1 → Zz EM T D ad 16 A H0 M1 H1 locs1 → W p l e R s m args below meth c H1 locs1 cells slots QQ (F0 m (pc + 3) ls (.int r :: rest))) : W p l e R s m args below meth c H locs cells slots QQ (F0 m pc ls (.int x2 :: .int x1 :: .ref (ad 0) :: rest)) :=
  k_VW (ci := 12) (n := 2) (c_X12_goes hB) tw_6_163 tw_6_161 tw_6_162 tw_1_12 ⟨rfl, by decide, by decide, by decide +kernel⟩ rfl rfl C hls Z oM hlink hR hcs hcat rfl hdg kk
def P_X12_content (M : Mem) (Q1 : Int32 → Mem → Prop) : Prop :=
  P_X12_allContent M (fun v1 M2 => Q1 v1 M2)
set_option maxRecDepth 100000 in
set_option maxHeartbeats 4000000 in
theorem c_X12_content {l : Launch} {T : Nat → ClassId} {D : va_G} {ad : Nat → Nat} {M : Mem} {sz : Nat} {Q1 : Int32 → Mem → Prop} (hB : P_X12_content M Q1) : Met l yX12_content (Cond.code yX12_content cX12_content 1 (some .int) :: TB) (RM 55) (va_Pc [.ref (ad 0)] (WrP EM T D ad 16 M sz)) (QcW EM T D ad 16 (AA ad 16 sz) Q1) 0 0 (AA ad 16 sz) := by
  refine st_W (by decide) (Nat.le_of_ble_eq_true rfl) (fun p e s m args below meth c ls C hr hlk hsz Z hl => ?_)
  have hl : lv_has ls 1 [(0, .ref (ad 0))] := hl
  generalize AA ad 16 sz = A at Z ⊢
  have hx := C.x
  have hb := C.b
  delta P_X12_content at hB
  refine lv_aload_n hx hb dX12_content_0 rfl (lv_at hl 0 rfl) ?_
  refine v_X12_allContent C hl.1 Z tw_6_168 ⟨Nat.le_of_ble_eq_true rfl, Nat.le_of_ble_eq_true rfl⟩ ⟨Nat.le_refl _, Nat.le_refl _⟩ (Nat.le_of_ble_eq_true rfl) dX12_content_1 hB (fun v1 M2 H locs hB Z => ?_)
  exact e_iW C hr hlk Z dX12_content_4 hB
set_option maxRecDepth 100000 in
set_option maxHeartbeats 4000000 in
theorem v_X12_content {M : Mem} {Q1 : Int32 → Mem → Prop} (C : Cx T D p s m args c cc nL own) (hls : ls.size = nL) (Z : Zz EM T D ad 16 A H0 M H locs) (hlink : Cond.methodLink own index yX12_content ∈ TB) (hR : 55 + 1 ≤ R.frames ∧ 8 + (1 + 11) + 48 * 55 ≤ R.locals) (hcs : cells ≤ R.cells ∧ slots ≤ R.slots) (hcat : (rest.map fun v => v.category).sum ≤ 8) (hdg : decode cc pc = .ok (.invokevirtual index, 3)) (hB : P_X12_content M Q1)
    (kk : ∀ (r : Int32) (M1 : Mem) (H1 : Heap) (locs1 : List Loc), Q1 r M1 → Zz EM T D ad 16 A H0 M1 H1 locs1 → W p l e R s m args below meth c H1 locs1 cells slots QQ (F0 m (pc + 3) ls (.int r :: rest))) : W p l e R s m args below meth c H locs cells slots QQ (F0 m pc ls (.ref (ad 0) :: rest)) :=
  k_VW (ci := 12) (n := 0) (c_X12_content hB) tw_6_167 tw_6_165 tw_6_166 tw_1_12 ⟨rfl, by decide, by decide, by decide +kernel⟩ rfl rfl C hls Z oM hlink hR hcs hcat rfl hdg kk
def P_X12_farOf (M : Mem) (x1 : Int32) (Q1 : Int32 → Mem → Prop) : Prop :=
  P_X12_of M x1 2 (fun v1 => P_X12_airOf M v1 (fun v2 M3 => P_X12_leastOf M3 x1 (fun v4 => ((v4 ≤ v2 → P_X12_mostOf M3 x1 (fun v6 => ((v2 ≤ v6 → Q1 0 M3) ∧
      (¬ v2 ≤ v6 → P_X12_mostOf M3 x1 (fun v8 => Q1 (v2 - v8) M3))))) ∧
    (¬ v4 ≤ v2 → P_X12_leastOf M3 x1 (fun v9 => Q1 (v9 - v2) M3))))))
set_option maxRecDepth 100000 in
set_option maxHeartbeats 4000000 in
theorem c_X12_farOf {l : Launch} {T : Nat → ClassId} {D : va_G} {ad : Nat → Nat} {M : Mem} {x1 : Int32} {sz : Nat} {Q1 : Int32 → Mem → Prop} (hB : P_X12_farOf M x1 Q1) : Met l yX12_farOf (Cond.code yX12_farOf cX12_farOf 3 (some .int) :: TB) (RM 53) (va_Pc [.ref (ad 0), .int x1] (WrP EM T D ad 16 M sz)) (QcW EM T D ad 16 (AA ad 16 sz) Q1) 0 0 (AA ad 16 sz) := by
  refine st_W (by decide) (Nat.le_of_ble_eq_true rfl) (fun p e s m args below meth c ls C hr hlk hsz Z hl => ?_)
  have hl : lv_has ls 3 [(0, .ref (ad 0)), (1, .int x1)] := hl
  generalize AA ad 16 sz = A at Z ⊢
  have hx := C.x
  have hb := C.b
  delta P_X12_farOf at hB
  refine lv_aload_n hx hb dX12_farOf_0 rfl (lv_at hl 0 rfl) ?_
  refine lv_aload_n hx hb dX12_farOf_1 rfl (lv_at hl 0 rfl) ?_
  refine lv_iload_n hx hb dX12_farOf_2 rfl (lv_at hl 1 rfl) ?_
  refine lv_iconst (v := 2) hx hb dX12_farOf_3 (by decide) ?_
  refine v_X12_of C hl.1 Z.1 tw_6_133 ⟨Nat.le_of_ble_eq_true rfl, Nat.le_of_ble_eq_true rfl⟩ ⟨Nat.le_refl _, Nat.le_refl _⟩ (Nat.le_of_ble_eq_true rfl) dX12_farOf_4 hB (fun v1 hB => ?_)
  refine v_X12_airOf C hl.1 Z tw_6_103 ⟨Nat.le_of_ble_eq_true rfl, Nat.le_of_ble_eq_true rfl⟩ ⟨Nat.le_refl _, Nat.le_refl _⟩ (Nat.le_of_ble_eq_true rfl) dX12_farOf_7 hB (fun v2 M3 H locs hB Z => ?_)
  refine lv_istore_n (lv' := [(2, .int v2), (0, .ref (ad 0)), (1, .int x1)]) hx hb dX12_farOf_10 rfl hl (by decide) rfl (fun ls hl => ?_)
  refine lv_iload_n hx hb dX12_farOf_11 rfl (lv_at hl 0 rfl) ?_
  refine lv_aload_n hx hb dX12_farOf_12 rfl (lv_at hl 1 rfl) ?_
  refine lv_iload_n hx hb dX12_farOf_13 rfl (lv_at hl 2 rfl) ?_
  refine v_X12_leastOf C hl.1 Z.1 tw_6_129 ⟨Nat.le_of_ble_eq_true rfl, Nat.le_of_ble_eq_true rfl⟩ ⟨Nat.le_refl _, Nat.le_refl _⟩ (Nat.le_of_ble_eq_true rfl) dX12_farOf_14 hB (fun v4 hB => ?_)
  refine lv_icmp_ge (tgt := 30) hx hb dX12_farOf_17 (by decide) (fun q5 => ?_) (fun q5 => ?_)
  · have hB := hB.1 q5
    refine lv_iload_n hx hb dX12_farOf_30 rfl (lv_at hl 0 rfl) ?_
    refine lv_aload_n hx hb dX12_farOf_31 rfl (lv_at hl 1 rfl) ?_
    refine lv_iload_n hx hb dX12_farOf_32 rfl (lv_at hl 2 rfl) ?_
    refine v_X12_mostOf C hl.1 Z.1 tw_6_137 ⟨Nat.le_of_ble_eq_true rfl, Nat.le_of_ble_eq_true rfl⟩ ⟨Nat.le_refl _, Nat.le_refl _⟩ (Nat.le_of_ble_eq_true rfl) dX12_farOf_33 hB (fun v6 hB => ?_)
    refine lv_icmp_le (tgt := 49) hx hb dX12_farOf_36 (by decide) (fun q7 => ?_) (fun q7 => ?_)
    · have hB := hB.1 q7
      refine lv_iconst (v := 0) hx hb dX12_farOf_49 (by decide) ?_
      exact e_iW C hr hlk Z dX12_farOf_50 hB
    · have hB := hB.2 q7
      refine lv_iload_n hx hb dX12_farOf_39 rfl (lv_at hl 0 rfl) ?_
      refine lv_aload_n hx hb dX12_farOf_40 rfl (lv_at hl 1 rfl) ?_
      refine lv_iload_n hx hb dX12_farOf_41 rfl (lv_at hl 2 rfl) ?_
      refine v_X12_mostOf C hl.1 Z.1 tw_6_137 ⟨Nat.le_of_ble_eq_true rfl, Nat.le_of_ble_eq_true rfl⟩ ⟨Nat.le_refl _, Nat.le_refl _⟩ (Nat.le_of_ble_eq_true rfl) dX12_farOf_42 hB (fun v8 hB => ?_)
      refine lv_isub hx hb dX12_farOf_45 ?_
      refine lv_goto (tgt := 50) hx hb dX12_farOf_46 (by decide) ?_
      exact e_iW C hr hlk Z dX12_farOf_50 hB
  · have hB := hB.2 q5
    refine lv_aload_n hx hb dX12_farOf_20 rfl (lv_at hl 1 rfl) ?_
    refine lv_iload_n hx hb dX12_farOf_21 rfl (lv_at hl 2 rfl) ?_
    refine v_X12_leastOf C hl.1 Z.1 tw_6_129 ⟨Nat.le_of_ble_eq_true rfl, Nat.le_of_ble_eq_true rfl⟩ ⟨Nat.le_refl _, Nat.le_refl _⟩ (Nat.le_of_ble_eq_true rfl) dX12_farOf_22 hB (fun v9 hB => ?_)
    refine lv_iload_n hx hb dX12_farOf_25 rfl (lv_at hl 0 rfl) ?_
    refine lv_isub hx hb dX12_farOf_26 ?_
    refine lv_goto (tgt := 50) hx hb dX12_farOf_27 (by decide) ?_
    exact e_iW C hr hlk Z dX12_farOf_50 hB
set_option maxRecDepth 100000 in
set_option maxHeartbeats 4000000 in
theorem v_X12_farOf {M : Mem} {x1 : Int32} {Q1 : Int32 → Mem → Prop} (C : Cx T D p s m args c cc nL own) (hls : ls.size = nL) (Z : Zz EM T D ad 16 A H0 M H locs) (hlink : Cond.methodLink own index yX12_farOf ∈ TB) (hR : 53 + 1 ≤ R.frames ∧ 8 + (3 + 11) + 48 * 53 ≤ R.locals) (hcs : cells ≤ R.cells ∧ slots ≤ R.slots) (hcat : (rest.map fun v => v.category).sum ≤ 8) (hdg : decode cc pc = .ok (.invokevirtual index, 3)) (hB : P_X12_farOf M x1 Q1)
    (kk : ∀ (r : Int32) (M1 : Mem) (H1 : Heap) (locs1 : List Loc), Q1 r M1 → Zz EM T D ad 16 A H0 M1 H1 locs1 → W p l e R s m args below meth c H1 locs1 cells slots QQ (F0 m (pc + 3) ls (.int r :: rest))) : W p l e R s m args below meth c H locs cells slots QQ (F0 m pc ls (.int x1 :: .ref (ad 0) :: rest)) :=
  k_VW (ci := 12) (n := 1) (c_X12_farOf hB) tw_6_187 tw_6_186 tw_s_54 tw_1_12 ⟨rfl, by decide, by decide, by decide +kernel⟩ rfl rfl C hls Z oM hlink hR hcs hcat rfl hdg kk
def B_X12_choice_130 (Q1 : Int32 → Mem → Prop) (X19 : Int32 → Int32 → Mem → Prop) (x1 : Int32) (x2 : Int32) (x3 : Int32) (x4 : Int32) (x5 : Int32) (x6 : Int32) (x7 : Int32) (x9 : Int32) (s0 : Int32) (M : Mem) : Prop :=
  P_X12_pulls M x7 x6 (fun M22 => ((x9 = 0 → ((s0 = 0 → ∀ x5_25 : Int32, x5_25 = x5 + 1 → X19 x3 x5_25 M22) ∧
      (¬ s0 = 0 → ((0 ≤ x3 → ∀ x5_27 : Int32, x5_27 = x5 + 1 → X19 x3 x5_27 M22) ∧
        (¬ 0 ≤ x3 → ∀ x3_28 : Int32, x3_28 = (8 * x6) + x7 → ∀ x5_29 : Int32, x5_29 = x5 + 1 → X19 x3_28 x5_29 M22))))) ∧
    (¬ x9 = 0 → Q1 ((8 * x6) + x7) M22)))
def B_X12_choice_80 (Q1 : Int32 → Mem → Prop) (X19 : Int32 → Int32 → Mem → Prop) (x1 : Int32) (x2 : Int32) (x3 : Int32) (x4 : Int32) (x5 : Int32) (x6 : Int32) (x7 : Int32) (s0 : Int32) (M : Mem) : Prop :=
  ((s0 = 0 → ∀ x5_13 : Int32, x5_13 = x5 + 1 → X19 x3 x5_13 M) ∧
    (¬ s0 = 0 → P_X12_canPull M x6 x7 (fun v14 => ((¬ v14 = 0 → P_X12_pulls M x6 x7 (fun M16 => P_X12_isContent M16 x1 (fun v17 M18 => P_X12_farOf M18 x1 (fun v19 M20 => ((x2 ≤ v19 → B_X12_choice_130 Q1 X19 x1 x2 x3 x4 x5 x6 x7 v17 0 M20) ∧
        (¬ x2 ≤ v19 → B_X12_choice_130 Q1 X19 x1 x2 x3 x4 x5 x6 x7 v17 1 M20)))))) ∧
      (v14 = 0 → ∀ x5_30 : Int32, x5_30 = x5 + 1 → X19 x3 x5_30 M)))))
def B_X12_choice_19 (Q1 : Int32 → Mem → Prop) (x1 : Int32) (x2 : Int32) (x3 : Int32) (x4 : Int32) (x5 : Int32) (M : Mem) : Prop :=
  ∀ X19 : Int32 → Int32 → Mem → Prop, (∀ (x3 : Int32) (x5 : Int32) (M : Mem), ((((x4 * x4) ≤ x5 → Q1 x3 M) ∧
    (¬ (x4 * x4) ≤ x5 → ¬ x4 = 0 ∧ ∀ x6_6 : Int32, x6_6 = x5 / x4 → ¬ x4 = 0 ∧ ∀ x7_8 : Int32, x7_8 = x5 - x5 / x4 * x4 → P_X12_its M x6_6 0 (fun v9 => P_X12_of M x1 2 (fun v10 => ((v9 = v10 → B_X12_choice_80 Q1 X19 x1 x2 x3 x4 x5 x6_6 x7_8 1 M) ∧
      (¬ v9 = v10 → P_X12_its M x7_8 0 (fun v31 => P_X12_of M x1 2 (fun v32 => ((¬ v31 = v32 → B_X12_choice_80 Q1 X19 x1 x2 x3 x4 x5 x6_6 x7_8 0 M) ∧
        (v31 = v32 → B_X12_choice_80 Q1 X19 x1 x2 x3 x4 x5 x6_6 x7_8 1 M))))))))))) → X19 x3 x5 M) → X19 x3 x5 M
def P_X12_choice (M : Mem) (x1 : Int32) (Q1 : Int32 → Mem → Prop) : Prop :=
  P_X12_farOf M x1 (fun v1 M2 => ∀ x4_3 : Int32, x4_3 = M2 1 0 → B_X12_choice_19 Q1 x1 v1 (-1) x4_3 0 M2)
set_option maxRecDepth 100000 in
set_option maxHeartbeats 4000000 in
theorem w_X12_choice_130 {M : Mem} {Q1 : Int32 → Mem → Prop} {X19 : Int32 → Int32 → Mem → Prop} {x1 : Int32} {x2 : Int32} {x3 : Int32} {x4 : Int32} {x5 : Int32} {x6 : Int32} {x7 : Int32} {x9 : Int32} {s0 : Int32} (C : Cx T D p s m args c cX12_choice 11 "OneOfTwoModel") (hr : meth.sig.returnType = (some .int)) (hlk : meth.locks = false) (Z : Zz EM T D ad 16 A s.heap M H locs) (hX19 : ∀ (x3 : Int32) (x5 : Int32) (M : Mem), X19 x3 x5 M → ∀ (H : Heap) (locs : List Loc) (ls : Array Slot), Zz EM T D ad 16 A s.heap M H locs → lv_has ls 11 [(0, .ref (ad 0)), (1, .int x1), (2, .int x2), (3, .int x3), (4, .int x4), (5, .int x5)] → W p l e (RM 54) s m args below meth c H locs 0 0 (MQ below (QcW EM T D ad 16 A Q1) args s 0 0 A) (F0 m 19 ls [])) {ls : Array Slot} (hl : lv_has ls 11 [(0, .ref (ad 0)), (1, .int x1), (2, .int x2), (3, .int x3), (4, .int x4), (5, .int x5), (6, .int x6), (7, .int x7), (9, .int x9)]) (hB : B_X12_choice_130 Q1 X19 x1 x2 x3 x4 x5 x6 x7 x9 s0 M) : W p l e (RM 54) s m args below meth c H locs 0 0 (MQ below (QcW EM T D ad 16 A Q1) args s 0 0 A) (F0 m 130 ls [.int s0]) := by
  have hx := C.x
  have hb := C.b
  delta B_X12_choice_130 at hB
  refine lv_istore (lv' := [(10, .int s0), (0, .ref (ad 0)), (1, .int x1), (2, .int x2), (3, .int x3), (4, .int x4), (5, .int x5), (6, .int x6), (7, .int x7), (9, .int x9)]) hx hb dX12_choice_130 hl (by decide) rfl (fun ls hl => ?_)
  refine lv_aload_n hx hb dX12_choice_132 rfl (lv_at hl 1 rfl) ?_
  refine lv_iload hx hb dX12_choice_133 (lv_at hl 8 rfl) ?_
  refine lv_iload hx hb dX12_choice_135 (lv_at hl 7 rfl) ?_
  refine v_X12_pulls C hl.1 Z tw_6_87 ⟨Nat.le_of_ble_eq_true rfl, Nat.le_of_ble_eq_true rfl⟩ ⟨Nat.le_refl _, Nat.le_refl _⟩ (Nat.le_of_ble_eq_true rfl) dX12_choice_137 hB (fun M22 H locs hB Z => ?_)
  refine lv_iload hx hb dX12_choice_140 (lv_at hl 9 rfl) ?_
  refine lv_if_eq (tgt := 154) hx hb dX12_choice_142 (by decide) (fun q23 => ?_) (fun q23 => ?_)
  · have hB := hB.1 q23
    refine lv_iload hx hb dX12_choice_154 (lv_at hl 0 rfl) ?_
    refine lv_if_eq (tgt := 174) hx hb dX12_choice_156 (by decide) (fun q24 => ?_) (fun q24 => ?_)
    · have hB := hB.1 q24
      refine lv_iload_n hx hb dX12_choice_174 rfl (lv_at hl 4 rfl) ?_
      refine lv_istore_n (lv' := [(3, .int x3), (10, .int s0), (0, .ref (ad 0)), (1, .int x1), (2, .int x2), (4, .int x4), (5, .int x5), (6, .int x6), (7, .int x7), (9, .int x9)]) hx hb dX12_choice_175 rfl hl (by decide) rfl (fun ls hl => ?_)
      obtain ⟨x5_25, ex5_25⟩ : ∃ y : Int32, y = x5 + 1 := ⟨_, rfl⟩
      have hB := hB x5_25 ex5_25
      refine lv_iinc (v := x5_25) (lv' := [(5, .int x5_25), (3, .int x3), (10, .int s0), (0, .ref (ad 0)), (1, .int x1), (2, .int x2), (4, .int x4), (6, .int x6), (7, .int x7), (9, .int x9)]) hx hb dX12_choice_176 hl (k := 6) rfl (by rw [ex5_25]; rfl) (by decide) rfl (fun ls hl => ?_)
      refine lv_goto (tgt := 19) hx hb dX12_choice_179 (by decide) ?_
      exact hX19 _ _ _ hB _ _ _ Z (lv_sub hl [3, 4, 5, 1, 6, 0] rfl)
    · have hB := hB.2 q24
      refine lv_iload_n hx hb dX12_choice_159 rfl (lv_at hl 4 rfl) ?_
      refine lv_if_ge (tgt := 174) hx hb dX12_choice_160 (by decide) (fun q26 => ?_) (fun q26 => ?_)
      · have hB := hB.1 q26
        refine lv_iload_n hx hb dX12_choice_174 rfl (lv_at hl 4 rfl) ?_
        refine lv_istore_n (lv' := [(3, .int x3), (10, .int s0), (0, .ref (ad 0)), (1, .int x1), (2, .int x2), (4, .int x4), (5, .int x5), (6, .int x6), (7, .int x7), (9, .int x9)]) hx hb dX12_choice_175 rfl hl (by decide) rfl (fun ls hl => ?_)
        obtain ⟨x5_27, ex5_27⟩ : ∃ y : Int32, y = x5 + 1 := ⟨_, rfl⟩
        have hB := hB x5_27 ex5_27
        refine lv_iinc (v := x5_27) (lv' := [(5, .int x5_27), (3, .int x3), (10, .int s0), (0, .ref (ad 0)), (1, .int x1), (2, .int x2), (4, .int x4), (6, .int x6), (7, .int x7), (9, .int x9)]) hx hb dX12_choice_176 hl (k := 6) rfl (by rw [ex5_27]; rfl) (by decide) rfl (fun ls hl => ?_)
        refine lv_goto (tgt := 19) hx hb dX12_choice_179 (by decide) ?_
        exact hX19 _ _ _ hB _ _ _ Z (lv_sub hl [3, 4, 5, 1, 6, 0] rfl)
      · have hB := hB.2 q26
        refine lv_bipush (v := 8) hx hb dX12_choice_163 (by decide) ?_
        refine lv_iload hx hb dX12_choice_165 (lv_at hl 7 rfl) ?_
        refine lv_imul hx hb dX12_choice_167 ?_
        refine lv_iload hx hb dX12_choice_168 (lv_at hl 8 rfl) ?_
        refine lv_iadd hx hb dX12_choice_170 ?_
        refine lv_goto (tgt := 175) hx hb dX12_choice_171 (by decide) ?_
        refine lv_topi (fun x3_28 ex3_28 => ?_)
        have hB := hB x3_28 ex3_28
        refine lv_istore_n (lv' := [(3, .int x3_28), (10, .int s0), (0, .ref (ad 0)), (1, .int x1), (2, .int x2), (4, .int x4), (5, .int x5), (6, .int x6), (7, .int x7), (9, .int x9)]) hx hb dX12_choice_175 rfl hl (by decide) rfl (fun ls hl => ?_)
        obtain ⟨x5_29, ex5_29⟩ : ∃ y : Int32, y = x5 + 1 := ⟨_, rfl⟩
        have hB := hB x5_29 ex5_29
        refine lv_iinc (v := x5_29) (lv' := [(5, .int x5_29), (3, .int x3_28), (10, .int s0), (0, .ref (ad 0)), (1, .int x1), (2, .int x2), (4, .int x4), (6, .int x6), (7, .int x7), (9, .int x9)]) hx hb dX12_choice_176 hl (k := 6) rfl (by rw [ex5_29]; rfl) (by decide) rfl (fun ls hl => ?_)
        refine lv_goto (tgt := 19) hx hb dX12_choice_179 (by decide) ?_
        exact hX19 _ _ _ hB _ _ _ Z (lv_sub hl [3, 4, 5, 1, 6, 0] rfl)
  · have hB := hB.2 q23
    refine lv_bipush (v := 8) hx hb dX12_choice_145 (by decide) ?_
    refine lv_iload hx hb dX12_choice_147 (lv_at hl 7 rfl) ?_
    refine lv_imul hx hb dX12_choice_149 ?_
    refine lv_iload hx hb dX12_choice_150 (lv_at hl 8 rfl) ?_
    refine lv_iadd hx hb dX12_choice_152 ?_
    exact e_iW C hr hlk Z dX12_choice_153 hB
set_option maxRecDepth 100000 in
set_option maxHeartbeats 4000000 in
theorem w_X12_choice_80 {M : Mem} {Q1 : Int32 → Mem → Prop} {X19 : Int32 → Int32 → Mem → Prop} {x1 : Int32} {x2 : Int32} {x3 : Int32} {x4 : Int32} {x5 : Int32} {x6 : Int32} {x7 : Int32} {s0 : Int32} (C : Cx T D p s m args c cX12_choice 11 "OneOfTwoModel") (hr : meth.sig.returnType = (some .int)) (hlk : meth.locks = false) (Z : Zz EM T D ad 16 A s.heap M H locs) (hX19 : ∀ (x3 : Int32) (x5 : Int32) (M : Mem), X19 x3 x5 M → ∀ (H : Heap) (locs : List Loc) (ls : Array Slot), Zz EM T D ad 16 A s.heap M H locs → lv_has ls 11 [(0, .ref (ad 0)), (1, .int x1), (2, .int x2), (3, .int x3), (4, .int x4), (5, .int x5)] → W p l e (RM 54) s m args below meth c H locs 0 0 (MQ below (QcW EM T D ad 16 A Q1) args s 0 0 A) (F0 m 19 ls [])) {ls : Array Slot} (hl : lv_has ls 11 [(0, .ref (ad 0)), (1, .int x1), (2, .int x2), (3, .int x3), (4, .int x4), (5, .int x5), (6, .int x6), (7, .int x7)]) (hB : B_X12_choice_80 Q1 X19 x1 x2 x3 x4 x5 x6 x7 s0 M) : W p l e (RM 54) s m args below meth c H locs 0 0 (MQ below (QcW EM T D ad 16 A Q1) args s 0 0 A) (F0 m 80 ls [.int s0]) := by
  have hx := C.x
  have hb := C.b
  delta B_X12_choice_80 at hB
  refine lv_istore (lv' := [(8, .int s0), (0, .ref (ad 0)), (1, .int x1), (2, .int x2), (3, .int x3), (4, .int x4), (5, .int x5), (6, .int x6), (7, .int x7)]) hx hb dX12_choice_80 hl (by decide) rfl (fun ls hl => ?_)
  refine lv_iload hx hb dX12_choice_82 (lv_at hl 0 rfl) ?_
  refine lv_if_eq (tgt := 176) hx hb dX12_choice_84 (by decide) (fun q12 => ?_) (fun q12 => ?_)
  · have hB := hB.1 q12
    obtain ⟨x5_13, ex5_13⟩ : ∃ y : Int32, y = x5 + 1 := ⟨_, rfl⟩
    have hB := hB x5_13 ex5_13
    refine lv_iinc (v := x5_13) (lv' := [(5, .int x5_13), (8, .int s0), (0, .ref (ad 0)), (1, .int x1), (2, .int x2), (3, .int x3), (4, .int x4), (6, .int x6), (7, .int x7)]) hx hb dX12_choice_176 hl (k := 6) rfl (by rw [ex5_13]; rfl) (by decide) rfl (fun ls hl => ?_)
    refine lv_goto (tgt := 19) hx hb dX12_choice_179 (by decide) ?_
    exact hX19 _ _ _ hB _ _ _ Z (lv_sub hl [2, 3, 4, 5, 6, 0] rfl)
  · have hB := hB.2 q12
    refine lv_aload_n hx hb dX12_choice_87 rfl (lv_at hl 1 rfl) ?_
    refine lv_iload hx hb dX12_choice_88 (lv_at hl 7 rfl) ?_
    refine lv_iload hx hb dX12_choice_90 (lv_at hl 8 rfl) ?_
    refine v_X12_canPull C hl.1 Z.1 tw_6_83 ⟨Nat.le_of_ble_eq_true rfl, Nat.le_of_ble_eq_true rfl⟩ ⟨Nat.le_refl _, Nat.le_refl _⟩ (Nat.le_of_ble_eq_true rfl) dX12_choice_92 hB (fun v14 hB => ?_)
    refine lv_if_ne (tgt := 101) hx hb dX12_choice_95 (by decide) (fun q15 => ?_) (fun q15 => ?_)
    · have hB := hB.1 q15
      refine lv_aload_n hx hb dX12_choice_101 rfl (lv_at hl 1 rfl) ?_
      refine lv_iload hx hb dX12_choice_102 (lv_at hl 7 rfl) ?_
      refine lv_iload hx hb dX12_choice_104 (lv_at hl 8 rfl) ?_
      refine v_X12_pulls C hl.1 Z tw_6_87 ⟨Nat.le_of_ble_eq_true rfl, Nat.le_of_ble_eq_true rfl⟩ ⟨Nat.le_refl _, Nat.le_refl _⟩ (Nat.le_of_ble_eq_true rfl) dX12_choice_106 hB (fun M16 H locs hB Z => ?_)
      refine lv_aload_n hx hb dX12_choice_109 rfl (lv_at hl 1 rfl) ?_
      refine lv_iload_n hx hb dX12_choice_110 rfl (lv_at hl 2 rfl) ?_
      refine v_X12_isContent C hl.1 Z tw_6_145 ⟨Nat.le_of_ble_eq_true rfl, Nat.le_of_ble_eq_true rfl⟩ ⟨Nat.le_refl _, Nat.le_refl _⟩ (Nat.le_of_ble_eq_true rfl) dX12_choice_111 hB (fun v17 M18 H locs hB Z => ?_)
      refine lv_istore (lv' := [(9, .int v17), (8, .int s0), (0, .ref (ad 0)), (1, .int x1), (2, .int x2), (3, .int x3), (4, .int x4), (5, .int x5), (6, .int x6), (7, .int x7)]) hx hb dX12_choice_114 hl (by decide) rfl (fun ls hl => ?_)
      refine lv_aload_n hx hb dX12_choice_116 rfl (lv_at hl 2 rfl) ?_
      refine lv_iload_n hx hb dX12_choice_117 rfl (lv_at hl 3 rfl) ?_
      refine v_X12_farOf C hl.1 Z tw_6_184 ⟨Nat.le_of_ble_eq_true rfl, Nat.le_of_ble_eq_true rfl⟩ ⟨Nat.le_refl _, Nat.le_refl _⟩ (Nat.le_of_ble_eq_true rfl) dX12_choice_118 hB (fun v19 M20 H locs hB Z => ?_)
      refine lv_iload_n hx hb dX12_choice_121 rfl (lv_at hl 4 rfl) ?_
      refine lv_icmp_ge (tgt := 129) hx hb dX12_choice_122 (by decide) (fun q21 => ?_) (fun q21 => ?_)
      · have hB := hB.1 q21
        refine lv_iconst (v := 0) hx hb dX12_choice_129 (by decide) ?_
        exact w_X12_choice_130 C hr hlk Z hX19 (lv_sub hl [2, 3, 4, 5, 6, 7, 8, 9, 0] rfl) hB
      · have hB := hB.2 q21
        refine lv_iconst (v := 1) hx hb dX12_choice_125 (by decide) ?_
        refine lv_goto (tgt := 130) hx hb dX12_choice_126 (by decide) ?_
        exact w_X12_choice_130 C hr hlk Z hX19 (lv_sub hl [2, 3, 4, 5, 6, 7, 8, 9, 0] rfl) hB
    · have hB := hB.2 q15
      refine lv_goto (tgt := 176) hx hb dX12_choice_98 (by decide) ?_
      obtain ⟨x5_30, ex5_30⟩ : ∃ y : Int32, y = x5 + 1 := ⟨_, rfl⟩
      have hB := hB x5_30 ex5_30
      refine lv_iinc (v := x5_30) (lv' := [(5, .int x5_30), (8, .int s0), (0, .ref (ad 0)), (1, .int x1), (2, .int x2), (3, .int x3), (4, .int x4), (6, .int x6), (7, .int x7)]) hx hb dX12_choice_176 hl (k := 6) rfl (by rw [ex5_30]; rfl) (by decide) rfl (fun ls hl => ?_)
      refine lv_goto (tgt := 19) hx hb dX12_choice_179 (by decide) ?_
      exact hX19 _ _ _ hB _ _ _ Z (lv_sub hl [2, 3, 4, 5, 6, 0] rfl)
set_option maxRecDepth 100000 in
set_option maxHeartbeats 4000000 in
theorem w_X12_choice_19 {M : Mem} {Q1 : Int32 → Mem → Prop} {x1 : Int32} {x2 : Int32} {x3 : Int32} {x4 : Int32} {x5 : Int32} (C : Cx T D p s m args c cX12_choice 11 "OneOfTwoModel") (hr : meth.sig.returnType = (some .int)) (hlk : meth.locks = false) (Z : Zz EM T D ad 16 A s.heap M H locs) {ls : Array Slot} (hl : lv_has ls 11 [(0, .ref (ad 0)), (1, .int x1), (2, .int x2), (3, .int x3), (4, .int x4), (5, .int x5)]) (hB : B_X12_choice_19 Q1 x1 x2 x3 x4 x5 M) : W p l e (RM 54) s m args below meth c H locs 0 0 (MQ below (QcW EM T D ad 16 A Q1) args s 0 0 A) (F0 m 19 ls []) := by
  delta B_X12_choice_19 at hB
  obtain ⟨X19, hX19, hY19⟩ : ∃ X19 : Int32 → Int32 → Mem → Prop, (∀ (x3 : Int32) (x5 : Int32) (M : Mem), X19 x3 x5 M → ∀ (H : Heap) (locs : List Loc) (ls : Array Slot), Zz EM T D ad 16 A s.heap M H locs → lv_has ls 11 [(0, .ref (ad 0)), (1, .int x1), (2, .int x2), (3, .int x3), (4, .int x4), (5, .int x5)] → W p l e (RM 54) s m args below meth c H locs 0 0 (MQ below (QcW EM T D ad 16 A Q1) args s 0 0 A) (F0 m 19 ls [])) ∧ (∀ (x3 : Int32) (x5 : Int32) (M : Mem), (∀ (H : Heap) (locs : List Loc) (ls : Array Slot), Zz EM T D ad 16 A s.heap M H locs → lv_has ls 11 [(0, .ref (ad 0)), (1, .int x1), (2, .int x2), (3, .int x3), (4, .int x4), (5, .int x5)] → W p l e (RM 54) s m args below meth c H locs 0 0 (MQ below (QcW EM T D ad 16 A Q1) args s 0 0 A) (F0 m 19 ls [])) → X19 x3 x5 M) := ⟨fun (x3 : Int32) (x5 : Int32) (M : Mem) => ∀ (H : Heap) (locs : List Loc) (ls : Array Slot), Zz EM T D ad 16 A s.heap M H locs → lv_has ls 11 [(0, .ref (ad 0)), (1, .int x1), (2, .int x2), (3, .int x3), (4, .int x4), (5, .int x5)] → W p l e (RM 54) s m args below meth c H locs 0 0 (MQ below (QcW EM T D ad 16 A Q1) args s 0 0 A) (F0 m 19 ls []), fun _ _ _ h => h, fun _ _ _ h => h⟩
  refine hX19 _ _ _ (hB X19 (fun x3 x5 M hB => hY19 _ _ _ (fun H locs ls Z hl => ?_))) _ _ _ Z hl
  have hx := C.x
  have hb := C.b
  refine lv_iload hx hb dX12_choice_19 (lv_at hl 5 rfl) ?_
  refine lv_iload hx hb dX12_choice_21 (lv_at hl 4 rfl) ?_
  refine lv_iload hx hb dX12_choice_23 (lv_at hl 4 rfl) ?_
  refine lv_imul hx hb dX12_choice_25 ?_
  refine lv_icmp_ge (tgt := 182) hx hb dX12_choice_26 (by decide) (fun q4 => ?_) (fun q4 => ?_)
  · have hB := hB.1 q4
    refine lv_iload_n hx hb dX12_choice_182 rfl (lv_at hl 3 rfl) ?_
    exact e_iW C hr hlk Z dX12_choice_183 hB
  · have hB := hB.2 q4
    refine lv_iload hx hb dX12_choice_29 (lv_at hl 5 rfl) ?_
    refine lv_iload hx hb dX12_choice_31 (lv_at hl 4 rfl) ?_
    obtain ⟨q5, hB⟩ := hB
    refine lv_idiv hx hb dX12_choice_33 q5 ?_
    refine lv_topi (fun x6_6 ex6_6 => ?_)
    have hB := hB x6_6 ex6_6
    refine lv_istore (lv' := [(6, .int x6_6), (0, .ref (ad 0)), (1, .int x1), (2, .int x2), (3, .int x3), (4, .int x4), (5, .int x5)]) hx hb dX12_choice_34 hl (by decide) rfl (fun ls hl => ?_)
    refine lv_iload hx hb dX12_choice_36 (lv_at hl 6 rfl) ?_
    refine lv_iload hx hb dX12_choice_38 (lv_at hl 5 rfl) ?_
    obtain ⟨q7, hB⟩ := hB
    refine lv_irem hx hb dX12_choice_40 q7 ?_
    refine lv_topi (fun x7_8 ex7_8 => ?_)
    have hB := hB x7_8 ex7_8
    refine lv_istore (lv' := [(7, .int x7_8), (6, .int x6_6), (0, .ref (ad 0)), (1, .int x1), (2, .int x2), (3, .int x3), (4, .int x4), (5, .int x5)]) hx hb dX12_choice_41 hl (by decide) rfl (fun ls hl => ?_)
    refine lv_aload_n hx hb dX12_choice_43 rfl (lv_at hl 2 rfl) ?_
    refine lv_iload hx hb dX12_choice_44 (lv_at hl 1 rfl) ?_
    refine lv_iconst (v := 0) hx hb dX12_choice_46 (by decide) ?_
    refine v_X12_its C hl.1 Z.1 tw_6_39 ⟨Nat.le_of_ble_eq_true rfl, Nat.le_of_ble_eq_true rfl⟩ ⟨Nat.le_refl _, Nat.le_refl _⟩ (Nat.le_of_ble_eq_true rfl) dX12_choice_47 hB (fun v9 hB => ?_)
    refine lv_aload_n hx hb dX12_choice_50 rfl (lv_at hl 2 rfl) ?_
    refine lv_iload_n hx hb dX12_choice_51 rfl (lv_at hl 3 rfl) ?_
    refine lv_iconst (v := 2) hx hb dX12_choice_52 (by decide) ?_
    refine v_X12_of C hl.1 Z.1 tw_6_133 ⟨Nat.le_of_ble_eq_true rfl, Nat.le_of_ble_eq_true rfl⟩ ⟨Nat.le_refl _, Nat.le_refl _⟩ (Nat.le_of_ble_eq_true rfl) dX12_choice_53 hB (fun v10 hB => ?_)
    refine lv_icmp_eq (tgt := 75) hx hb dX12_choice_56 (by decide) (fun q11 => ?_) (fun q11 => ?_)
    · have hB := hB.1 q11
      refine lv_iconst (v := 1) hx hb dX12_choice_75 (by decide) ?_
      refine lv_goto (tgt := 80) hx hb dX12_choice_76 (by decide) ?_
      exact w_X12_choice_80 C hr hlk Z hX19 (lv_sub hl [2, 3, 4, 5, 6, 7, 1, 0] rfl) hB
    · have hB := hB.2 q11
      refine lv_aload_n hx hb dX12_choice_59 rfl (lv_at hl 2 rfl) ?_
      refine lv_iload hx hb dX12_choice_60 (lv_at hl 0 rfl) ?_
      refine lv_iconst (v := 0) hx hb dX12_choice_62 (by decide) ?_
      refine v_X12_its C hl.1 Z.1 tw_6_39 ⟨Nat.le_of_ble_eq_true rfl, Nat.le_of_ble_eq_true rfl⟩ ⟨Nat.le_refl _, Nat.le_refl _⟩ (Nat.le_of_ble_eq_true rfl) dX12_choice_63 hB (fun v31 hB => ?_)
      refine lv_aload_n hx hb dX12_choice_66 rfl (lv_at hl 2 rfl) ?_
      refine lv_iload_n hx hb dX12_choice_67 rfl (lv_at hl 3 rfl) ?_
      refine lv_iconst (v := 2) hx hb dX12_choice_68 (by decide) ?_
      refine v_X12_of C hl.1 Z.1 tw_6_133 ⟨Nat.le_of_ble_eq_true rfl, Nat.le_of_ble_eq_true rfl⟩ ⟨Nat.le_refl _, Nat.le_refl _⟩ (Nat.le_of_ble_eq_true rfl) dX12_choice_69 hB (fun v32 hB => ?_)
      refine lv_icmp_ne (tgt := 79) hx hb dX12_choice_72 (by decide) (fun q33 => ?_) (fun q33 => ?_)
      · have hB := hB.1 q33
        refine lv_iconst (v := 0) hx hb dX12_choice_79 (by decide) ?_
        exact w_X12_choice_80 C hr hlk Z hX19 (lv_sub hl [2, 3, 4, 5, 6, 7, 1, 0] rfl) hB
      · have hB := hB.2 q33
        refine lv_iconst (v := 1) hx hb dX12_choice_75 (by decide) ?_
        refine lv_goto (tgt := 80) hx hb dX12_choice_76 (by decide) ?_
        exact w_X12_choice_80 C hr hlk Z hX19 (lv_sub hl [2, 3, 4, 5, 6, 7, 1, 0] rfl) hB
set_option maxRecDepth 100000 in
set_option maxHeartbeats 4000000 in
theorem c_X12_choice {l : Launch} {T : Nat → ClassId} {D : va_G} {ad : Nat → Nat} {M : Mem} {x1 : Int32} {sz : Nat} {Q1 : Int32 → Mem → Prop} (hB : P_X12_choice M x1 Q1) : Met l yX12_choice (Cond.code yX12_choice cX12_choice 11 (some .int) :: TB) (RM 54) (va_Pc [.ref (ad 0), .int x1] (WrP EM T D ad 16 M sz)) (QcW EM T D ad 16 (AA ad 16 sz) Q1) 0 0 (AA ad 16 sz) := by
  refine st_W (by decide) (Nat.le_of_ble_eq_true rfl) (fun p e s m args below meth c ls C hr hlk hsz Z hl => ?_)
  have hl : lv_has ls 11 [(0, .ref (ad 0)), (1, .int x1)] := hl
  generalize AA ad 16 sz = A at Z ⊢
  have hx := C.x
  have hb := C.b
  delta P_X12_choice at hB
  refine lv_aload_n hx hb dX12_choice_0 rfl (lv_at hl 0 rfl) ?_
  refine lv_iload_n hx hb dX12_choice_1 rfl (lv_at hl 1 rfl) ?_
  refine v_X12_farOf C hl.1 Z tw_6_184 ⟨Nat.le_of_ble_eq_true rfl, Nat.le_of_ble_eq_true rfl⟩ ⟨Nat.le_refl _, Nat.le_refl _⟩ (Nat.le_of_ble_eq_true rfl) dX12_choice_2 hB (fun v1 M2 H locs hB Z => ?_)
  refine lv_istore_n (lv' := [(2, .int v1), (0, .ref (ad 0)), (1, .int x1)]) hx hb dX12_choice_5 rfl hl (by decide) rfl (fun ls hl => ?_)
  refine lv_iconst (v := (-1)) hx hb dX12_choice_6 (by decide) ?_
  refine lv_istore_n (lv' := [(3, .int (-1)), (2, .int v1), (0, .ref (ad 0)), (1, .int x1)]) hx hb dX12_choice_7 rfl hl (by decide) rfl (fun ls hl => ?_)
  refine lv_aload_n hx hb dX12_choice_8 rfl (lv_at hl 2 rfl) ?_
  refine gf_X12_0 C Z.1 tw_5_98 dX12_choice_9 ?_
  refine lv_iconst (v := 0) hx hb dX12_choice_12 (by decide) ?_
  refine a_ldc C Z.1 aM_1 (vin rfl) (j := 0) rfl dX12_choice_13 ?_
  refine lv_topi (fun x4_3 ex4_3 => ?_)
  have hB := hB x4_3 ex4_3
  refine lv_istore (lv' := [(4, .int x4_3), (3, .int (-1)), (2, .int v1), (0, .ref (ad 0)), (1, .int x1)]) hx hb dX12_choice_14 hl (by decide) rfl (fun ls hl => ?_)
  refine lv_iconst (v := 0) hx hb dX12_choice_16 (by decide) ?_
  refine lv_istore (lv' := [(5, .int 0), (4, .int x4_3), (3, .int (-1)), (2, .int v1), (0, .ref (ad 0)), (1, .int x1)]) hx hb dX12_choice_17 hl (by decide) rfl (fun ls hl => ?_)
  exact w_X12_choice_19 C hr hlk Z (lv_sub hl [4, 5, 3, 2, 1, 0] rfl) hB
set_option maxRecDepth 100000 in
set_option maxHeartbeats 4000000 in
theorem v_X12_choice {M : Mem} {x1 : Int32} {Q1 : Int32 → Mem → Prop} (C : Cx T D p s m args c cc nL own) (hls : ls.size = nL) (Z : Zz EM T D ad 16 A H0 M H locs) (hlink : Cond.methodLink own index yX12_choice ∈ TB) (hR : 54 + 1 ≤ R.frames ∧ 8 + (11 + 11) + 48 * 54 ≤ R.locals) (hcs : cells ≤ R.cells ∧ slots ≤ R.slots) (hcat : (rest.map fun v => v.category).sum ≤ 8) (hdg : decode cc pc = .ok (.invokevirtual index, 3)) (hB : P_X12_choice M x1 Q1)
    (kk : ∀ (r : Int32) (M1 : Mem) (H1 : Heap) (locs1 : List Loc), Q1 r M1 → Zz EM T D ad 16 A H0 M1 H1 locs1 → W p l e R s m args below meth c H1 locs1 cells slots QQ (F0 m (pc + 3) ls (.int r :: rest))) : W p l e R s m args below meth c H locs cells slots QQ (F0 m pc ls (.int x1 :: .ref (ad 0) :: rest)) :=
  k_VW (ci := 12) (n := 1) (c_X12_choice hB) tw_6_183 tw_6_182 tw_s_53 tw_1_12 ⟨rfl, by decide, by decide, by decide +kernel⟩ rfl rfl C hls Z oM hlink hR hcs hcat rfl hdg kk
def B_X12_turnOf_2 (Q1 : Int32 → Mem → Prop) (x1 : Int32) (x2 : Int32) (M : Mem) : Prop :=
  ∀ X2 : Int32 → Mem → Prop, (∀ (x2 : Int32) (M : Mem), (P_X12_pullsOf M x1 (fun v1 => ((v1 ≤ x2 → Q1 x2 M) ∧
    (¬ v1 ≤ x2 → P_X12_isLocked M (fun v3 => ((¬ v3 = 0 → Q1 x2 M) ∧
      (v3 = 0 → P_X12_isContent M x1 (fun v5 M6 => ((¬ v5 = 0 → Q1 x2 M6) ∧
        (v5 = 0 → P_X12_choice M6 x1 (fun v8 M9 => ((0 ≤ v8 → P_X12_pulls M9 (v8 / 8) (v8 - v8 / 8 * 8) (fun M11 => ∀ x2_12 : Int32, x2_12 = x2 + 1 → X2 x2_12 M11)) ∧
          (¬ 0 ≤ v8 → Q1 x2 M9))))))))))))) → X2 x2 M) → X2 x2 M
def P_X12_turnOf (M : Mem) (x1 : Int32) (Q1 : Int32 → Mem → Prop) : Prop :=
  B_X12_turnOf_2 Q1 x1 0 M
set_option maxRecDepth 100000 in
set_option maxHeartbeats 4000000 in
theorem w_X12_turnOf_2 {M : Mem} {Q1 : Int32 → Mem → Prop} {x1 : Int32} {x2 : Int32} (C : Cx T D p s m args c cX12_turnOf 4 "OneOfTwoModel") (hr : meth.sig.returnType = (some .int)) (hlk : meth.locks = false) (Z : Zz EM T D ad 16 A s.heap M H locs) {ls : Array Slot} (hl : lv_has ls 4 [(0, .ref (ad 0)), (1, .int x1), (2, .int x2)]) (hB : B_X12_turnOf_2 Q1 x1 x2 M) : W p l e (RM 55) s m args below meth c H locs 0 0 (MQ below (QcW EM T D ad 16 A Q1) args s 0 0 A) (F0 m 2 ls []) := by
  delta B_X12_turnOf_2 at hB
  obtain ⟨X2, hX2, hY2⟩ : ∃ X2 : Int32 → Mem → Prop, (∀ (x2 : Int32) (M : Mem), X2 x2 M → ∀ (H : Heap) (locs : List Loc) (ls : Array Slot), Zz EM T D ad 16 A s.heap M H locs → lv_has ls 4 [(0, .ref (ad 0)), (1, .int x1), (2, .int x2)] → W p l e (RM 55) s m args below meth c H locs 0 0 (MQ below (QcW EM T D ad 16 A Q1) args s 0 0 A) (F0 m 2 ls [])) ∧ (∀ (x2 : Int32) (M : Mem), (∀ (H : Heap) (locs : List Loc) (ls : Array Slot), Zz EM T D ad 16 A s.heap M H locs → lv_has ls 4 [(0, .ref (ad 0)), (1, .int x1), (2, .int x2)] → W p l e (RM 55) s m args below meth c H locs 0 0 (MQ below (QcW EM T D ad 16 A Q1) args s 0 0 A) (F0 m 2 ls [])) → X2 x2 M) := ⟨fun (x2 : Int32) (M : Mem) => ∀ (H : Heap) (locs : List Loc) (ls : Array Slot), Zz EM T D ad 16 A s.heap M H locs → lv_has ls 4 [(0, .ref (ad 0)), (1, .int x1), (2, .int x2)] → W p l e (RM 55) s m args below meth c H locs 0 0 (MQ below (QcW EM T D ad 16 A Q1) args s 0 0 A) (F0 m 2 ls []), fun _ _ h => h, fun _ _ h => h⟩
  refine hX2 _ _ (hB X2 (fun x2 M hB => hY2 _ _ (fun H locs ls Z hl => ?_))) _ _ _ Z hl
  have hx := C.x
  have hb := C.b
  refine lv_iload_n hx hb dX12_turnOf_2 rfl (lv_at hl 2 rfl) ?_
  refine lv_aload_n hx hb dX12_turnOf_3 rfl (lv_at hl 0 rfl) ?_
  refine lv_iload_n hx hb dX12_turnOf_4 rfl (lv_at hl 1 rfl) ?_
  refine v_X12_pullsOf C hl.1 Z.1 tw_6_141 ⟨Nat.le_of_ble_eq_true rfl, Nat.le_of_ble_eq_true rfl⟩ ⟨Nat.le_refl _, Nat.le_refl _⟩ (Nat.le_of_ble_eq_true rfl) dX12_turnOf_5 hB (fun v1 hB => ?_)
  refine lv_icmp_ge (tgt := 56) hx hb dX12_turnOf_8 (by decide) (fun q2 => ?_) (fun q2 => ?_)
  · have hB := hB.1 q2
    refine lv_iload_n hx hb dX12_turnOf_56 rfl (lv_at hl 2 rfl) ?_
    exact e_iW C hr hlk Z dX12_turnOf_57 hB
  · have hB := hB.2 q2
    refine lv_aload_n hx hb dX12_turnOf_11 rfl (lv_at hl 0 rfl) ?_
    refine v_X12_isLocked C hl.1 Z.1 tw_6_79 ⟨Nat.le_of_ble_eq_true rfl, Nat.le_of_ble_eq_true rfl⟩ ⟨Nat.le_refl _, Nat.le_refl _⟩ (Nat.le_of_ble_eq_true rfl) dX12_turnOf_12 hB (fun v3 hB => ?_)
    refine lv_if_ne (tgt := 56) hx hb dX12_turnOf_15 (by decide) (fun q4 => ?_) (fun q4 => ?_)
    · have hB := hB.1 q4
      refine lv_iload_n hx hb dX12_turnOf_56 rfl (lv_at hl 2 rfl) ?_
      exact e_iW C hr hlk Z dX12_turnOf_57 hB
    · have hB := hB.2 q4
      refine lv_aload_n hx hb dX12_turnOf_18 rfl (lv_at hl 0 rfl) ?_
      refine lv_iload_n hx hb dX12_turnOf_19 rfl (lv_at hl 1 rfl) ?_
      refine v_X12_isContent C hl.1 Z tw_6_145 ⟨Nat.le_of_ble_eq_true rfl, Nat.le_of_ble_eq_true rfl⟩ ⟨Nat.le_refl _, Nat.le_refl _⟩ (Nat.le_of_ble_eq_true rfl) dX12_turnOf_20 hB (fun v5 M6 H locs hB Z => ?_)
      refine lv_if_ne (tgt := 56) hx hb dX12_turnOf_23 (by decide) (fun q7 => ?_) (fun q7 => ?_)
      · have hB := hB.1 q7
        refine lv_iload_n hx hb dX12_turnOf_56 rfl (lv_at hl 2 rfl) ?_
        exact e_iW C hr hlk Z dX12_turnOf_57 hB
      · have hB := hB.2 q7
        refine lv_aload_n hx hb dX12_turnOf_26 rfl (lv_at hl 0 rfl) ?_
        refine lv_iload_n hx hb dX12_turnOf_27 rfl (lv_at hl 1 rfl) ?_
        refine v_X12_choice C hl.1 Z tw_6_180 ⟨Nat.le_of_ble_eq_true rfl, Nat.le_of_ble_eq_true rfl⟩ ⟨Nat.le_refl _, Nat.le_refl _⟩ (Nat.le_of_ble_eq_true rfl) dX12_turnOf_28 hB (fun v8 M9 H locs hB Z => ?_)
        refine lv_istore_n (lv' := [(3, .int v8), (0, .ref (ad 0)), (1, .int x1), (2, .int x2)]) hx hb dX12_turnOf_31 rfl hl (by decide) rfl (fun ls hl => ?_)
        refine lv_iload_n hx hb dX12_turnOf_32 rfl (lv_at hl 0 rfl) ?_
        refine lv_if_ge (tgt := 38) hx hb dX12_turnOf_33 (by decide) (fun q10 => ?_) (fun q10 => ?_)
        · have hB := hB.1 q10
          refine lv_aload_n hx hb dX12_turnOf_38 rfl (lv_at hl 1 rfl) ?_
          refine lv_iload_n hx hb dX12_turnOf_39 rfl (lv_at hl 0 rfl) ?_
          refine lv_bipush (v := 8) hx hb dX12_turnOf_40 (by decide) ?_
          refine lv_idiv hx hb dX12_turnOf_42 (by decide) ?_
          refine lv_iload_n hx hb dX12_turnOf_43 rfl (lv_at hl 0 rfl) ?_
          refine lv_bipush (v := 8) hx hb dX12_turnOf_44 (by decide) ?_
          refine lv_irem hx hb dX12_turnOf_46 (by decide) ?_
          refine v_X12_pulls C hl.1 Z tw_6_87 ⟨Nat.le_of_ble_eq_true rfl, Nat.le_of_ble_eq_true rfl⟩ ⟨Nat.le_refl _, Nat.le_refl _⟩ (Nat.le_of_ble_eq_true rfl) dX12_turnOf_47 hB (fun M11 H locs hB Z => ?_)
          obtain ⟨x2_12, ex2_12⟩ : ∃ y : Int32, y = x2 + 1 := ⟨_, rfl⟩
          have hB := hB x2_12 ex2_12
          refine lv_iinc (v := x2_12) (lv' := [(2, .int x2_12), (3, .int v8), (0, .ref (ad 0)), (1, .int x1)]) hx hb dX12_turnOf_50 hl (k := 3) rfl (by rw [ex2_12]; rfl) (by decide) rfl (fun ls hl => ?_)
          refine lv_goto (tgt := 2) hx hb dX12_turnOf_53 (by decide) ?_
          exact hX2 _ _ hB _ _ _ Z (lv_sub hl [2, 3, 0] rfl)
        · have hB := hB.2 q10
          refine lv_iload_n hx hb dX12_turnOf_36 rfl (lv_at hl 3 rfl) ?_
          exact e_iW C hr hlk Z dX12_turnOf_37 hB
set_option maxRecDepth 100000 in
set_option maxHeartbeats 4000000 in
theorem c_X12_turnOf {l : Launch} {T : Nat → ClassId} {D : va_G} {ad : Nat → Nat} {M : Mem} {x1 : Int32} {sz : Nat} {Q1 : Int32 → Mem → Prop} (hB : P_X12_turnOf M x1 Q1) : Met l yX12_turnOf (Cond.code yX12_turnOf cX12_turnOf 4 (some .int) :: TB) (RM 55) (va_Pc [.ref (ad 0), .int x1] (WrP EM T D ad 16 M sz)) (QcW EM T D ad 16 (AA ad 16 sz) Q1) 0 0 (AA ad 16 sz) := by
  refine st_W (by decide) (Nat.le_of_ble_eq_true rfl) (fun p e s m args below meth c ls C hr hlk hsz Z hl => ?_)
  have hl : lv_has ls 4 [(0, .ref (ad 0)), (1, .int x1)] := hl
  generalize AA ad 16 sz = A at Z ⊢
  have hx := C.x
  have hb := C.b
  delta P_X12_turnOf at hB
  refine lv_iconst (v := 0) hx hb dX12_turnOf_0 (by decide) ?_
  refine lv_istore_n (lv' := [(2, .int 0), (0, .ref (ad 0)), (1, .int x1)]) hx hb dX12_turnOf_1 rfl hl (by decide) rfl (fun ls hl => ?_)
  exact w_X12_turnOf_2 C hr hlk Z (lv_sub hl [1, 2, 0] rfl) hB
set_option maxRecDepth 100000 in
set_option maxHeartbeats 4000000 in
theorem v_X12_turnOf {M : Mem} {x1 : Int32} {Q1 : Int32 → Mem → Prop} (C : Cx T D p s m args c cc nL own) (hls : ls.size = nL) (Z : Zz EM T D ad 16 A H0 M H locs) (hlink : Cond.methodLink own index yX12_turnOf ∈ TB) (hR : 55 + 1 ≤ R.frames ∧ 8 + (4 + 11) + 48 * 55 ≤ R.locals) (hcs : cells ≤ R.cells ∧ slots ≤ R.slots) (hcat : (rest.map fun v => v.category).sum ≤ 8) (hdg : decode cc pc = .ok (.invokevirtual index, 3)) (hB : P_X12_turnOf M x1 Q1)
    (kk : ∀ (r : Int32) (M1 : Mem) (H1 : Heap) (locs1 : List Loc), Q1 r M1 → Zz EM T D ad 16 A H0 M1 H1 locs1 → W p l e R s m args below meth c H1 locs1 cells slots QQ (F0 m (pc + 3) ls (.int r :: rest))) : W p l e R s m args below meth c H locs cells slots QQ (F0 m pc ls (.int x1 :: .ref (ad 0) :: rest)) :=
  k_VW (ci := 12) (n := 1) (c_X12_turnOf hB) tw_6_179 tw_6_178 tw_s_52 tw_1_12 ⟨rfl, by decide, by decide, by decide +kernel⟩ rfl rfl C hls Z oM hlink hR hcs hcat rfl hdg kk
def B_X12_turnOfAll_4 (Q1 : Int32 → Mem → Prop) (x1 : Int32) (x2 : Int32) (M : Mem) : Prop :=
  ∀ X4 : Int32 → Int32 → Mem → Prop, (∀ (x1 : Int32) (x2 : Int32) (M : Mem), ((((M 1 2) ≤ x2 → Q1 x1 M) ∧
    (¬ (M 1 2) ≤ x2 → P_X12_turnOf M x2 (fun v2 M3 => ∀ x1_4 : Int32, x1_4 = x1 + v2 → ∀ x2_5 : Int32, x2_5 = x2 + 1 → X4 x1_4 x2_5 M3)))) → X4 x1 x2 M) → X4 x1 x2 M
def P_X12_turnOfAll (M : Mem) (Q1 : Int32 → Mem → Prop) : Prop :=
  B_X12_turnOfAll_4 Q1 0 0 M
set_option maxRecDepth 100000 in
set_option maxHeartbeats 4000000 in
theorem w_X12_turnOfAll_4 {M : Mem} {Q1 : Int32 → Mem → Prop} {x1 : Int32} {x2 : Int32} (C : Cx T D p s m args c cX12_turnOfAll 3 "OneOfTwoModel") (hr : meth.sig.returnType = (some .int)) (hlk : meth.locks = false) (Z : Zz EM T D ad 16 A s.heap M H locs) {ls : Array Slot} (hl : lv_has ls 3 [(0, .ref (ad 0)), (1, .int x1), (2, .int x2)]) (hB : B_X12_turnOfAll_4 Q1 x1 x2 M) : W p l e (RM 56) s m args below meth c H locs 0 0 (MQ below (QcW EM T D ad 16 A Q1) args s 0 0 A) (F0 m 4 ls []) := by
  delta B_X12_turnOfAll_4 at hB
  obtain ⟨X4, hX4, hY4⟩ : ∃ X4 : Int32 → Int32 → Mem → Prop, (∀ (x1 : Int32) (x2 : Int32) (M : Mem), X4 x1 x2 M → ∀ (H : Heap) (locs : List Loc) (ls : Array Slot), Zz EM T D ad 16 A s.heap M H locs → lv_has ls 3 [(0, .ref (ad 0)), (1, .int x1), (2, .int x2)] → W p l e (RM 56) s m args below meth c H locs 0 0 (MQ below (QcW EM T D ad 16 A Q1) args s 0 0 A) (F0 m 4 ls [])) ∧ (∀ (x1 : Int32) (x2 : Int32) (M : Mem), (∀ (H : Heap) (locs : List Loc) (ls : Array Slot), Zz EM T D ad 16 A s.heap M H locs → lv_has ls 3 [(0, .ref (ad 0)), (1, .int x1), (2, .int x2)] → W p l e (RM 56) s m args below meth c H locs 0 0 (MQ below (QcW EM T D ad 16 A Q1) args s 0 0 A) (F0 m 4 ls [])) → X4 x1 x2 M) := ⟨fun (x1 : Int32) (x2 : Int32) (M : Mem) => ∀ (H : Heap) (locs : List Loc) (ls : Array Slot), Zz EM T D ad 16 A s.heap M H locs → lv_has ls 3 [(0, .ref (ad 0)), (1, .int x1), (2, .int x2)] → W p l e (RM 56) s m args below meth c H locs 0 0 (MQ below (QcW EM T D ad 16 A Q1) args s 0 0 A) (F0 m 4 ls []), fun _ _ _ h => h, fun _ _ _ h => h⟩
  refine hX4 _ _ _ (hB X4 (fun x1 x2 M hB => hY4 _ _ _ (fun H locs ls Z hl => ?_))) _ _ _ Z hl
  have hx := C.x
  have hb := C.b
  refine lv_iload_n hx hb dX12_turnOfAll_4 rfl (lv_at hl 2 rfl) ?_
  refine lv_aload_n hx hb dX12_turnOfAll_5 rfl (lv_at hl 0 rfl) ?_
  refine gf_X12_0 C Z.1 tw_5_98 dX12_turnOfAll_6 ?_
  refine lv_iconst (v := 2) hx hb dX12_turnOfAll_9 (by decide) ?_
  refine a_ldc C Z.1 aM_1 (vin rfl) (j := 2) rfl dX12_turnOfAll_10 ?_
  refine lv_icmp_ge (tgt := 28) hx hb dX12_turnOfAll_11 (by decide) (fun q1 => ?_) (fun q1 => ?_)
  · have hB := hB.1 q1
    refine lv_iload_n hx hb dX12_turnOfAll_28 rfl (lv_at hl 1 rfl) ?_
    exact e_iW C hr hlk Z dX12_turnOfAll_29 hB
  · have hB := hB.2 q1
    refine lv_iload_n hx hb dX12_turnOfAll_14 rfl (lv_at hl 1 rfl) ?_
    refine lv_aload_n hx hb dX12_turnOfAll_15 rfl (lv_at hl 0 rfl) ?_
    refine lv_iload_n hx hb dX12_turnOfAll_16 rfl (lv_at hl 2 rfl) ?_
    refine v_X12_turnOf C hl.1 Z tw_6_176 ⟨Nat.le_of_ble_eq_true rfl, Nat.le_of_ble_eq_true rfl⟩ ⟨Nat.le_refl _, Nat.le_refl _⟩ (Nat.le_of_ble_eq_true rfl) dX12_turnOfAll_17 hB (fun v2 M3 H locs hB Z => ?_)
    refine lv_iadd hx hb dX12_turnOfAll_20 ?_
    refine lv_topi (fun x1_4 ex1_4 => ?_)
    have hB := hB x1_4 ex1_4
    refine lv_istore_n (lv' := [(1, .int x1_4), (0, .ref (ad 0)), (2, .int x2)]) hx hb dX12_turnOfAll_21 rfl hl (by decide) rfl (fun ls hl => ?_)
    obtain ⟨x2_5, ex2_5⟩ : ∃ y : Int32, y = x2 + 1 := ⟨_, rfl⟩
    have hB := hB x2_5 ex2_5
    refine lv_iinc (v := x2_5) (lv' := [(2, .int x2_5), (1, .int x1_4), (0, .ref (ad 0))]) hx hb dX12_turnOfAll_22 hl (k := 2) rfl (by rw [ex2_5]; rfl) (by decide) rfl (fun ls hl => ?_)
    refine lv_goto (tgt := 4) hx hb dX12_turnOfAll_25 (by decide) ?_
    exact hX4 _ _ _ hB _ _ _ Z (lv_sub hl [2, 1, 0] rfl)
set_option maxRecDepth 100000 in
set_option maxHeartbeats 4000000 in
theorem c_X12_turnOfAll {l : Launch} {T : Nat → ClassId} {D : va_G} {ad : Nat → Nat} {M : Mem} {sz : Nat} {Q1 : Int32 → Mem → Prop} (hB : P_X12_turnOfAll M Q1) : Met l yX12_turnOfAll (Cond.code yX12_turnOfAll cX12_turnOfAll 3 (some .int) :: TB) (RM 56) (va_Pc [.ref (ad 0)] (WrP EM T D ad 16 M sz)) (QcW EM T D ad 16 (AA ad 16 sz) Q1) 0 0 (AA ad 16 sz) := by
  refine st_W (by decide) (Nat.le_of_ble_eq_true rfl) (fun p e s m args below meth c ls C hr hlk hsz Z hl => ?_)
  have hl : lv_has ls 3 [(0, .ref (ad 0))] := hl
  generalize AA ad 16 sz = A at Z ⊢
  have hx := C.x
  have hb := C.b
  delta P_X12_turnOfAll at hB
  refine lv_iconst (v := 0) hx hb dX12_turnOfAll_0 (by decide) ?_
  refine lv_istore_n (lv' := [(1, .int 0), (0, .ref (ad 0))]) hx hb dX12_turnOfAll_1 rfl hl (by decide) rfl (fun ls hl => ?_)
  refine lv_iconst (v := 0) hx hb dX12_turnOfAll_2 (by decide) ?_
  refine lv_istore_n (lv' := [(2, .int 0), (1, .int 0), (0, .ref (ad 0))]) hx hb dX12_turnOfAll_3 rfl hl (by decide) rfl (fun ls hl => ?_)
  exact w_X12_turnOfAll_4 C hr hlk Z (lv_sub hl [2, 1, 0] rfl) hB
set_option maxRecDepth 100000 in
set_option maxHeartbeats 4000000 in
theorem v_X12_turnOfAll {M : Mem} {Q1 : Int32 → Mem → Prop} (C : Cx T D p s m args c cc nL own) (hls : ls.size = nL) (Z : Zz EM T D ad 16 A H0 M H locs) (hlink : Cond.methodLink own index yX12_turnOfAll ∈ TB) (hR : 56 + 1 ≤ R.frames ∧ 8 + (3 + 11) + 48 * 56 ≤ R.locals) (hcs : cells ≤ R.cells ∧ slots ≤ R.slots) (hcat : (rest.map fun v => v.category).sum ≤ 8) (hdg : decode cc pc = .ok (.invokevirtual index, 3)) (hB : P_X12_turnOfAll M Q1)
    (kk : ∀ (r : Int32) (M1 : Mem) (H1 : Heap) (locs1 : List Loc), Q1 r M1 → Zz EM T D ad 16 A H0 M1 H1 locs1 → W p l e R s m args below meth c H1 locs1 cells slots QQ (F0 m (pc + 3) ls (.int r :: rest))) : W p l e R s m args below meth c H locs cells slots QQ (F0 m pc ls (.ref (ad 0) :: rest)) :=
  k_VW (ci := 12) (n := 0) (c_X12_turnOfAll hB) tw_6_200 tw_6_199 tw_s_56 tw_1_12 ⟨rfl, by decide, by decide, by decide +kernel⟩ rfl rfl C hls Z oM hlink hR hcs hcat rfl hdg kk
def P_X12_onesOf (x0 : Int32) (Q1 : Int32 → Prop) : Prop :=
  P_X12_ones x0 (fun v1 => Q1 v1)
set_option maxRecDepth 100000 in
set_option maxHeartbeats 4000000 in
theorem c_X12_onesOf {l : Launch} {x0 : Int32} {Q1 : Int32 → Prop} (hB : P_X12_onesOf x0 Q1) : Met l yX12_onesOf (Cond.code yX12_onesOf cX12_onesOf 1 (some .int) :: TB) (RM 2) (va_Pc [.int x0] StP) (QcR Q1) 0 0 (fun _ => False) := by
  refine st_S (by decide) (Nat.le_of_ble_eq_true rfl) (fun p e s m args below meth c ls C hr hlk hl => ?_)
  have hl : lv_has ls 1 [(0, .int x0)] := hl
  have hx := C.1
  have hb := C.2.1
  delta P_X12_onesOf at hB
  refine lv_iload_n hx hb dX12_onesOf_0 rfl (lv_at hl 0 rfl) ?_
  refine v_X12_ones C hl.1 tw_6_34 ⟨Nat.le_of_ble_eq_true rfl, Nat.le_of_ble_eq_true rfl⟩ ⟨Nat.le_refl _, Nat.le_refl _⟩ (Nat.le_of_ble_eq_true rfl) dX12_onesOf_1 hB (fun v1 hB => ?_)
  exact e_iR C hr hlk dX12_onesOf_4 hB
set_option maxRecDepth 100000 in
set_option maxHeartbeats 4000000 in
theorem v_X12_onesOf {x0 : Int32} {Q1 : Int32 → Prop} (C : CallFix p m c cc nL s args TB own) (hls : ls.size = nL) (hlink : Cond.methodLink own index yX12_onesOf ∈ TB) (hR : 2 + 1 ≤ R.frames ∧ 8 + (1 + 11) + 48 * 2 ≤ R.locals) (hcs : cells ≤ R.cells ∧ slots ≤ R.slots) (hcat : (rest.map fun v => v.category).sum ≤ 8) (hdg : decode cc pc = .ok (.invokestatic index, 3)) (hB : P_X12_onesOf x0 Q1)
    (kk : ∀ r : Int32, Q1 r → W p l e R s m args below meth c H locs cells slots QQ (F0 m (pc + 3) ls (.int r :: rest))) : W p l e R s m args below meth c H locs cells slots QQ (F0 m pc ls (.int x0 :: rest)) :=
  k_S (n := 1) (c_X12_onesOf hB) tw_6_203 tw_6_202 tw_1_12 ⟨by decide, by decide, by decide +kernel⟩ rfl C hls  hlink hR hcs hcat rfl hdg kk
def P_X12_anHour (M : Mem) (Q1 : Mem → Prop) : Prop :=
  P_X12_turnOfAll M (fun v1 M2 => P_X12_allContent M2 (fun v3 M4 => P_X12_onesOf v3 (fun v5 => P_X12_textGives M4 1 v5 (M4 1 3) v1 (fun v6 M7 => P_X12_held ((M2 1 5) + v6) 0 999999 (fun v8 => ∀ M9 : Mem, M9 = sf M7 1 5 v8 → ∀ M10 : Mem, M10 = sf M9 1 3 ((M9 1 3) + 1) → ((¬ (M10 1 3) = 24 → Q1 M10) ∧
    ((M10 1 3) = 24 → ∀ M12 : Mem, M12 = sf M10 1 3 0 → P_X12_held ((M12 1 4) + 1) 0 999 (fun v13 => ∀ M14 : Mem, M14 = sf M12 1 4 v13 → Q1 M14))))))))
set_option maxRecDepth 100000 in
set_option maxHeartbeats 4000000 in
theorem c_X12_anHour {l : Launch} {T : Nat → ClassId} {D : va_G} {ad : Nat → Nat} {M : Mem} {sz : Nat} {Q1 : Mem → Prop} (hB : P_X12_anHour M Q1) : Met l yX12_anHour (Cond.code yX12_anHour cX12_anHour 2 none :: TB) (RM 57) (va_Pc [.ref (ad 0)] (WrP EM T D ad 16 M sz)) (QcV EM T D ad 16 (AA ad 16 sz) Q1) 0 0 (AA ad 16 sz) := by
  refine st_W (by decide) (Nat.le_of_ble_eq_true rfl) (fun p e s m args below meth c ls C hr hlk hsz Z hl => ?_)
  have hl : lv_has ls 2 [(0, .ref (ad 0))] := hl
  generalize AA ad 16 sz = A at Z ⊢
  have hx := C.x
  have hb := C.b
  delta P_X12_anHour at hB
  refine lv_aload_n hx hb dX12_anHour_0 rfl (lv_at hl 0 rfl) ?_
  refine v_X12_turnOfAll C hl.1 Z tw_6_197 ⟨Nat.le_of_ble_eq_true rfl, Nat.le_of_ble_eq_true rfl⟩ ⟨Nat.le_refl _, Nat.le_refl _⟩ (Nat.le_of_ble_eq_true rfl) dX12_anHour_1 hB (fun v1 M2 H locs hB Z => ?_)
  refine lv_istore_n (lv' := [(1, .int v1), (0, .ref (ad 0))]) hx hb dX12_anHour_4 rfl hl (by decide) rfl (fun ls hl => ?_)
  refine lv_aload_n hx hb dX12_anHour_5 rfl (lv_at hl 1 rfl) ?_
  refine gf_X12_0 C Z.1 tw_5_98 dX12_anHour_6 ?_
  refine lv_iconst (v := 5) hx hb dX12_anHour_9 (by decide) ?_
  refine lv_aload_n hx hb dX12_anHour_10 rfl (lv_at hl 1 rfl) ?_
  refine gf_X12_0 C Z.1 tw_5_98 dX12_anHour_11 ?_
  refine lv_iconst (v := 5) hx hb dX12_anHour_14 (by decide) ?_
  refine a_ldc C Z.1 aM_1 (vin rfl) (j := 5) rfl dX12_anHour_15 ?_
  refine lv_aload_n hx hb dX12_anHour_16 rfl (lv_at hl 1 rfl) ?_
  refine lv_iconst (v := 1) hx hb dX12_anHour_17 (by decide) ?_
  refine lv_aload_n hx hb dX12_anHour_18 rfl (lv_at hl 1 rfl) ?_
  refine v_X12_allContent C hl.1 Z tw_6_168 ⟨Nat.le_of_ble_eq_true rfl, Nat.le_of_ble_eq_true rfl⟩ ⟨Nat.le_refl _, Nat.le_refl _⟩ (Nat.le_of_ble_eq_true rfl) dX12_anHour_19 hB (fun v3 M4 H locs hB Z => ?_)
  refine v_X12_onesOf C.1 hl.1 tw_6_201 ⟨Nat.le_of_ble_eq_true rfl, Nat.le_of_ble_eq_true rfl⟩ ⟨Nat.le_refl _, Nat.le_refl _⟩ (Nat.le_of_ble_eq_true rfl) dX12_anHour_22 hB (fun v5 hB => ?_)
  refine lv_aload_n hx hb dX12_anHour_25 rfl (lv_at hl 1 rfl) ?_
  refine gf_X12_0 C Z.1 tw_5_98 dX12_anHour_26 ?_
  refine lv_iconst (v := 3) hx hb dX12_anHour_29 (by decide) ?_
  refine a_ldc C Z.1 aM_1 (vin rfl) (j := 3) rfl dX12_anHour_30 ?_
  refine lv_iload_n hx hb dX12_anHour_31 rfl (lv_at hl 0 rfl) ?_
  refine v_X12_textGives C hl.1 Z tw_6_14 ⟨Nat.le_of_ble_eq_true rfl, Nat.le_of_ble_eq_true rfl⟩ ⟨Nat.le_refl _, Nat.le_refl _⟩ (Nat.le_of_ble_eq_true rfl) dX12_anHour_32 hB (fun v6 M7 H locs hB Z => ?_)
  refine lv_iadd hx hb dX12_anHour_35 ?_
  refine lv_iconst (v := 0) hx hb dX12_anHour_36 (by decide) ?_
  refine lv_ldc hx hb C.1.2.2.2.1 (C.1.2.2.2.2 _ tw_6_204) dX12_anHour_37 ?_
  refine v_X12_held C.1 hl.1 tw_6_18 ⟨Nat.le_of_ble_eq_true rfl, Nat.le_of_ble_eq_true rfl⟩ ⟨Nat.le_refl _, Nat.le_refl _⟩ (Nat.le_of_ble_eq_true rfl) dX12_anHour_39 hB (fun v8 hB => ?_)
  refine a_stc C Z aM_1 (vin rfl) rfl dX12_anHour_42 (fun M9 H locs eM9 Z => ?_)
  have hB := hB M9 eM9
  refine lv_aload_n hx hb dX12_anHour_43 rfl (lv_at hl 1 rfl) ?_
  refine gf_X12_0 C Z.1 tw_5_98 dX12_anHour_44 ?_
  refine lv_iconst (v := 3) hx hb dX12_anHour_47 (by decide) ?_
  refine lv_dup2_11 hx hb dX12_anHour_48 rfl rfl ?_
  refine a_ldc C Z.1 aM_1 (vin rfl) (j := 3) rfl dX12_anHour_49 ?_
  refine lv_iconst (v := 1) hx hb dX12_anHour_50 (by decide) ?_
  refine lv_iadd hx hb dX12_anHour_51 ?_
  refine a_stc C Z aM_1 (vin rfl) rfl dX12_anHour_52 (fun M10 H locs eM10 Z => ?_)
  have hB := hB M10 eM10
  refine lv_aload_n hx hb dX12_anHour_53 rfl (lv_at hl 1 rfl) ?_
  refine gf_X12_0 C Z.1 tw_5_98 dX12_anHour_54 ?_
  refine lv_iconst (v := 3) hx hb dX12_anHour_57 (by decide) ?_
  refine a_ldc C Z.1 aM_1 (vin rfl) (j := 3) rfl dX12_anHour_58 ?_
  refine lv_bipush (v := 24) hx hb dX12_anHour_59 (by decide) ?_
  refine lv_icmp_ne (tgt := 92) hx hb dX12_anHour_61 (by decide) (fun q11 => ?_) (fun q11 => ?_)
  · have hB := hB.1 q11
    exact e_vW C hr hlk Z dX12_anHour_92 hB
  · have hB := hB.2 q11
    refine lv_aload_n hx hb dX12_anHour_64 rfl (lv_at hl 1 rfl) ?_
    refine gf_X12_0 C Z.1 tw_5_98 dX12_anHour_65 ?_
    refine lv_iconst (v := 3) hx hb dX12_anHour_68 (by decide) ?_
    refine lv_iconst (v := 0) hx hb dX12_anHour_69 (by decide) ?_
    refine a_stc C Z aM_1 (vin rfl) rfl dX12_anHour_70 (fun M12 H locs eM12 Z => ?_)
    have hB := hB M12 eM12
    refine lv_aload_n hx hb dX12_anHour_71 rfl (lv_at hl 1 rfl) ?_
    refine gf_X12_0 C Z.1 tw_5_98 dX12_anHour_72 ?_
    refine lv_iconst (v := 4) hx hb dX12_anHour_75 (by decide) ?_
    refine lv_aload_n hx hb dX12_anHour_76 rfl (lv_at hl 1 rfl) ?_
    refine gf_X12_0 C Z.1 tw_5_98 dX12_anHour_77 ?_
    refine lv_iconst (v := 4) hx hb dX12_anHour_80 (by decide) ?_
    refine a_ldc C Z.1 aM_1 (vin rfl) (j := 4) rfl dX12_anHour_81 ?_
    refine lv_iconst (v := 1) hx hb dX12_anHour_82 (by decide) ?_
    refine lv_iadd hx hb dX12_anHour_83 ?_
    refine lv_iconst (v := 0) hx hb dX12_anHour_84 (by decide) ?_
    refine lv_sipush (v := 999) hx hb dX12_anHour_85 (by decide) ?_
    refine v_X12_held C.1 hl.1 tw_6_18 ⟨Nat.le_of_ble_eq_true rfl, Nat.le_of_ble_eq_true rfl⟩ ⟨Nat.le_refl _, Nat.le_refl _⟩ (Nat.le_of_ble_eq_true rfl) dX12_anHour_88 hB (fun v13 hB => ?_)
    refine a_stc C Z aM_1 (vin rfl) rfl dX12_anHour_91 (fun M14 H locs eM14 Z => ?_)
    have hB := hB M14 eM14
    exact e_vW C hr hlk Z dX12_anHour_92 hB
set_option maxRecDepth 100000 in
set_option maxHeartbeats 4000000 in
theorem v_X12_anHour {M : Mem} {Q1 : Mem → Prop} (C : Cx T D p s m args c cc nL own) (hls : ls.size = nL) (Z : Zz EM T D ad 16 A H0 M H locs) (hlink : Cond.methodLink own index yX12_anHour ∈ TB) (hR : 57 + 1 ≤ R.frames ∧ 8 + (2 + 11) + 48 * 57 ≤ R.locals) (hcs : cells ≤ R.cells ∧ slots ≤ R.slots) (hcat : (rest.map fun v => v.category).sum ≤ 8) (hdg : decode cc pc = .ok (.invokevirtual index, 3)) (hB : P_X12_anHour M Q1)
    (kk : ∀ (M1 : Mem) (H1 : Heap) (locs1 : List Loc), Q1 M1 → Zz EM T D ad 16 A H0 M1 H1 locs1 → W p l e R s m args below meth c H1 locs1 cells slots QQ (F0 m (pc + 3) ls rest)) : W p l e R s m args below meth c H locs cells slots QQ (F0 m pc ls (.ref (ad 0) :: rest)) :=
  k_VV (ci := 12) (n := 0) (c_X12_anHour hB) tw_6_196 tw_6_195 tw_s_55 tw_1_12 ⟨rfl, by decide, by decide, by decide +kernel⟩ rfl rfl C hls Z oM hlink hR hcs hcat rfl hdg kk
def P_X12_turn (M : Mem) (x1 : Int32) (Q1 : Int32 → Mem → Prop) : Prop :=
  P_X12_isLodger M x1 (fun v1 => ((v1 = 0 → P_X12_finds M 1 (fun v3 M4 => Q1 v3 M4)) ∧
    (¬ v1 = 0 → P_X12_turnOf M x1 (fun v5 M6 => Q1 v5 M6))))
set_option maxRecDepth 100000 in
set_option maxHeartbeats 4000000 in
theorem c_X12_turn {l : Launch} {T : Nat → ClassId} {D : va_G} {ad : Nat → Nat} {M : Mem} {x1 : Int32} {sz : Nat} {Q1 : Int32 → Mem → Prop} (hB : P_X12_turn M x1 Q1) : Met l yX12_turn (Cond.code yX12_turn cX12_turn 2 (some .int) :: TB) (RM 56) (va_Pc [.ref (ad 0), .int x1] (WrP EM T D ad 16 M sz)) (QcW EM T D ad 16 (AA ad 16 sz) Q1) 0 0 (AA ad 16 sz) := by
  refine st_W (by decide) (Nat.le_of_ble_eq_true rfl) (fun p e s m args below meth c ls C hr hlk hsz Z hl => ?_)
  have hl : lv_has ls 2 [(0, .ref (ad 0)), (1, .int x1)] := hl
  generalize AA ad 16 sz = A at Z ⊢
  have hx := C.x
  have hb := C.b
  delta P_X12_turn at hB
  refine lv_aload_n hx hb dX12_turn_0 rfl (lv_at hl 0 rfl) ?_
  refine lv_iload_n hx hb dX12_turn_1 rfl (lv_at hl 1 rfl) ?_
  refine v_X12_isLodger C hl.1 Z.1 tw_6_124 ⟨Nat.le_of_ble_eq_true rfl, Nat.le_of_ble_eq_true rfl⟩ ⟨Nat.le_refl _, Nat.le_refl _⟩ (Nat.le_of_ble_eq_true rfl) dX12_turn_2 hB (fun v1 hB => ?_)
  refine lv_if_eq (tgt := 16) hx hb dX12_turn_5 (by decide) (fun q2 => ?_) (fun q2 => ?_)
  · have hB := hB.1 q2
    refine lv_aload_n hx hb dX12_turn_16 rfl (lv_at hl 0 rfl) ?_
    refine lv_iconst (v := 1) hx hb dX12_turn_17 (by decide) ?_
    refine v_X12_finds C hl.1 Z tw_5_194 ⟨Nat.le_of_ble_eq_true rfl, Nat.le_of_ble_eq_true rfl⟩ ⟨Nat.le_refl _, Nat.le_refl _⟩ (Nat.le_of_ble_eq_true rfl) dX12_turn_18 hB (fun v3 M4 H locs hB Z => ?_)
    exact e_iW C hr hlk Z dX12_turn_21 hB
  · have hB := hB.2 q2
    refine lv_aload_n hx hb dX12_turn_8 rfl (lv_at hl 0 rfl) ?_
    refine lv_iload_n hx hb dX12_turn_9 rfl (lv_at hl 1 rfl) ?_
    refine v_X12_turnOf C hl.1 Z tw_6_176 ⟨Nat.le_of_ble_eq_true rfl, Nat.le_of_ble_eq_true rfl⟩ ⟨Nat.le_refl _, Nat.le_refl _⟩ (Nat.le_of_ble_eq_true rfl) dX12_turn_10 hB (fun v5 M6 H locs hB Z => ?_)
    refine lv_goto (tgt := 21) hx hb dX12_turn_13 (by decide) ?_
    exact e_iW C hr hlk Z dX12_turn_21 hB
set_option maxRecDepth 100000 in
set_option maxHeartbeats 4000000 in
theorem v_X12_turn {M : Mem} {x1 : Int32} {Q1 : Int32 → Mem → Prop} (C : Cx T D p s m args c cc nL own) (hls : ls.size = nL) (Z : Zz EM T D ad 16 A H0 M H locs) (hlink : Cond.methodLink own index yX12_turn ∈ TB) (hR : 56 + 1 ≤ R.frames ∧ 8 + (2 + 11) + 48 * 56 ≤ R.locals) (hcs : cells ≤ R.cells ∧ slots ≤ R.slots) (hcat : (rest.map fun v => v.category).sum ≤ 8) (hdg : decode cc pc = .ok (.invokevirtual index, 3)) (hB : P_X12_turn M x1 Q1)
    (kk : ∀ (r : Int32) (M1 : Mem) (H1 : Heap) (locs1 : List Loc), Q1 r M1 → Zz EM T D ad 16 A H0 M1 H1 locs1 → W p l e R s m args below meth c H1 locs1 cells slots QQ (F0 m (pc + 3) ls (.int r :: rest))) : W p l e R s m args below meth c H locs cells slots QQ (F0 m pc ls (.int x1 :: .ref (ad 0) :: rest)) :=
  k_VW (ci := 12) (n := 1) (c_X12_turn hB) tw_6_175 tw_6_173 tw_6_174 tw_1_12 ⟨rfl, by decide, by decide, by decide +kernel⟩ rfl rfl C hls Z oM hlink hR hcs hcat rfl hdg kk
def B_X12_hours_20 (Q1 : Int32 → Mem → Prop) (x1 : Int32) (x2 : Int32) (M : Mem) : Prop :=
  ∀ X20 : Int32 → Mem → Prop, (∀ (x2 : Int32) (M : Mem), (((x1 ≤ x2 → Q1 (M 1 5) M) ∧
    (¬ x1 ≤ x2 → P_X12_anHour M (fun M4 => ∀ x2_5 : Int32, x2_5 = x2 + 1 → X20 x2_5 M4)))) → X20 x2 M) → X20 x2 M
def P_X12_hours (M : Mem) (x1 : Int32) (Q1 : Int32 → Mem → Prop) : Prop :=
  P_X12_in (x1.toInt64) 1 100 (fun v1 => ((¬ v1 = 0 → B_X12_hours_20 Q1 x1 0 M) ∧
    (v1 = 0 → P_X12_finds M 1 (fun v6 M7 => Q1 v6 M7))))
set_option maxRecDepth 100000 in
set_option maxHeartbeats 4000000 in
theorem w_X12_hours_20 {M : Mem} {Q1 : Int32 → Mem → Prop} {x1 : Int32} {x2 : Int32} (C : Cx T D p s m args c cX12_hours 3 "OneOfTwoModel") (hr : meth.sig.returnType = (some .int)) (hlk : meth.locks = false) (Z : Zz EM T D ad 16 A s.heap M H locs) {ls : Array Slot} (hl : lv_has ls 3 [(0, .ref (ad 0)), (1, .int x1), (2, .int x2)]) (hB : B_X12_hours_20 Q1 x1 x2 M) : W p l e (RM 58) s m args below meth c H locs 0 0 (MQ below (QcW EM T D ad 16 A Q1) args s 0 0 A) (F0 m 20 ls []) := by
  delta B_X12_hours_20 at hB
  obtain ⟨X20, hX20, hY20⟩ : ∃ X20 : Int32 → Mem → Prop, (∀ (x2 : Int32) (M : Mem), X20 x2 M → ∀ (H : Heap) (locs : List Loc) (ls : Array Slot), Zz EM T D ad 16 A s.heap M H locs → lv_has ls 3 [(0, .ref (ad 0)), (1, .int x1), (2, .int x2)] → W p l e (RM 58) s m args below meth c H locs 0 0 (MQ below (QcW EM T D ad 16 A Q1) args s 0 0 A) (F0 m 20 ls [])) ∧ (∀ (x2 : Int32) (M : Mem), (∀ (H : Heap) (locs : List Loc) (ls : Array Slot), Zz EM T D ad 16 A s.heap M H locs → lv_has ls 3 [(0, .ref (ad 0)), (1, .int x1), (2, .int x2)] → W p l e (RM 58) s m args below meth c H locs 0 0 (MQ below (QcW EM T D ad 16 A Q1) args s 0 0 A) (F0 m 20 ls [])) → X20 x2 M) := ⟨fun (x2 : Int32) (M : Mem) => ∀ (H : Heap) (locs : List Loc) (ls : Array Slot), Zz EM T D ad 16 A s.heap M H locs → lv_has ls 3 [(0, .ref (ad 0)), (1, .int x1), (2, .int x2)] → W p l e (RM 58) s m args below meth c H locs 0 0 (MQ below (QcW EM T D ad 16 A Q1) args s 0 0 A) (F0 m 20 ls []), fun _ _ h => h, fun _ _ h => h⟩
  refine hX20 _ _ (hB X20 (fun x2 M hB => hY20 _ _ (fun H locs ls Z hl => ?_))) _ _ _ Z hl
  have hx := C.x
  have hb := C.b
  refine lv_iload_n hx hb dX12_hours_20 rfl (lv_at hl 2 rfl) ?_
  refine lv_iload_n hx hb dX12_hours_21 rfl (lv_at hl 1 rfl) ?_
  refine lv_icmp_ge (tgt := 35) hx hb dX12_hours_22 (by decide) (fun q3 => ?_) (fun q3 => ?_)
  · have hB := hB.1 q3
    refine lv_aload_n hx hb dX12_hours_35 rfl (lv_at hl 0 rfl) ?_
    refine gf_X12_0 C Z.1 tw_5_98 dX12_hours_36 ?_
    refine lv_iconst (v := 5) hx hb dX12_hours_39 (by decide) ?_
    refine a_ldc C Z.1 aM_1 (vin rfl) (j := 5) rfl dX12_hours_40 ?_
    exact e_iW C hr hlk Z dX12_hours_41 hB
  · have hB := hB.2 q3
    refine lv_aload_n hx hb dX12_hours_25 rfl (lv_at hl 0 rfl) ?_
    refine v_X12_anHour C hl.1 Z tw_6_193 ⟨Nat.le_of_ble_eq_true rfl, Nat.le_of_ble_eq_true rfl⟩ ⟨Nat.le_refl _, Nat.le_refl _⟩ (Nat.le_of_ble_eq_true rfl) dX12_hours_26 hB (fun M4 H locs hB Z => ?_)
    obtain ⟨x2_5, ex2_5⟩ : ∃ y : Int32, y = x2 + 1 := ⟨_, rfl⟩
    have hB := hB x2_5 ex2_5
    refine lv_iinc (v := x2_5) (lv' := [(2, .int x2_5), (0, .ref (ad 0)), (1, .int x1)]) hx hb dX12_hours_29 hl (k := 2) rfl (by rw [ex2_5]; rfl) (by decide) rfl (fun ls hl => ?_)
    refine lv_goto (tgt := 20) hx hb dX12_hours_32 (by decide) ?_
    exact hX20 _ _ hB _ _ _ Z (lv_sub hl [1, 2, 0] rfl)
set_option maxRecDepth 100000 in
set_option maxHeartbeats 4000000 in
theorem c_X12_hours {l : Launch} {T : Nat → ClassId} {D : va_G} {ad : Nat → Nat} {M : Mem} {x1 : Int32} {sz : Nat} {Q1 : Int32 → Mem → Prop} (hB : P_X12_hours M x1 Q1) : Met l yX12_hours (Cond.code yX12_hours cX12_hours 3 (some .int) :: TB) (RM 58) (va_Pc [.ref (ad 0), .int x1] (WrP EM T D ad 16 M sz)) (QcW EM T D ad 16 (AA ad 16 sz) Q1) 0 0 (AA ad 16 sz) := by
  refine st_W (by decide) (Nat.le_of_ble_eq_true rfl) (fun p e s m args below meth c ls C hr hlk hsz Z hl => ?_)
  have hl : lv_has ls 3 [(0, .ref (ad 0)), (1, .int x1)] := hl
  generalize AA ad 16 sz = A at Z ⊢
  have hx := C.x
  have hb := C.b
  delta P_X12_hours at hB
  refine lv_iload_n hx hb dX12_hours_0 rfl (lv_at hl 1 rfl) ?_
  refine lv_i2l hx hb dX12_hours_1 rfl ?_
  refine lv_lconst (v := 1) hx hb dX12_hours_2 (by decide) ?_
  refine lv_ldc2 hx hb C.1.2.2.2.1 (C.1.2.2.2.2 _ tw_6_192) dX12_hours_3 ?_
  refine v_X12_in C.1 hl.1 tw_5_191 ⟨Nat.le_of_ble_eq_true rfl, Nat.le_of_ble_eq_true rfl⟩ ⟨Nat.le_refl _, Nat.le_refl _⟩ (Nat.le_of_ble_eq_true rfl) dX12_hours_6 hB (fun v1 hB => ?_)
  refine lv_if_ne (tgt := 18) hx hb dX12_hours_9 (by decide) (fun q2 => ?_) (fun q2 => ?_)
  · have hB := hB.1 q2
    refine lv_iconst (v := 0) hx hb dX12_hours_18 (by decide) ?_
    refine lv_istore_n (lv' := [(2, .int 0), (0, .ref (ad 0)), (1, .int x1)]) hx hb dX12_hours_19 rfl hl (by decide) rfl (fun ls hl => ?_)
    exact w_X12_hours_20 C hr hlk Z (lv_sub hl [1, 2, 0] rfl) hB
  · have hB := hB.2 q2
    refine lv_aload_n hx hb dX12_hours_12 rfl (lv_at hl 0 rfl) ?_
    refine lv_iconst (v := 1) hx hb dX12_hours_13 (by decide) ?_
    refine v_X12_finds C hl.1 Z tw_5_194 ⟨Nat.le_of_ble_eq_true rfl, Nat.le_of_ble_eq_true rfl⟩ ⟨Nat.le_refl _, Nat.le_refl _⟩ (Nat.le_of_ble_eq_true rfl) dX12_hours_14 hB (fun v6 M7 H locs hB Z => ?_)
    exact e_iW C hr hlk Z dX12_hours_17 hB
set_option maxRecDepth 100000 in
set_option maxHeartbeats 4000000 in
theorem v_X12_hours {M : Mem} {x1 : Int32} {Q1 : Int32 → Mem → Prop} (C : Cx T D p s m args c cc nL own) (hls : ls.size = nL) (Z : Zz EM T D ad 16 A H0 M H locs) (hlink : Cond.methodLink own index yX12_hours ∈ TB) (hR : 58 + 1 ≤ R.frames ∧ 8 + (3 + 11) + 48 * 58 ≤ R.locals) (hcs : cells ≤ R.cells ∧ slots ≤ R.slots) (hcat : (rest.map fun v => v.category).sum ≤ 8) (hdg : decode cc pc = .ok (.invokevirtual index, 3)) (hB : P_X12_hours M x1 Q1)
    (kk : ∀ (r : Int32) (M1 : Mem) (H1 : Heap) (locs1 : List Loc), Q1 r M1 → Zz EM T D ad 16 A H0 M1 H1 locs1 → W p l e R s m args below meth c H1 locs1 cells slots QQ (F0 m (pc + 3) ls (.int r :: rest))) : W p l e R s m args below meth c H locs cells slots QQ (F0 m pc ls (.int x1 :: .ref (ad 0) :: rest)) :=
  k_VW (ci := 12) (n := 1) (c_X12_hours hB) tw_6_191 tw_6_189 tw_6_190 tw_1_12 ⟨rfl, by decide, by decide, by decide +kernel⟩ rfl rfl C hls Z oM hlink hR hcs hcat rfl hdg kk
def P_X12_drawn (M : Mem) (Q1 : Int32 → Mem → Prop) : Prop :=
  ∀ M1 : Mem, M1 = sf M 1 8 (((M 1 8) * 1103515245) + 12345) → Q1 (((M1 1 8).toUInt32 >>> ((8 : Int32).toUInt32 &&& Int32.toUInt32 31)).toInt32) M1
set_option maxRecDepth 100000 in
set_option maxHeartbeats 4000000 in
theorem c_X12_drawn {l : Launch} {T : Nat → ClassId} {D : va_G} {ad : Nat → Nat} {M : Mem} {sz : Nat} {Q1 : Int32 → Mem → Prop} (hB : P_X12_drawn M Q1) : Met l yX12_drawn (Cond.code yX12_drawn cX12_drawn 1 (some .int) :: TB) (RM 1) (va_Pc [.ref (ad 0)] (WrP EM T D ad 16 M sz)) (QcW EM T D ad 16 (AA ad 16 sz) Q1) 0 0 (AA ad 16 sz) := by
  refine st_W (by decide) (Nat.le_of_ble_eq_true rfl) (fun p e s m args below meth c ls C hr hlk hsz Z hl => ?_)
  have hl : lv_has ls 1 [(0, .ref (ad 0))] := hl
  generalize AA ad 16 sz = A at Z ⊢
  have hx := C.x
  have hb := C.b
  delta P_X12_drawn at hB
  refine lv_aload_n hx hb dX12_drawn_0 rfl (lv_at hl 0 rfl) ?_
  refine gf_X12_0 C Z.1 tw_5_98 dX12_drawn_1 ?_
  refine lv_bipush (v := 8) hx hb dX12_drawn_4 (by decide) ?_
  refine lv_aload_n hx hb dX12_drawn_6 rfl (lv_at hl 0 rfl) ?_
  refine gf_X12_0 C Z.1 tw_5_98 dX12_drawn_7 ?_
  refine lv_bipush (v := 8) hx hb dX12_drawn_10 (by decide) ?_
  refine a_ldc C Z.1 aM_1 (vin rfl) (j := 8) rfl dX12_drawn_12 ?_
  refine lv_ldc hx hb C.1.2.2.2.1 (C.1.2.2.2.2 _ tw_6_213) dX12_drawn_13 ?_
  refine lv_imul hx hb dX12_drawn_15 ?_
  refine lv_sipush (v := 12345) hx hb dX12_drawn_16 (by decide) ?_
  refine lv_iadd hx hb dX12_drawn_19 ?_
  refine a_stc C Z aM_1 (vin rfl) rfl dX12_drawn_20 (fun M1 H locs eM1 Z => ?_)
  have hB := hB M1 eM1
  refine lv_aload_n hx hb dX12_drawn_21 rfl (lv_at hl 0 rfl) ?_
  refine gf_X12_0 C Z.1 tw_5_98 dX12_drawn_22 ?_
  refine lv_bipush (v := 8) hx hb dX12_drawn_25 (by decide) ?_
  refine a_ldc C Z.1 aM_1 (vin rfl) (j := 8) rfl dX12_drawn_27 ?_
  refine lv_bipush (v := 8) hx hb dX12_drawn_28 (by decide) ?_
  refine lv_iushr hx hb dX12_drawn_30 rfl ?_
  exact e_iW C hr hlk Z dX12_drawn_31 hB
set_option maxRecDepth 100000 in
set_option maxHeartbeats 4000000 in
theorem v_X12_drawn {M : Mem} {Q1 : Int32 → Mem → Prop} (C : Cx T D p s m args c cc nL own) (hls : ls.size = nL) (Z : Zz EM T D ad 16 A H0 M H locs) (hlink : Cond.methodLink own index yX12_drawn ∈ TB) (hR : 1 + 1 ≤ R.frames ∧ 8 + (1 + 11) + 48 * 1 ≤ R.locals) (hcs : cells ≤ R.cells ∧ slots ≤ R.slots) (hcat : (rest.map fun v => v.category).sum ≤ 8) (hdg : decode cc pc = .ok (.invokevirtual index, 3)) (hB : P_X12_drawn M Q1)
    (kk : ∀ (r : Int32) (M1 : Mem) (H1 : Heap) (locs1 : List Loc), Q1 r M1 → Zz EM T D ad 16 A H0 M1 H1 locs1 → W p l e R s m args below meth c H1 locs1 cells slots QQ (F0 m (pc + 3) ls (.int r :: rest))) : W p l e R s m args below meth c H locs cells slots QQ (F0 m pc ls (.ref (ad 0) :: rest)) :=
  k_VW (ci := 12) (n := 0) (c_X12_drawn hB) tw_6_212 tw_6_211 tw_s_57 tw_1_12 ⟨rfl, by decide, by decide, by decide +kernel⟩ rfl rfl C hls Z oM hlink hR hcs hcat rfl hdg kk
def B_X12_loose_76 (Q1 : Int32 → Mem → Prop) (X20 : Int32 → Mem → Prop) (x1 : Int32) (x2 : Int32) (M : Mem) : Prop :=
  P_X12_anHour M (fun M12 => ∀ x2_13 : Int32, x2_13 = x2 + 1 → X20 x2_13 M12)
def B_X12_loose_20 (Q1 : Int32 → Mem → Prop) (x1 : Int32) (x2 : Int32) (M : Mem) : Prop :=
  ∀ X20 : Int32 → Mem → Prop, (∀ (x2 : Int32) (M : Mem), (((x1 ≤ x2 → Q1 (M 1 5) M) ∧
    (¬ x1 ≤ x2 → P_X12_drawn M (fun v4 M5 => ∀ x3_6 : Int32, x3_6 = v4 - v4 / 8 * 8 → P_X12_drawn M5 (fun v7 M8 => ∀ x4_9 : Int32, x4_9 = v7 - v7 / 8 * 8 → P_X12_isWindow M8 x3_6 (fun v10 => ((v10 = 0 → B_X12_loose_76 Q1 X20 x1 x2 M8) ∧
      (¬ v10 = 0 → P_X12_isWindow M8 x4_9 (fun v14 => ((v14 = 0 → B_X12_loose_76 Q1 X20 x1 x2 M8) ∧
        (¬ v14 = 0 → P_X12_canPull M8 x3_6 x4_9 (fun v16 => ((v16 = 0 → B_X12_loose_76 Q1 X20 x1 x2 M8) ∧
          (¬ v16 = 0 → P_X12_pulls M8 x3_6 x4_9 (fun M18 => B_X12_loose_76 Q1 X20 x1 x2 M18))))))))))))))) → X20 x2 M) → X20 x2 M
def P_X12_loose (M : Mem) (x1 : Int32) (Q1 : Int32 → Mem → Prop) : Prop :=
  P_X12_in (x1.toInt64) 1 100 (fun v1 => ((¬ v1 = 0 → B_X12_loose_20 Q1 x1 0 M) ∧
    (v1 = 0 → P_X12_finds M 1 (fun v19 M20 => Q1 v19 M20))))
set_option maxRecDepth 100000 in
set_option maxHeartbeats 4000000 in
theorem w_X12_loose_76 {M : Mem} {Q1 : Int32 → Mem → Prop} {X20 : Int32 → Mem → Prop} {x1 : Int32} {x2 : Int32} (C : Cx T D p s m args c cX12_loose 5 "OneOfTwoModel") (hr : meth.sig.returnType = (some .int)) (hlk : meth.locks = false) (Z : Zz EM T D ad 16 A s.heap M H locs) (hX20 : ∀ (x2 : Int32) (M : Mem), X20 x2 M → ∀ (H : Heap) (locs : List Loc) (ls : Array Slot), Zz EM T D ad 16 A s.heap M H locs → lv_has ls 5 [(0, .ref (ad 0)), (1, .int x1), (2, .int x2)] → W p l e (RM 58) s m args below meth c H locs 0 0 (MQ below (QcW EM T D ad 16 A Q1) args s 0 0 A) (F0 m 20 ls [])) {ls : Array Slot} (hl : lv_has ls 5 [(0, .ref (ad 0)), (1, .int x1), (2, .int x2)]) (hB : B_X12_loose_76 Q1 X20 x1 x2 M) : W p l e (RM 58) s m args below meth c H locs 0 0 (MQ below (QcW EM T D ad 16 A Q1) args s 0 0 A) (F0 m 76 ls []) := by
  have hx := C.x
  have hb := C.b
  delta B_X12_loose_76 at hB
  refine lv_aload_n hx hb dX12_loose_76 rfl (lv_at hl 0 rfl) ?_
  refine v_X12_anHour C hl.1 Z tw_6_193 ⟨Nat.le_of_ble_eq_true rfl, Nat.le_of_ble_eq_true rfl⟩ ⟨Nat.le_refl _, Nat.le_refl _⟩ (Nat.le_of_ble_eq_true rfl) dX12_loose_77 hB (fun M12 H locs hB Z => ?_)
  obtain ⟨x2_13, ex2_13⟩ : ∃ y : Int32, y = x2 + 1 := ⟨_, rfl⟩
  have hB := hB x2_13 ex2_13
  refine lv_iinc (v := x2_13) (lv' := [(2, .int x2_13), (0, .ref (ad 0)), (1, .int x1)]) hx hb dX12_loose_80 hl (k := 2) rfl (by rw [ex2_13]; rfl) (by decide) rfl (fun ls hl => ?_)
  refine lv_goto (tgt := 20) hx hb dX12_loose_83 (by decide) ?_
  exact hX20 _ _ hB _ _ _ Z (lv_sub hl [1, 2, 0] rfl)
set_option maxRecDepth 100000 in
set_option maxHeartbeats 4000000 in
theorem w_X12_loose_20 {M : Mem} {Q1 : Int32 → Mem → Prop} {x1 : Int32} {x2 : Int32} (C : Cx T D p s m args c cX12_loose 5 "OneOfTwoModel") (hr : meth.sig.returnType = (some .int)) (hlk : meth.locks = false) (Z : Zz EM T D ad 16 A s.heap M H locs) {ls : Array Slot} (hl : lv_has ls 5 [(0, .ref (ad 0)), (1, .int x1), (2, .int x2)]) (hB : B_X12_loose_20 Q1 x1 x2 M) : W p l e (RM 58) s m args below meth c H locs 0 0 (MQ below (QcW EM T D ad 16 A Q1) args s 0 0 A) (F0 m 20 ls []) := by
  delta B_X12_loose_20 at hB
  obtain ⟨X20, hX20, hY20⟩ : ∃ X20 : Int32 → Mem → Prop, (∀ (x2 : Int32) (M : Mem), X20 x2 M → ∀ (H : Heap) (locs : List Loc) (ls : Array Slot), Zz EM T D ad 16 A s.heap M H locs → lv_has ls 5 [(0, .ref (ad 0)), (1, .int x1), (2, .int x2)] → W p l e (RM 58) s m args below meth c H locs 0 0 (MQ below (QcW EM T D ad 16 A Q1) args s 0 0 A) (F0 m 20 ls [])) ∧ (∀ (x2 : Int32) (M : Mem), (∀ (H : Heap) (locs : List Loc) (ls : Array Slot), Zz EM T D ad 16 A s.heap M H locs → lv_has ls 5 [(0, .ref (ad 0)), (1, .int x1), (2, .int x2)] → W p l e (RM 58) s m args below meth c H locs 0 0 (MQ below (QcW EM T D ad 16 A Q1) args s 0 0 A) (F0 m 20 ls [])) → X20 x2 M) := ⟨fun (x2 : Int32) (M : Mem) => ∀ (H : Heap) (locs : List Loc) (ls : Array Slot), Zz EM T D ad 16 A s.heap M H locs → lv_has ls 5 [(0, .ref (ad 0)), (1, .int x1), (2, .int x2)] → W p l e (RM 58) s m args below meth c H locs 0 0 (MQ below (QcW EM T D ad 16 A Q1) args s 0 0 A) (F0 m 20 ls []), fun _ _ h => h, fun _ _ h => h⟩
  refine hX20 _ _ (hB X20 (fun x2 M hB => hY20 _ _ (fun H locs ls Z hl => ?_))) _ _ _ Z hl
  have hx := C.x
  have hb := C.b
  refine lv_iload_n hx hb dX12_loose_20 rfl (lv_at hl 2 rfl) ?_
  refine lv_iload_n hx hb dX12_loose_21 rfl (lv_at hl 1 rfl) ?_
  refine lv_icmp_ge (tgt := 86) hx hb dX12_loose_22 (by decide) (fun q3 => ?_) (fun q3 => ?_)
  · have hB := hB.1 q3
    refine lv_aload_n hx hb dX12_loose_86 rfl (lv_at hl 0 rfl) ?_
    refine gf_X12_0 C Z.1 tw_5_98 dX12_loose_87 ?_
    refine lv_iconst (v := 5) hx hb dX12_loose_90 (by decide) ?_
    refine a_ldc C Z.1 aM_1 (vin rfl) (j := 5) rfl dX12_loose_91 ?_
    exact e_iW C hr hlk Z dX12_loose_92 hB
  · have hB := hB.2 q3
    refine lv_aload_n hx hb dX12_loose_25 rfl (lv_at hl 0 rfl) ?_
    refine v_X12_drawn C hl.1 Z tw_6_209 ⟨Nat.le_of_ble_eq_true rfl, Nat.le_of_ble_eq_true rfl⟩ ⟨Nat.le_refl _, Nat.le_refl _⟩ (Nat.le_of_ble_eq_true rfl) dX12_loose_26 hB (fun v4 M5 H locs hB Z => ?_)
    refine lv_bipush (v := 8) hx hb dX12_loose_29 (by decide) ?_
    refine lv_irem hx hb dX12_loose_31 (by decide) ?_
    refine lv_topi (fun x3_6 ex3_6 => ?_)
    have hB := hB x3_6 ex3_6
    refine lv_istore_n (lv' := [(3, .int x3_6), (0, .ref (ad 0)), (1, .int x1), (2, .int x2)]) hx hb dX12_loose_32 rfl hl (by decide) rfl (fun ls hl => ?_)
    refine lv_aload_n hx hb dX12_loose_33 rfl (lv_at hl 1 rfl) ?_
    refine v_X12_drawn C hl.1 Z tw_6_209 ⟨Nat.le_of_ble_eq_true rfl, Nat.le_of_ble_eq_true rfl⟩ ⟨Nat.le_refl _, Nat.le_refl _⟩ (Nat.le_of_ble_eq_true rfl) dX12_loose_34 hB (fun v7 M8 H locs hB Z => ?_)
    refine lv_bipush (v := 8) hx hb dX12_loose_37 (by decide) ?_
    refine lv_irem hx hb dX12_loose_39 (by decide) ?_
    refine lv_topi (fun x4_9 ex4_9 => ?_)
    have hB := hB x4_9 ex4_9
    refine lv_istore (lv' := [(4, .int x4_9), (3, .int x3_6), (0, .ref (ad 0)), (1, .int x1), (2, .int x2)]) hx hb dX12_loose_40 hl (by decide) rfl (fun ls hl => ?_)
    refine lv_aload_n hx hb dX12_loose_42 rfl (lv_at hl 2 rfl) ?_
    refine lv_iload_n hx hb dX12_loose_43 rfl (lv_at hl 1 rfl) ?_
    refine v_X12_isWindow C hl.1 Z.1 tw_6_51 ⟨Nat.le_of_ble_eq_true rfl, Nat.le_of_ble_eq_true rfl⟩ ⟨Nat.le_refl _, Nat.le_refl _⟩ (Nat.le_of_ble_eq_true rfl) dX12_loose_44 hB (fun v10 hB => ?_)
    refine lv_if_eq (tgt := 76) hx hb dX12_loose_47 (by decide) (fun q11 => ?_) (fun q11 => ?_)
    · have hB := hB.1 q11
      exact w_X12_loose_76 C hr hlk Z hX20 (lv_sub hl [2, 3, 4] rfl) hB
    · have hB := hB.2 q11
      refine lv_aload_n hx hb dX12_loose_50 rfl (lv_at hl 2 rfl) ?_
      refine lv_iload hx hb dX12_loose_51 (lv_at hl 0 rfl) ?_
      refine v_X12_isWindow C hl.1 Z.1 tw_6_51 ⟨Nat.le_of_ble_eq_true rfl, Nat.le_of_ble_eq_true rfl⟩ ⟨Nat.le_refl _, Nat.le_refl _⟩ (Nat.le_of_ble_eq_true rfl) dX12_loose_53 hB (fun v14 hB => ?_)
      refine lv_if_eq (tgt := 76) hx hb dX12_loose_56 (by decide) (fun q15 => ?_) (fun q15 => ?_)
      · have hB := hB.1 q15
        exact w_X12_loose_76 C hr hlk Z hX20 (lv_sub hl [2, 3, 4] rfl) hB
      · have hB := hB.2 q15
        refine lv_aload_n hx hb dX12_loose_59 rfl (lv_at hl 2 rfl) ?_
        refine lv_iload_n hx hb dX12_loose_60 rfl (lv_at hl 1 rfl) ?_
        refine lv_iload hx hb dX12_loose_61 (lv_at hl 0 rfl) ?_
        refine v_X12_canPull C hl.1 Z.1 tw_6_83 ⟨Nat.le_of_ble_eq_true rfl, Nat.le_of_ble_eq_true rfl⟩ ⟨Nat.le_refl _, Nat.le_refl _⟩ (Nat.le_of_ble_eq_true rfl) dX12_loose_63 hB (fun v16 hB => ?_)
        refine lv_if_eq (tgt := 76) hx hb dX12_loose_66 (by decide) (fun q17 => ?_) (fun q17 => ?_)
        · have hB := hB.1 q17
          exact w_X12_loose_76 C hr hlk Z hX20 (lv_sub hl [2, 3, 4] rfl) hB
        · have hB := hB.2 q17
          refine lv_aload_n hx hb dX12_loose_69 rfl (lv_at hl 2 rfl) ?_
          refine lv_iload_n hx hb dX12_loose_70 rfl (lv_at hl 1 rfl) ?_
          refine lv_iload hx hb dX12_loose_71 (lv_at hl 0 rfl) ?_
          refine v_X12_pulls C hl.1 Z tw_6_87 ⟨Nat.le_of_ble_eq_true rfl, Nat.le_of_ble_eq_true rfl⟩ ⟨Nat.le_refl _, Nat.le_refl _⟩ (Nat.le_of_ble_eq_true rfl) dX12_loose_73 hB (fun M18 H locs hB Z => ?_)
          exact w_X12_loose_76 C hr hlk Z hX20 (lv_sub hl [2, 3, 4] rfl) hB
set_option maxRecDepth 100000 in
set_option maxHeartbeats 4000000 in
theorem c_X12_loose {l : Launch} {T : Nat → ClassId} {D : va_G} {ad : Nat → Nat} {M : Mem} {x1 : Int32} {sz : Nat} {Q1 : Int32 → Mem → Prop} (hB : P_X12_loose M x1 Q1) : Met l yX12_loose (Cond.code yX12_loose cX12_loose 5 (some .int) :: TB) (RM 58) (va_Pc [.ref (ad 0), .int x1] (WrP EM T D ad 16 M sz)) (QcW EM T D ad 16 (AA ad 16 sz) Q1) 0 0 (AA ad 16 sz) := by
  refine st_W (by decide) (Nat.le_of_ble_eq_true rfl) (fun p e s m args below meth c ls C hr hlk hsz Z hl => ?_)
  have hl : lv_has ls 5 [(0, .ref (ad 0)), (1, .int x1)] := hl
  generalize AA ad 16 sz = A at Z ⊢
  have hx := C.x
  have hb := C.b
  delta P_X12_loose at hB
  refine lv_iload_n hx hb dX12_loose_0 rfl (lv_at hl 1 rfl) ?_
  refine lv_i2l hx hb dX12_loose_1 rfl ?_
  refine lv_lconst (v := 1) hx hb dX12_loose_2 (by decide) ?_
  refine lv_ldc2 hx hb C.1.2.2.2.1 (C.1.2.2.2.2 _ tw_6_192) dX12_loose_3 ?_
  refine v_X12_in C.1 hl.1 tw_5_191 ⟨Nat.le_of_ble_eq_true rfl, Nat.le_of_ble_eq_true rfl⟩ ⟨Nat.le_refl _, Nat.le_refl _⟩ (Nat.le_of_ble_eq_true rfl) dX12_loose_6 hB (fun v1 hB => ?_)
  refine lv_if_ne (tgt := 18) hx hb dX12_loose_9 (by decide) (fun q2 => ?_) (fun q2 => ?_)
  · have hB := hB.1 q2
    refine lv_iconst (v := 0) hx hb dX12_loose_18 (by decide) ?_
    refine lv_istore_n (lv' := [(2, .int 0), (0, .ref (ad 0)), (1, .int x1)]) hx hb dX12_loose_19 rfl hl (by decide) rfl (fun ls hl => ?_)
    exact w_X12_loose_20 C hr hlk Z (lv_sub hl [1, 2, 0] rfl) hB
  · have hB := hB.2 q2
    refine lv_aload_n hx hb dX12_loose_12 rfl (lv_at hl 0 rfl) ?_
    refine lv_iconst (v := 1) hx hb dX12_loose_13 (by decide) ?_
    refine v_X12_finds C hl.1 Z tw_5_194 ⟨Nat.le_of_ble_eq_true rfl, Nat.le_of_ble_eq_true rfl⟩ ⟨Nat.le_refl _, Nat.le_refl _⟩ (Nat.le_of_ble_eq_true rfl) dX12_loose_14 hB (fun v19 M20 H locs hB Z => ?_)
    exact e_iW C hr hlk Z dX12_loose_17 hB
set_option maxRecDepth 100000 in
set_option maxHeartbeats 4000000 in
theorem v_X12_loose {M : Mem} {x1 : Int32} {Q1 : Int32 → Mem → Prop} (C : Cx T D p s m args c cc nL own) (hls : ls.size = nL) (Z : Zz EM T D ad 16 A H0 M H locs) (hlink : Cond.methodLink own index yX12_loose ∈ TB) (hR : 58 + 1 ≤ R.frames ∧ 8 + (5 + 11) + 48 * 58 ≤ R.locals) (hcs : cells ≤ R.cells ∧ slots ≤ R.slots) (hcat : (rest.map fun v => v.category).sum ≤ 8) (hdg : decode cc pc = .ok (.invokevirtual index, 3)) (hB : P_X12_loose M x1 Q1)
    (kk : ∀ (r : Int32) (M1 : Mem) (H1 : Heap) (locs1 : List Loc), Q1 r M1 → Zz EM T D ad 16 A H0 M1 H1 locs1 → W p l e R s m args below meth c H1 locs1 cells slots QQ (F0 m (pc + 3) ls (.int r :: rest))) : W p l e R s m args below meth c H locs cells slots QQ (F0 m pc ls (.int x1 :: .ref (ad 0) :: rest)) :=
  k_VW (ci := 12) (n := 1) (c_X12_loose hB) tw_6_208 tw_6_206 tw_6_207 tw_1_12 ⟨rfl, by decide, by decide, by decide +kernel⟩ rfl rfl C hls Z oM hlink hR hcs hcat rfl hdg kk
def P_X12_hour (M : Mem) (x1 : Int32) (Q1 : Int32 → Mem → Prop) : Prop :=
  P_X12_in (x1.toInt64) 0 23 (fun v1 => ((¬ v1 = 0 → ∀ x2_3 : Int32, x2_3 = M 1 3 → ∀ M4 : Mem, M4 = sf M 1 3 x1 → Q1 x2_3 M4) ∧
    (v1 = 0 → P_X12_finds M 1 (fun v5 M6 => Q1 v5 M6))))
set_option maxRecDepth 100000 in
set_option maxHeartbeats 4000000 in
theorem c_X12_hour {l : Launch} {T : Nat → ClassId} {D : va_G} {ad : Nat → Nat} {M : Mem} {x1 : Int32} {sz : Nat} {Q1 : Int32 → Mem → Prop} (hB : P_X12_hour M x1 Q1) : Met l yX12_hour (Cond.code yX12_hour cX12_hour 3 (some .int) :: TB) (RM 2) (va_Pc [.ref (ad 0), .int x1] (WrP EM T D ad 16 M sz)) (QcW EM T D ad 16 (AA ad 16 sz) Q1) 0 0 (AA ad 16 sz) := by
  refine st_W (by decide) (Nat.le_of_ble_eq_true rfl) (fun p e s m args below meth c ls C hr hlk hsz Z hl => ?_)
  have hl : lv_has ls 3 [(0, .ref (ad 0)), (1, .int x1)] := hl
  generalize AA ad 16 sz = A at Z ⊢
  have hx := C.x
  have hb := C.b
  delta P_X12_hour at hB
  refine lv_iload_n hx hb dX12_hour_0 rfl (lv_at hl 1 rfl) ?_
  refine lv_i2l hx hb dX12_hour_1 rfl ?_
  refine lv_lconst (v := 0) hx hb dX12_hour_2 (by decide) ?_
  refine lv_ldc2 hx hb C.1.2.2.2.1 (C.1.2.2.2.2 _ tw_6_218) dX12_hour_3 ?_
  refine v_X12_in C.1 hl.1 tw_5_191 ⟨Nat.le_of_ble_eq_true rfl, Nat.le_of_ble_eq_true rfl⟩ ⟨Nat.le_refl _, Nat.le_refl _⟩ (Nat.le_of_ble_eq_true rfl) dX12_hour_6 hB (fun v1 hB => ?_)
  refine lv_if_ne (tgt := 18) hx hb dX12_hour_9 (by decide) (fun q2 => ?_) (fun q2 => ?_)
  · have hB := hB.1 q2
    refine lv_aload_n hx hb dX12_hour_18 rfl (lv_at hl 0 rfl) ?_
    refine gf_X12_0 C Z.1 tw_5_98 dX12_hour_19 ?_
    refine lv_iconst (v := 3) hx hb dX12_hour_22 (by decide) ?_
    refine a_ldc C Z.1 aM_1 (vin rfl) (j := 3) rfl dX12_hour_23 ?_
    refine lv_topi (fun x2_3 ex2_3 => ?_)
    have hB := hB x2_3 ex2_3
    refine lv_istore_n (lv' := [(2, .int x2_3), (0, .ref (ad 0)), (1, .int x1)]) hx hb dX12_hour_24 rfl hl (by decide) rfl (fun ls hl => ?_)
    refine lv_aload_n hx hb dX12_hour_25 rfl (lv_at hl 1 rfl) ?_
    refine gf_X12_0 C Z.1 tw_5_98 dX12_hour_26 ?_
    refine lv_iconst (v := 3) hx hb dX12_hour_29 (by decide) ?_
    refine lv_iload_n hx hb dX12_hour_30 rfl (lv_at hl 2 rfl) ?_
    refine a_stc C Z aM_1 (vin rfl) rfl dX12_hour_31 (fun M4 H locs eM4 Z => ?_)
    have hB := hB M4 eM4
    refine lv_iload_n hx hb dX12_hour_32 rfl (lv_at hl 0 rfl) ?_
    exact e_iW C hr hlk Z dX12_hour_33 hB
  · have hB := hB.2 q2
    refine lv_aload_n hx hb dX12_hour_12 rfl (lv_at hl 0 rfl) ?_
    refine lv_iconst (v := 1) hx hb dX12_hour_13 (by decide) ?_
    refine v_X12_finds C hl.1 Z tw_5_194 ⟨Nat.le_of_ble_eq_true rfl, Nat.le_of_ble_eq_true rfl⟩ ⟨Nat.le_refl _, Nat.le_refl _⟩ (Nat.le_of_ble_eq_true rfl) dX12_hour_14 hB (fun v5 M6 H locs hB Z => ?_)
    exact e_iW C hr hlk Z dX12_hour_17 hB
set_option maxRecDepth 100000 in
set_option maxHeartbeats 4000000 in
theorem v_X12_hour {M : Mem} {x1 : Int32} {Q1 : Int32 → Mem → Prop} (C : Cx T D p s m args c cc nL own) (hls : ls.size = nL) (Z : Zz EM T D ad 16 A H0 M H locs) (hlink : Cond.methodLink own index yX12_hour ∈ TB) (hR : 2 + 1 ≤ R.frames ∧ 8 + (3 + 11) + 48 * 2 ≤ R.locals) (hcs : cells ≤ R.cells ∧ slots ≤ R.slots) (hcat : (rest.map fun v => v.category).sum ≤ 8) (hdg : decode cc pc = .ok (.invokevirtual index, 3)) (hB : P_X12_hour M x1 Q1)
    (kk : ∀ (r : Int32) (M1 : Mem) (H1 : Heap) (locs1 : List Loc), Q1 r M1 → Zz EM T D ad 16 A H0 M1 H1 locs1 → W p l e R s m args below meth c H1 locs1 cells slots QQ (F0 m (pc + 3) ls (.int r :: rest))) : W p l e R s m args below meth c H locs cells slots QQ (F0 m pc ls (.int x1 :: .ref (ad 0) :: rest)) :=
  k_VW (ci := 12) (n := 1) (c_X12_hour hB) tw_6_217 tw_6_215 tw_6_216 tw_1_12 ⟨rfl, by decide, by decide, by decide +kernel⟩ rfl rfl C hls Z oM hlink hR hcs hcat rfl hdg kk
def P_X12_lock (M : Mem) (x1 : Int32) (x2 : Int32) (Q1 : Int32 → Mem → Prop) : Prop :=
  P_X12_in (x1.toInt64) 0 24 (fun v1 => ((v1 = 0 → P_X12_finds M 1 (fun v3 M4 => Q1 v3 M4)) ∧
    (¬ v1 = 0 → P_X12_in (x2.toInt64) 0 24 (fun v5 => ((¬ v5 = 0 → ∀ M7 : Mem, M7 = sf M 1 6 x1 → ∀ M8 : Mem, M8 = sf M7 1 7 x2 → P_X12_isLocked M8 (fun v9 => ((v9 = 0 → Q1 0 M8) ∧
        (¬ v9 = 0 → Q1 1 M8)))) ∧
      (v5 = 0 → P_X12_finds M 1 (fun v11 M12 => Q1 v11 M12)))))))
set_option maxRecDepth 100000 in
set_option maxHeartbeats 4000000 in
theorem c_X12_lock {l : Launch} {T : Nat → ClassId} {D : va_G} {ad : Nat → Nat} {M : Mem} {x1 : Int32} {x2 : Int32} {sz : Nat} {Q1 : Int32 → Mem → Prop} (hB : P_X12_lock M x1 x2 Q1) : Met l yX12_lock (Cond.code yX12_lock cX12_lock 3 (some .int) :: TB) (RM 2) (va_Pc [.ref (ad 0), .int x1, .int x2] (WrP EM T D ad 16 M sz)) (QcW EM T D ad 16 (AA ad 16 sz) Q1) 0 0 (AA ad 16 sz) := by
  refine st_W (by decide) (Nat.le_of_ble_eq_true rfl) (fun p e s m args below meth c ls C hr hlk hsz Z hl => ?_)
  have hl : lv_has ls 3 [(0, .ref (ad 0)), (1, .int x1), (2, .int x2)] := hl
  generalize AA ad 16 sz = A at Z ⊢
  have hx := C.x
  have hb := C.b
  delta P_X12_lock at hB
  refine lv_iload_n hx hb dX12_lock_0 rfl (lv_at hl 1 rfl) ?_
  refine lv_i2l hx hb dX12_lock_1 rfl ?_
  refine lv_lconst (v := 0) hx hb dX12_lock_2 (by decide) ?_
  refine lv_ldc2 hx hb C.1.2.2.2.1 (C.1.2.2.2.2 _ tw_6_223) dX12_lock_3 ?_
  refine v_X12_in C.1 hl.1 tw_5_191 ⟨Nat.le_of_ble_eq_true rfl, Nat.le_of_ble_eq_true rfl⟩ ⟨Nat.le_refl _, Nat.le_refl _⟩ (Nat.le_of_ble_eq_true rfl) dX12_lock_6 hB (fun v1 hB => ?_)
  refine lv_if_eq (tgt := 24) hx hb dX12_lock_9 (by decide) (fun q2 => ?_) (fun q2 => ?_)
  · have hB := hB.1 q2
    refine lv_aload_n hx hb dX12_lock_24 rfl (lv_at hl 0 rfl) ?_
    refine lv_iconst (v := 1) hx hb dX12_lock_25 (by decide) ?_
    refine v_X12_finds C hl.1 Z tw_5_194 ⟨Nat.le_of_ble_eq_true rfl, Nat.le_of_ble_eq_true rfl⟩ ⟨Nat.le_refl _, Nat.le_refl _⟩ (Nat.le_of_ble_eq_true rfl) dX12_lock_26 hB (fun v3 M4 H locs hB Z => ?_)
    exact e_iW C hr hlk Z dX12_lock_29 hB
  · have hB := hB.2 q2
    refine lv_iload_n hx hb dX12_lock_12 rfl (lv_at hl 2 rfl) ?_
    refine lv_i2l hx hb dX12_lock_13 rfl ?_
    refine lv_lconst (v := 0) hx hb dX12_lock_14 (by decide) ?_
    refine lv_ldc2 hx hb C.1.2.2.2.1 (C.1.2.2.2.2 _ tw_6_223) dX12_lock_15 ?_
    refine v_X12_in C.1 hl.1 tw_5_191 ⟨Nat.le_of_ble_eq_true rfl, Nat.le_of_ble_eq_true rfl⟩ ⟨Nat.le_refl _, Nat.le_refl _⟩ (Nat.le_of_ble_eq_true rfl) dX12_lock_18 hB (fun v5 hB => ?_)
    refine lv_if_ne (tgt := 30) hx hb dX12_lock_21 (by decide) (fun q6 => ?_) (fun q6 => ?_)
    · have hB := hB.1 q6
      refine lv_aload_n hx hb dX12_lock_30 rfl (lv_at hl 0 rfl) ?_
      refine gf_X12_0 C Z.1 tw_5_98 dX12_lock_31 ?_
      refine lv_bipush (v := 6) hx hb dX12_lock_34 (by decide) ?_
      refine lv_iload_n hx hb dX12_lock_36 rfl (lv_at hl 1 rfl) ?_
      refine a_stc C Z aM_1 (vin rfl) rfl dX12_lock_37 (fun M7 H locs eM7 Z => ?_)
      have hB := hB M7 eM7
      refine lv_aload_n hx hb dX12_lock_38 rfl (lv_at hl 0 rfl) ?_
      refine gf_X12_0 C Z.1 tw_5_98 dX12_lock_39 ?_
      refine lv_bipush (v := 7) hx hb dX12_lock_42 (by decide) ?_
      refine lv_iload_n hx hb dX12_lock_44 rfl (lv_at hl 2 rfl) ?_
      refine a_stc C Z aM_1 (vin rfl) rfl dX12_lock_45 (fun M8 H locs eM8 Z => ?_)
      have hB := hB M8 eM8
      refine lv_aload_n hx hb dX12_lock_46 rfl (lv_at hl 0 rfl) ?_
      refine v_X12_isLocked C hl.1 Z.1 tw_6_79 ⟨Nat.le_of_ble_eq_true rfl, Nat.le_of_ble_eq_true rfl⟩ ⟨Nat.le_refl _, Nat.le_refl _⟩ (Nat.le_of_ble_eq_true rfl) dX12_lock_47 hB (fun v9 hB => ?_)
      refine lv_if_eq (tgt := 57) hx hb dX12_lock_50 (by decide) (fun q10 => ?_) (fun q10 => ?_)
      · have hB := hB.1 q10
        refine lv_iconst (v := 0) hx hb dX12_lock_57 (by decide) ?_
        exact e_iW C hr hlk Z dX12_lock_58 hB
      · have hB := hB.2 q10
        refine lv_iconst (v := 1) hx hb dX12_lock_53 (by decide) ?_
        refine lv_goto (tgt := 58) hx hb dX12_lock_54 (by decide) ?_
        exact e_iW C hr hlk Z dX12_lock_58 hB
    · have hB := hB.2 q6
      refine lv_aload_n hx hb dX12_lock_24 rfl (lv_at hl 0 rfl) ?_
      refine lv_iconst (v := 1) hx hb dX12_lock_25 (by decide) ?_
      refine v_X12_finds C hl.1 Z tw_5_194 ⟨Nat.le_of_ble_eq_true rfl, Nat.le_of_ble_eq_true rfl⟩ ⟨Nat.le_refl _, Nat.le_refl _⟩ (Nat.le_of_ble_eq_true rfl) dX12_lock_26 hB (fun v11 M12 H locs hB Z => ?_)
      exact e_iW C hr hlk Z dX12_lock_29 hB
set_option maxRecDepth 100000 in
set_option maxHeartbeats 4000000 in
theorem v_X12_lock {M : Mem} {x1 : Int32} {x2 : Int32} {Q1 : Int32 → Mem → Prop} (C : Cx T D p s m args c cc nL own) (hls : ls.size = nL) (Z : Zz EM T D ad 16 A H0 M H locs) (hlink : Cond.methodLink own index yX12_lock ∈ TB) (hR : 2 + 1 ≤ R.frames ∧ 8 + (3 + 11) + 48 * 2 ≤ R.locals) (hcs : cells ≤ R.cells ∧ slots ≤ R.slots) (hcat : (rest.map fun v => v.category).sum ≤ 8) (hdg : decode cc pc = .ok (.invokevirtual index, 3)) (hB : P_X12_lock M x1 x2 Q1)
    (kk : ∀ (r : Int32) (M1 : Mem) (H1 : Heap) (locs1 : List Loc), Q1 r M1 → Zz EM T D ad 16 A H0 M1 H1 locs1 → W p l e R s m args below meth c H1 locs1 cells slots QQ (F0 m (pc + 3) ls (.int r :: rest))) : W p l e R s m args below meth c H locs cells slots QQ (F0 m pc ls (.int x2 :: .int x1 :: .ref (ad 0) :: rest)) :=
  k_VW (ci := 12) (n := 2) (c_X12_lock hB) tw_6_222 tw_6_220 tw_6_221 tw_1_12 ⟨rfl, by decide, by decide, by decide +kernel⟩ rfl rfl C hls Z oM hlink hR hcs hcat rfl hdg kk
def B_X12_rests_25 (Q1 : Int32 → Mem → Prop) (x1 : Int32) (M : Mem) : Prop :=
  P_X12_putBack M (fun M3 => ((x1 ≤ 100 → Q1 x1 M3) ∧
    (¬ x1 ≤ 100 → P_X12_finds M3 2 (fun v5 M6 => Q1 v5 M6))))
def B_X12_rests_6 (Q1 : Int32 → Mem → Prop) (x1 : Int32) (M : Mem) : Prop :=
  ∀ X6 : Int32 → Mem → Prop, (∀ (x1 : Int32) (M : Mem), (((100 < x1 → B_X12_rests_25 Q1 x1 M) ∧
    (¬ 100 < x1 → P_X12_turnOfAll M (fun v7 M8 => ((v7 ≤ 0 → B_X12_rests_25 Q1 x1 M8) ∧
      (¬ v7 ≤ 0 → ∀ x1_10 : Int32, x1_10 = x1 + 1 → X6 x1_10 M8)))))) → X6 x1 M) → X6 x1 M
def P_X12_rests (M : Mem) (Q1 : Int32 → Mem → Prop) : Prop :=
  P_X12_keepAside M (fun M1 => B_X12_rests_6 Q1 0 M1)
set_option maxRecDepth 100000 in
set_option maxHeartbeats 4000000 in
theorem w_X12_rests_25 {M : Mem} {Q1 : Int32 → Mem → Prop} {x1 : Int32} (C : Cx T D p s m args c cX12_rests 2 "OneOfTwoModel") (hr : meth.sig.returnType = (some .int)) (hlk : meth.locks = false) (Z : Zz EM T D ad 16 A s.heap M H locs) {ls : Array Slot} (hl : lv_has ls 2 [(0, .ref (ad 0)), (1, .int x1)]) (hB : B_X12_rests_25 Q1 x1 M) : W p l e (RM 57) s m args below meth c H locs 0 0 (MQ below (QcW EM T D ad 16 A Q1) args s 0 0 A) (F0 m 25 ls []) := by
  have hx := C.x
  have hb := C.b
  delta B_X12_rests_25 at hB
  refine lv_aload_n hx hb dX12_rests_25 rfl (lv_at hl 0 rfl) ?_
  refine v_X12_putBack C hl.1 Z tw_6_232 ⟨Nat.le_of_ble_eq_true rfl, Nat.le_of_ble_eq_true rfl⟩ ⟨Nat.le_refl _, Nat.le_refl _⟩ (Nat.le_of_ble_eq_true rfl) dX12_rests_26 hB (fun M3 H locs hB Z => ?_)
  refine lv_iload_n hx hb dX12_rests_29 rfl (lv_at hl 1 rfl) ?_
  refine lv_bipush (v := 100) hx hb dX12_rests_30 (by decide) ?_
  refine lv_icmp_le (tgt := 43) hx hb dX12_rests_32 (by decide) (fun q4 => ?_) (fun q4 => ?_)
  · have hB := hB.1 q4
    refine lv_iload_n hx hb dX12_rests_43 rfl (lv_at hl 1 rfl) ?_
    exact e_iW C hr hlk Z dX12_rests_44 hB
  · have hB := hB.2 q4
    refine lv_aload_n hx hb dX12_rests_35 rfl (lv_at hl 0 rfl) ?_
    refine lv_iconst (v := 2) hx hb dX12_rests_36 (by decide) ?_
    refine v_X12_finds C hl.1 Z tw_5_194 ⟨Nat.le_of_ble_eq_true rfl, Nat.le_of_ble_eq_true rfl⟩ ⟨Nat.le_refl _, Nat.le_refl _⟩ (Nat.le_of_ble_eq_true rfl) dX12_rests_37 hB (fun v5 M6 H locs hB Z => ?_)
    refine lv_goto (tgt := 44) hx hb dX12_rests_40 (by decide) ?_
    exact e_iW C hr hlk Z dX12_rests_44 hB
set_option maxRecDepth 100000 in
set_option maxHeartbeats 4000000 in
theorem w_X12_rests_6 {M : Mem} {Q1 : Int32 → Mem → Prop} {x1 : Int32} (C : Cx T D p s m args c cX12_rests 2 "OneOfTwoModel") (hr : meth.sig.returnType = (some .int)) (hlk : meth.locks = false) (Z : Zz EM T D ad 16 A s.heap M H locs) {ls : Array Slot} (hl : lv_has ls 2 [(0, .ref (ad 0)), (1, .int x1)]) (hB : B_X12_rests_6 Q1 x1 M) : W p l e (RM 57) s m args below meth c H locs 0 0 (MQ below (QcW EM T D ad 16 A Q1) args s 0 0 A) (F0 m 6 ls []) := by
  delta B_X12_rests_6 at hB
  obtain ⟨X6, hX6, hY6⟩ : ∃ X6 : Int32 → Mem → Prop, (∀ (x1 : Int32) (M : Mem), X6 x1 M → ∀ (H : Heap) (locs : List Loc) (ls : Array Slot), Zz EM T D ad 16 A s.heap M H locs → lv_has ls 2 [(0, .ref (ad 0)), (1, .int x1)] → W p l e (RM 57) s m args below meth c H locs 0 0 (MQ below (QcW EM T D ad 16 A Q1) args s 0 0 A) (F0 m 6 ls [])) ∧ (∀ (x1 : Int32) (M : Mem), (∀ (H : Heap) (locs : List Loc) (ls : Array Slot), Zz EM T D ad 16 A s.heap M H locs → lv_has ls 2 [(0, .ref (ad 0)), (1, .int x1)] → W p l e (RM 57) s m args below meth c H locs 0 0 (MQ below (QcW EM T D ad 16 A Q1) args s 0 0 A) (F0 m 6 ls [])) → X6 x1 M) := ⟨fun (x1 : Int32) (M : Mem) => ∀ (H : Heap) (locs : List Loc) (ls : Array Slot), Zz EM T D ad 16 A s.heap M H locs → lv_has ls 2 [(0, .ref (ad 0)), (1, .int x1)] → W p l e (RM 57) s m args below meth c H locs 0 0 (MQ below (QcW EM T D ad 16 A Q1) args s 0 0 A) (F0 m 6 ls []), fun _ _ h => h, fun _ _ h => h⟩
  refine hX6 _ _ (hB X6 (fun x1 M hB => hY6 _ _ (fun H locs ls Z hl => ?_))) _ _ _ Z hl
  have hx := C.x
  have hb := C.b
  refine lv_iload_n hx hb dX12_rests_6 rfl (lv_at hl 1 rfl) ?_
  refine lv_bipush (v := 100) hx hb dX12_rests_7 (by decide) ?_
  refine lv_icmp_gt (tgt := 25) hx hb dX12_rests_9 (by decide) (fun q2 => ?_) (fun q2 => ?_)
  · have hB := hB.1 q2
    exact w_X12_rests_25 C hr hlk Z (lv_sub hl [0, 1] rfl) hB
  · have hB := hB.2 q2
    refine lv_aload_n hx hb dX12_rests_12 rfl (lv_at hl 0 rfl) ?_
    refine v_X12_turnOfAll C hl.1 Z tw_6_197 ⟨Nat.le_of_ble_eq_true rfl, Nat.le_of_ble_eq_true rfl⟩ ⟨Nat.le_refl _, Nat.le_refl _⟩ (Nat.le_of_ble_eq_true rfl) dX12_rests_13 hB (fun v7 M8 H locs hB Z => ?_)
    refine lv_if_le (tgt := 25) hx hb dX12_rests_16 (by decide) (fun q9 => ?_) (fun q9 => ?_)
    · have hB := hB.1 q9
      exact w_X12_rests_25 C hr hlk Z (lv_sub hl [0, 1] rfl) hB
    · have hB := hB.2 q9
      obtain ⟨x1_10, ex1_10⟩ : ∃ y : Int32, y = x1 + 1 := ⟨_, rfl⟩
      have hB := hB x1_10 ex1_10
      refine lv_iinc (v := x1_10) (lv' := [(1, .int x1_10), (0, .ref (ad 0))]) hx hb dX12_rests_19 hl (k := 1) rfl (by rw [ex1_10]; rfl) (by decide) rfl (fun ls hl => ?_)
      refine lv_goto (tgt := 6) hx hb dX12_rests_22 (by decide) ?_
      exact hX6 _ _ hB _ _ _ Z (lv_sub hl [1, 0] rfl)
set_option maxRecDepth 100000 in
set_option maxHeartbeats 4000000 in
theorem c_X12_rests {l : Launch} {T : Nat → ClassId} {D : va_G} {ad : Nat → Nat} {M : Mem} {sz : Nat} {Q1 : Int32 → Mem → Prop} (hB : P_X12_rests M Q1) : Met l yX12_rests (Cond.code yX12_rests cX12_rests 2 (some .int) :: TB) (RM 57) (va_Pc [.ref (ad 0)] (WrP EM T D ad 16 M sz)) (QcW EM T D ad 16 (AA ad 16 sz) Q1) 0 0 (AA ad 16 sz) := by
  refine st_W (by decide) (Nat.le_of_ble_eq_true rfl) (fun p e s m args below meth c ls C hr hlk hsz Z hl => ?_)
  have hl : lv_has ls 2 [(0, .ref (ad 0))] := hl
  generalize AA ad 16 sz = A at Z ⊢
  have hx := C.x
  have hb := C.b
  delta P_X12_rests at hB
  refine lv_aload_n hx hb dX12_rests_0 rfl (lv_at hl 0 rfl) ?_
  refine v_X12_keepAside C hl.1 Z tw_6_228 ⟨Nat.le_of_ble_eq_true rfl, Nat.le_of_ble_eq_true rfl⟩ ⟨Nat.le_refl _, Nat.le_refl _⟩ (Nat.le_of_ble_eq_true rfl) dX12_rests_1 hB (fun M1 H locs hB Z => ?_)
  refine lv_iconst (v := 0) hx hb dX12_rests_4 (by decide) ?_
  refine lv_istore_n (lv' := [(1, .int 0), (0, .ref (ad 0))]) hx hb dX12_rests_5 rfl hl (by decide) rfl (fun ls hl => ?_)
  exact w_X12_rests_6 C hr hlk Z (lv_sub hl [1, 0] rfl) hB
set_option maxRecDepth 100000 in
set_option maxHeartbeats 4000000 in
theorem v_X12_rests {M : Mem} {Q1 : Int32 → Mem → Prop} (C : Cx T D p s m args c cc nL own) (hls : ls.size = nL) (Z : Zz EM T D ad 16 A H0 M H locs) (hlink : Cond.methodLink own index yX12_rests ∈ TB) (hR : 57 + 1 ≤ R.frames ∧ 8 + (2 + 11) + 48 * 57 ≤ R.locals) (hcs : cells ≤ R.cells ∧ slots ≤ R.slots) (hcat : (rest.map fun v => v.category).sum ≤ 8) (hdg : decode cc pc = .ok (.invokevirtual index, 3)) (hB : P_X12_rests M Q1)
    (kk : ∀ (r : Int32) (M1 : Mem) (H1 : Heap) (locs1 : List Loc), Q1 r M1 → Zz EM T D ad 16 A H0 M1 H1 locs1 → W p l e R s m args below meth c H1 locs1 cells slots QQ (F0 m (pc + 3) ls (.int r :: rest))) : W p l e R s m args below meth c H locs cells slots QQ (F0 m pc ls (.ref (ad 0) :: rest)) :=
  k_VW (ci := 12) (n := 0) (c_X12_rests hB) tw_6_227 tw_6_225 tw_6_226 tw_1_12 ⟨rfl, by decide, by decide, by decide +kernel⟩ rfl rfl C hls Z oM hlink hR hcs hcat rfl hdg kk
def B_X12_then_32 (Q1 : Int32 → Mem → Prop) (x1 : Int32) (x2 : Int32) (x3 : Int32) (M : Mem) : Prop :=
  ∀ X32 : Int32 → Mem → Prop, (∀ (x3 : Int32) (M : Mem), (((x1 ≤ x3 → P_X12_its M x2 1 (fun v9 => P_X12_putBack M (fun M10 => Q1 v9 M10))) ∧
    (¬ x1 ≤ x3 → P_X12_anHour M (fun M11 => ∀ x3_12 : Int32, x3_12 = x3 + 1 → X32 x3_12 M11)))) → X32 x3 M) → X32 x3 M
def P_X12_then (M : Mem) (x1 : Int32) (x2 : Int32) (Q1 : Int32 → Mem → Prop) : Prop :=
  P_X12_in (x1.toInt64) 0 100 (fun v1 => ((v1 = 0 → P_X12_finds M 1 (fun v3 M4 => Q1 v3 M4)) ∧
    (¬ v1 = 0 → P_X12_isWindow M x2 (fun v5 => ((¬ v5 = 0 → P_X12_keepAside M (fun M7 => B_X12_then_32 Q1 x1 x2 0 M7)) ∧
      (v5 = 0 → P_X12_finds M 1 (fun v13 M14 => Q1 v13 M14)))))))
set_option maxRecDepth 100000 in
set_option maxHeartbeats 4000000 in
theorem w_X12_then_32 {M : Mem} {Q1 : Int32 → Mem → Prop} {x1 : Int32} {x2 : Int32} {x3 : Int32} (C : Cx T D p s m args c cX12_then 4 "OneOfTwoModel") (hr : meth.sig.returnType = (some .int)) (hlk : meth.locks = false) (Z : Zz EM T D ad 16 A s.heap M H locs) {ls : Array Slot} (hl : lv_has ls 4 [(0, .ref (ad 0)), (1, .int x1), (2, .int x2), (3, .int x3)]) (hB : B_X12_then_32 Q1 x1 x2 x3 M) : W p l e (RM 58) s m args below meth c H locs 0 0 (MQ below (QcW EM T D ad 16 A Q1) args s 0 0 A) (F0 m 32 ls []) := by
  delta B_X12_then_32 at hB
  obtain ⟨X32, hX32, hY32⟩ : ∃ X32 : Int32 → Mem → Prop, (∀ (x3 : Int32) (M : Mem), X32 x3 M → ∀ (H : Heap) (locs : List Loc) (ls : Array Slot), Zz EM T D ad 16 A s.heap M H locs → lv_has ls 4 [(0, .ref (ad 0)), (1, .int x1), (2, .int x2), (3, .int x3)] → W p l e (RM 58) s m args below meth c H locs 0 0 (MQ below (QcW EM T D ad 16 A Q1) args s 0 0 A) (F0 m 32 ls [])) ∧ (∀ (x3 : Int32) (M : Mem), (∀ (H : Heap) (locs : List Loc) (ls : Array Slot), Zz EM T D ad 16 A s.heap M H locs → lv_has ls 4 [(0, .ref (ad 0)), (1, .int x1), (2, .int x2), (3, .int x3)] → W p l e (RM 58) s m args below meth c H locs 0 0 (MQ below (QcW EM T D ad 16 A Q1) args s 0 0 A) (F0 m 32 ls [])) → X32 x3 M) := ⟨fun (x3 : Int32) (M : Mem) => ∀ (H : Heap) (locs : List Loc) (ls : Array Slot), Zz EM T D ad 16 A s.heap M H locs → lv_has ls 4 [(0, .ref (ad 0)), (1, .int x1), (2, .int x2), (3, .int x3)] → W p l e (RM 58) s m args below meth c H locs 0 0 (MQ below (QcW EM T D ad 16 A Q1) args s 0 0 A) (F0 m 32 ls []), fun _ _ h => h, fun _ _ h => h⟩
  refine hX32 _ _ (hB X32 (fun x3 M hB => hY32 _ _ (fun H locs ls Z hl => ?_))) _ _ _ Z hl
  have hx := C.x
  have hb := C.b
  refine lv_iload_n hx hb dX12_then_32 rfl (lv_at hl 3 rfl) ?_
  refine lv_iload_n hx hb dX12_then_33 rfl (lv_at hl 1 rfl) ?_
  refine lv_icmp_ge (tgt := 47) hx hb dX12_then_34 (by decide) (fun q8 => ?_) (fun q8 => ?_)
  · have hB := hB.1 q8
    refine lv_aload_n hx hb dX12_then_47 rfl (lv_at hl 0 rfl) ?_
    refine lv_iload_n hx hb dX12_then_48 rfl (lv_at hl 2 rfl) ?_
    refine lv_iconst (v := 1) hx hb dX12_then_49 (by decide) ?_
    refine v_X12_its C hl.1 Z.1 tw_6_39 ⟨Nat.le_of_ble_eq_true rfl, Nat.le_of_ble_eq_true rfl⟩ ⟨Nat.le_refl _, Nat.le_refl _⟩ (Nat.le_of_ble_eq_true rfl) dX12_then_50 hB (fun v9 hB => ?_)
    refine lv_istore_n (lv' := [(3, .int v9), (0, .ref (ad 0)), (1, .int x1), (2, .int x2)]) hx hb dX12_then_53 rfl hl (by decide) rfl (fun ls hl => ?_)
    refine lv_aload_n hx hb dX12_then_54 rfl (lv_at hl 1 rfl) ?_
    refine v_X12_putBack C hl.1 Z tw_6_232 ⟨Nat.le_of_ble_eq_true rfl, Nat.le_of_ble_eq_true rfl⟩ ⟨Nat.le_refl _, Nat.le_refl _⟩ (Nat.le_of_ble_eq_true rfl) dX12_then_55 hB (fun M10 H locs hB Z => ?_)
    refine lv_iload_n hx hb dX12_then_58 rfl (lv_at hl 0 rfl) ?_
    exact e_iW C hr hlk Z dX12_then_59 hB
  · have hB := hB.2 q8
    refine lv_aload_n hx hb dX12_then_37 rfl (lv_at hl 0 rfl) ?_
    refine v_X12_anHour C hl.1 Z tw_6_193 ⟨Nat.le_of_ble_eq_true rfl, Nat.le_of_ble_eq_true rfl⟩ ⟨Nat.le_refl _, Nat.le_refl _⟩ (Nat.le_of_ble_eq_true rfl) dX12_then_38 hB (fun M11 H locs hB Z => ?_)
    obtain ⟨x3_12, ex3_12⟩ : ∃ y : Int32, y = x3 + 1 := ⟨_, rfl⟩
    have hB := hB x3_12 ex3_12
    refine lv_iinc (v := x3_12) (lv' := [(3, .int x3_12), (0, .ref (ad 0)), (1, .int x1), (2, .int x2)]) hx hb dX12_then_41 hl (k := 3) rfl (by rw [ex3_12]; rfl) (by decide) rfl (fun ls hl => ?_)
    refine lv_goto (tgt := 32) hx hb dX12_then_44 (by decide) ?_
    exact hX32 _ _ hB _ _ _ Z (lv_sub hl [1, 2, 3, 0] rfl)
set_option maxRecDepth 100000 in
set_option maxHeartbeats 4000000 in
theorem c_X12_then {l : Launch} {T : Nat → ClassId} {D : va_G} {ad : Nat → Nat} {M : Mem} {x1 : Int32} {x2 : Int32} {sz : Nat} {Q1 : Int32 → Mem → Prop} (hB : P_X12_then M x1 x2 Q1) : Met l yX12_then (Cond.code yX12_then cX12_then 4 (some .int) :: TB) (RM 58) (va_Pc [.ref (ad 0), .int x1, .int x2] (WrP EM T D ad 16 M sz)) (QcW EM T D ad 16 (AA ad 16 sz) Q1) 0 0 (AA ad 16 sz) := by
  refine st_W (by decide) (Nat.le_of_ble_eq_true rfl) (fun p e s m args below meth c ls C hr hlk hsz Z hl => ?_)
  have hl : lv_has ls 4 [(0, .ref (ad 0)), (1, .int x1), (2, .int x2)] := hl
  generalize AA ad 16 sz = A at Z ⊢
  have hx := C.x
  have hb := C.b
  delta P_X12_then at hB
  refine lv_iload_n hx hb dX12_then_0 rfl (lv_at hl 1 rfl) ?_
  refine lv_i2l hx hb dX12_then_1 rfl ?_
  refine lv_lconst (v := 0) hx hb dX12_then_2 (by decide) ?_
  refine lv_ldc2 hx hb C.1.2.2.2.1 (C.1.2.2.2.2 _ tw_6_192) dX12_then_3 ?_
  refine v_X12_in C.1 hl.1 tw_5_191 ⟨Nat.le_of_ble_eq_true rfl, Nat.le_of_ble_eq_true rfl⟩ ⟨Nat.le_refl _, Nat.le_refl _⟩ (Nat.le_of_ble_eq_true rfl) dX12_then_6 hB (fun v1 hB => ?_)
  refine lv_if_eq (tgt := 20) hx hb dX12_then_9 (by decide) (fun q2 => ?_) (fun q2 => ?_)
  · have hB := hB.1 q2
    refine lv_aload_n hx hb dX12_then_20 rfl (lv_at hl 0 rfl) ?_
    refine lv_iconst (v := 1) hx hb dX12_then_21 (by decide) ?_
    refine v_X12_finds C hl.1 Z tw_5_194 ⟨Nat.le_of_ble_eq_true rfl, Nat.le_of_ble_eq_true rfl⟩ ⟨Nat.le_refl _, Nat.le_refl _⟩ (Nat.le_of_ble_eq_true rfl) dX12_then_22 hB (fun v3 M4 H locs hB Z => ?_)
    exact e_iW C hr hlk Z dX12_then_25 hB
  · have hB := hB.2 q2
    refine lv_aload_n hx hb dX12_then_12 rfl (lv_at hl 0 rfl) ?_
    refine lv_iload_n hx hb dX12_then_13 rfl (lv_at hl 2 rfl) ?_
    refine v_X12_isWindow C hl.1 Z.1 tw_6_51 ⟨Nat.le_of_ble_eq_true rfl, Nat.le_of_ble_eq_true rfl⟩ ⟨Nat.le_refl _, Nat.le_refl _⟩ (Nat.le_of_ble_eq_true rfl) dX12_then_14 hB (fun v5 hB => ?_)
    refine lv_if_ne (tgt := 26) hx hb dX12_then_17 (by decide) (fun q6 => ?_) (fun q6 => ?_)
    · have hB := hB.1 q6
      refine lv_aload_n hx hb dX12_then_26 rfl (lv_at hl 0 rfl) ?_
      refine v_X12_keepAside C hl.1 Z tw_6_228 ⟨Nat.le_of_ble_eq_true rfl, Nat.le_of_ble_eq_true rfl⟩ ⟨Nat.le_refl _, Nat.le_refl _⟩ (Nat.le_of_ble_eq_true rfl) dX12_then_27 hB (fun M7 H locs hB Z => ?_)
      refine lv_iconst (v := 0) hx hb dX12_then_30 (by decide) ?_
      refine lv_istore_n (lv' := [(3, .int 0), (0, .ref (ad 0)), (1, .int x1), (2, .int x2)]) hx hb dX12_then_31 rfl hl (by decide) rfl (fun ls hl => ?_)
      exact w_X12_then_32 C hr hlk Z (lv_sub hl [1, 2, 3, 0] rfl) hB
    · have hB := hB.2 q6
      refine lv_aload_n hx hb dX12_then_20 rfl (lv_at hl 0 rfl) ?_
      refine lv_iconst (v := 1) hx hb dX12_then_21 (by decide) ?_
      refine v_X12_finds C hl.1 Z tw_5_194 ⟨Nat.le_of_ble_eq_true rfl, Nat.le_of_ble_eq_true rfl⟩ ⟨Nat.le_refl _, Nat.le_refl _⟩ (Nat.le_of_ble_eq_true rfl) dX12_then_22 hB (fun v13 M14 H locs hB Z => ?_)
      exact e_iW C hr hlk Z dX12_then_25 hB
set_option maxRecDepth 100000 in
set_option maxHeartbeats 4000000 in
theorem v_X12_then {M : Mem} {x1 : Int32} {x2 : Int32} {Q1 : Int32 → Mem → Prop} (C : Cx T D p s m args c cc nL own) (hls : ls.size = nL) (Z : Zz EM T D ad 16 A H0 M H locs) (hlink : Cond.methodLink own index yX12_then ∈ TB) (hR : 58 + 1 ≤ R.frames ∧ 8 + (4 + 11) + 48 * 58 ≤ R.locals) (hcs : cells ≤ R.cells ∧ slots ≤ R.slots) (hcat : (rest.map fun v => v.category).sum ≤ 8) (hdg : decode cc pc = .ok (.invokevirtual index, 3)) (hB : P_X12_then M x1 x2 Q1)
    (kk : ∀ (r : Int32) (M1 : Mem) (H1 : Heap) (locs1 : List Loc), Q1 r M1 → Zz EM T D ad 16 A H0 M1 H1 locs1 → W p l e R s m args below meth c H1 locs1 cells slots QQ (F0 m (pc + 3) ls (.int r :: rest))) : W p l e R s m args below meth c H locs cells slots QQ (F0 m pc ls (.int x2 :: .int x1 :: .ref (ad 0) :: rest)) :=
  k_VW (ci := 12) (n := 2) (c_X12_then hB) tw_6_239 tw_6_237 tw_6_238 tw_1_12 ⟨rfl, by decide, by decide, by decide +kernel⟩ rfl rfl C hls Z oM hlink hR hcs hcat rfl hdg kk
def P_X12_isLoose (M : Mem) (x1 : Int32) (Q1 : Int32 → Prop) : Prop :=
  P_X12_its M x1 2 (fun v1 => ((v1 ≤ 0 → Q1 0) ∧
    (¬ v1 ≤ 0 → P_X12_its M x1 3 (fun v3 => ((¬ v3 = 0 → Q1 0) ∧
      (v3 = 0 → Q1 1))))))
set_option maxRecDepth 100000 in
set_option maxHeartbeats 4000000 in
theorem c_X12_isLoose {l : Launch} {T : Nat → ClassId} {D : va_G} {ad : Nat → Nat} {M : Mem} {x1 : Int32} {Q1 : Int32 → Prop} (hB : P_X12_isLoose M x1 Q1) : Met l yX12_isLoose (Cond.code yX12_isLoose cX12_isLoose 2 (some .boolean) :: TB) (RM 2) (va_Pc [.ref (ad 0), .int x1] (RdP EM T D ad 16 M)) (QcR Q1) 0 0 (fun _ => False) := by
  refine st_R (by decide) (Nat.le_of_ble_eq_true rfl) (fun p e s m args below meth c ls C hr hlk hP hl => ?_)
  have hl : lv_has ls 2 [(0, .ref (ad 0)), (1, .int x1)] := hl
  have hx := C.x
  have hb := C.b
  delta P_X12_isLoose at hB
  refine lv_aload_n hx hb dX12_isLoose_0 rfl (lv_at hl 0 rfl) ?_
  refine lv_iload_n hx hb dX12_isLoose_1 rfl (lv_at hl 1 rfl) ?_
  refine lv_iconst (v := 2) hx hb dX12_isLoose_2 (by decide) ?_
  refine v_X12_its C hl.1 hP tw_6_39 ⟨Nat.le_of_ble_eq_true rfl, Nat.le_of_ble_eq_true rfl⟩ ⟨Nat.le_refl _, Nat.le_refl _⟩ (Nat.le_of_ble_eq_true rfl) dX12_isLoose_3 hB (fun v1 hB => ?_)
  refine lv_if_le (tgt := 22) hx hb dX12_isLoose_6 (by decide) (fun q2 => ?_) (fun q2 => ?_)
  · have hB := hB.1 q2
    refine lv_iconst (v := 0) hx hb dX12_isLoose_22 (by decide) ?_
    exact e_zR C.1 hr hlk dX12_isLoose_23 (Or.inl rfl) hB
  · have hB := hB.2 q2
    refine lv_aload_n hx hb dX12_isLoose_9 rfl (lv_at hl 0 rfl) ?_
    refine lv_iload_n hx hb dX12_isLoose_10 rfl (lv_at hl 1 rfl) ?_
    refine lv_iconst (v := 3) hx hb dX12_isLoose_11 (by decide) ?_
    refine v_X12_its C hl.1 hP tw_6_39 ⟨Nat.le_of_ble_eq_true rfl, Nat.le_of_ble_eq_true rfl⟩ ⟨Nat.le_refl _, Nat.le_refl _⟩ (Nat.le_of_ble_eq_true rfl) dX12_isLoose_12 hB (fun v3 hB => ?_)
    refine lv_if_ne (tgt := 22) hx hb dX12_isLoose_15 (by decide) (fun q4 => ?_) (fun q4 => ?_)
    · have hB := hB.1 q4
      refine lv_iconst (v := 0) hx hb dX12_isLoose_22 (by decide) ?_
      exact e_zR C.1 hr hlk dX12_isLoose_23 (Or.inl rfl) hB
    · have hB := hB.2 q4
      refine lv_iconst (v := 1) hx hb dX12_isLoose_18 (by decide) ?_
      refine lv_goto (tgt := 23) hx hb dX12_isLoose_19 (by decide) ?_
      exact e_zR C.1 hr hlk dX12_isLoose_23 (Or.inr rfl) hB
set_option maxRecDepth 100000 in
set_option maxHeartbeats 4000000 in
theorem v_X12_isLoose {M : Mem} {x1 : Int32} {Q1 : Int32 → Prop} (C : Cx T D p s m args c cc nL own) (hls : ls.size = nL) (hP : Pw EM T D ad 16 M H) (hlink : Cond.methodLink own index yX12_isLoose ∈ TB) (hR : 2 + 1 ≤ R.frames ∧ 8 + (2 + 11) + 48 * 2 ≤ R.locals) (hcs : cells ≤ R.cells ∧ slots ≤ R.slots) (hcat : (rest.map fun v => v.category).sum ≤ 8) (hdg : decode cc pc = .ok (.invokevirtual index, 3)) (hB : P_X12_isLoose M x1 Q1)
    (kk : ∀ r : Int32, Q1 r → W p l e R s m args below meth c H locs cells slots QQ (F0 m (pc + 3) ls (.int r :: rest))) : W p l e R s m args below meth c H locs cells slots QQ (F0 m pc ls (.int x1 :: .ref (ad 0) :: rest)) :=
  k_V (ci := 12) (n := 1) (c_X12_isLoose hB) tw_7_11 tw_7_10 tw_s_61 tw_1_12 ⟨rfl, by decide, by decide, by decide +kernel⟩ rfl rfl C hls hP oM hlink hR hcs hcat rfl hdg kk
def B_X12_looksAt_198 (Q1 : Mem → Prop) (x6 : Int32) (M : Mem) : Prop :=
  ∀ X198 : Int32 → Mem → Prop, (∀ (x6 : Int32) (M : Mem), ((((M 1 0) ≤ x6 → Q1 M) ∧
    (¬ (M 1 0) ≤ x6 → vp_in x6 9 ∧ vp_in x6 8 ∧ ∀ M14 : Mem, M14 = sf M 10 x6.toNatClampNeg (M 6 x6.toNatClampNeg) → ∀ x6_16 : Int32, x6_16 = x6 + 1 → X198 x6_16 M14))) → X198 x6 M) → X198 x6 M
def B_X12_looksAt_173 (Q1 : Mem → Prop) (x2 : Int32) (x3 : Int32) (x4 : Int32) (s0 : Int32) (M : Mem) : Prop :=
  ((x4 = 0 → Q1 M) ∧
    (¬ x4 = 0 → ((s0 = 0 → Q1 M) ∧
      (¬ s0 = 0 → ∀ M10 : Mem, M10 = sf M 0 17 x3 → ∀ M11 : Mem, M11 = sf M10 0 18 x2 → B_X12_looksAt_198 Q1 0 M11))))
def B_X12_looksAt_149 (Q1 : Mem → Prop) (x2 : Int32) (x3 : Int32) (x4 : Int32) (M : Mem) : Prop :=
  (((M 0 18) ≤ x2 → B_X12_looksAt_173 Q1 x2 x3 x4 0 M) ∧
    (¬ (M 0 18) ≤ x2 → B_X12_looksAt_173 Q1 x2 x3 x4 1 M))
def B_X12_looksAt_128 (Q1 : Mem → Prop) (x1 : Int32) (x2 : Int32) (x3 : Int32) (s0 : Int32) (M : Mem) : Prop :=
  (((M 0 18) < 0 → B_X12_looksAt_173 Q1 x2 x3 s0 1 M) ∧
    (¬ (M 0 18) < 0 → ((x3 = (M 0 17) → B_X12_looksAt_149 Q1 x2 x3 s0 M) ∧
      (¬ x3 = (M 0 17) → ((x1 = 0 → ((x3 ≤ (M 0 17) → B_X12_looksAt_173 Q1 x2 x3 s0 0 M) ∧
          (¬ x3 ≤ (M 0 17) → B_X12_looksAt_173 Q1 x2 x3 s0 1 M))) ∧
        (¬ x1 = 0 → B_X12_looksAt_149 Q1 x2 x3 s0 M))))))
def B_X12_looksAt_78 (Q1 : Mem → Prop) (x1 : Int32) (x2 : Int32) (x3 : Int32) (x4 : Int32) (M : Mem) : Prop :=
  ∀ X78 : Int32 → Mem → Prop, (∀ (x4 : Int32) (M : Mem), ((((M 1 0) ≤ x4 → ((x1 = 0 → B_X12_looksAt_128 Q1 x1 x2 x3 1 M) ∧
      (¬ x1 = 0 → ((¬ x3 = (M 1 2) → B_X12_looksAt_128 Q1 x1 x2 x3 0 M) ∧
        (x3 = (M 1 2) → B_X12_looksAt_128 Q1 x1 x2 x3 1 M))))) ∧
    (¬ (M 1 0) ≤ x4 → vp_in x4 8 ∧ P_X12_puts M x4 1 (M 7 x4.toNatClampNeg) (fun M23 => ∀ x4_24 : Int32, x4_24 = x4 + 1 → X78 x4_24 M23)))) → X78 x4 M) → X78 x4 M
def B_X12_looksAt_47 (Q1 : Mem → Prop) (X4 : Int32 → Int32 → Mem → Prop) (x1 : Int32) (x3 : Int32) (s0 : Int32) (s1 : Int32) (M : Mem) : Prop :=
  ∀ x2_28 : Int32, x2_28 = s0 + s1 → vp_in x3 9 ∧ P_X12_puts M x3 1 (M 6 x3.toNatClampNeg) (fun M30 => ∀ x3_31 : Int32, x3_31 = x3 + 1 → X4 x2_28 x3_31 M30)
def B_X12_looksAt_4 (Q1 : Mem → Prop) (x1 : Int32) (x2 : Int32) (x3 : Int32) (M : Mem) : Prop :=
  ∀ X4 : Int32 → Int32 → Mem → Prop, (∀ (x2 : Int32) (x3 : Int32) (M : Mem), ((((M 1 0) ≤ x3 → P_X12_allContent M (fun v2 M3 => P_X12_ones v2 (fun v4 => B_X12_looksAt_78 Q1 x1 x2 v4 0 M3))) ∧
    (¬ (M 1 0) ≤ x3 → vp_in x3 9 ∧ vp_in x3 8 ∧ (((M 6 x3.toNatClampNeg) ≤ (M 7 x3.toNatClampNeg) → B_X12_looksAt_47 Q1 X4 x1 x3 x2 0 M) ∧
      (¬ (M 6 x3.toNatClampNeg) ≤ (M 7 x3.toNatClampNeg) → vp_in x3 9 ∧ vp_in x3 8 ∧ B_X12_looksAt_47 Q1 X4 x1 x3 x2 ((M 6 x3.toNatClampNeg) - (M 7 x3.toNatClampNeg)) M))))) → X4 x2 x3 M) → X4 x2 x3 M
def P_X12_looksAt (M : Mem) (x1 : Int32) (Q1 : Mem → Prop) : Prop :=
  B_X12_looksAt_4 Q1 x1 0 0 M
set_option maxRecDepth 100000 in
set_option maxHeartbeats 4000000 in
theorem w_X12_looksAt_198 {M : Mem} {Q1 : Mem → Prop} {x6 : Int32} (C : Cx T D p s m args c cX12_looksAt 7 "OneOfTwoModel") (hr : meth.sig.returnType = none) (hlk : meth.locks = false) (Z : Zz EM T D ad 16 A s.heap M H locs) {ls : Array Slot} (hl : lv_has ls 7 [(0, .ref (ad 0)), (6, .int x6)]) (hB : B_X12_looksAt_198 Q1 x6 M) : W p l e (RM 55) s m args below meth c H locs 0 0 (MQ below (QcV EM T D ad 16 A Q1) args s 0 0 A) (F0 m 198 ls []) := by
  delta B_X12_looksAt_198 at hB
  obtain ⟨X198, hX198, hY198⟩ : ∃ X198 : Int32 → Mem → Prop, (∀ (x6 : Int32) (M : Mem), X198 x6 M → ∀ (H : Heap) (locs : List Loc) (ls : Array Slot), Zz EM T D ad 16 A s.heap M H locs → lv_has ls 7 [(0, .ref (ad 0)), (6, .int x6)] → W p l e (RM 55) s m args below meth c H locs 0 0 (MQ below (QcV EM T D ad 16 A Q1) args s 0 0 A) (F0 m 198 ls [])) ∧ (∀ (x6 : Int32) (M : Mem), (∀ (H : Heap) (locs : List Loc) (ls : Array Slot), Zz EM T D ad 16 A s.heap M H locs → lv_has ls 7 [(0, .ref (ad 0)), (6, .int x6)] → W p l e (RM 55) s m args below meth c H locs 0 0 (MQ below (QcV EM T D ad 16 A Q1) args s 0 0 A) (F0 m 198 ls [])) → X198 x6 M) := ⟨fun (x6 : Int32) (M : Mem) => ∀ (H : Heap) (locs : List Loc) (ls : Array Slot), Zz EM T D ad 16 A s.heap M H locs → lv_has ls 7 [(0, .ref (ad 0)), (6, .int x6)] → W p l e (RM 55) s m args below meth c H locs 0 0 (MQ below (QcV EM T D ad 16 A Q1) args s 0 0 A) (F0 m 198 ls []), fun _ _ h => h, fun _ _ h => h⟩
  refine hX198 _ _ (hB X198 (fun x6 M hB => hY198 _ _ (fun H locs ls Z hl => ?_))) _ _ _ Z hl
  have hx := C.x
  have hb := C.b
  refine lv_iload hx hb dX12_looksAt_198 (lv_at hl 1 rfl) ?_
  refine lv_aload_n hx hb dX12_looksAt_200 rfl (lv_at hl 0 rfl) ?_
  refine gf_X12_0 C Z.1 tw_5_98 dX12_looksAt_201 ?_
  refine lv_iconst (v := 0) hx hb dX12_looksAt_204 (by decide) ?_
  refine a_ldc C Z.1 aM_1 (vin rfl) (j := 0) rfl dX12_looksAt_205 ?_
  refine lv_icmp_ge (tgt := 229) hx hb dX12_looksAt_206 (by decide) (fun q12 => ?_) (fun q12 => ?_)
  · have hB := hB.1 q12
    exact e_vW C hr hlk Z dX12_looksAt_229 hB
  · have hB := hB.2 q12
    refine lv_aload_n hx hb dX12_looksAt_209 rfl (lv_at hl 0 rfl) ?_
    refine gf_X12_19 C Z.1 tw_5_117 dX12_looksAt_210 ?_
    refine lv_iload hx hb dX12_looksAt_213 (lv_at hl 1 rfl) ?_
    refine lv_aload_n hx hb dX12_looksAt_215 rfl (lv_at hl 0 rfl) ?_
    refine gf_X12_12 C Z.1 tw_5_110 dX12_looksAt_216 ?_
    refine lv_iload hx hb dX12_looksAt_219 (lv_at hl 1 rfl) ?_
    obtain ⟨q13, hB⟩ := hB
    refine a_ld C Z.1 aM_6 q13 dX12_looksAt_221 ?_
    obtain ⟨q15, hB⟩ := hB
    refine a_st C Z aM_10 q15 dX12_looksAt_222 (fun M14 H locs eM14 Z => ?_)
    have hB := hB M14 eM14
    obtain ⟨x6_16, ex6_16⟩ : ∃ y : Int32, y = x6 + 1 := ⟨_, rfl⟩
    have hB := hB x6_16 ex6_16
    refine lv_iinc (v := x6_16) (lv' := [(6, .int x6_16), (0, .ref (ad 0))]) hx hb dX12_looksAt_223 hl (k := 1) rfl (by rw [ex6_16]; rfl) (by decide) rfl (fun ls hl => ?_)
    refine lv_goto (tgt := 198) hx hb dX12_looksAt_226 (by decide) ?_
    exact hX198 _ _ hB _ _ _ Z (lv_sub hl [1, 0] rfl)
set_option maxRecDepth 100000 in
set_option maxHeartbeats 4000000 in
theorem w_X12_looksAt_173 {M : Mem} {Q1 : Mem → Prop} {x2 : Int32} {x3 : Int32} {x4 : Int32} {s0 : Int32} (C : Cx T D p s m args c cX12_looksAt 7 "OneOfTwoModel") (hr : meth.sig.returnType = none) (hlk : meth.locks = false) (Z : Zz EM T D ad 16 A s.heap M H locs) {ls : Array Slot} (hl : lv_has ls 7 [(0, .ref (ad 0)), (2, .int x2), (3, .int x3), (4, .int x4)]) (hB : B_X12_looksAt_173 Q1 x2 x3 x4 s0 M) : W p l e (RM 55) s m args below meth c H locs 0 0 (MQ below (QcV EM T D ad 16 A Q1) args s 0 0 A) (F0 m 173 ls [.int s0]) := by
  have hx := C.x
  have hb := C.b
  delta B_X12_looksAt_173 at hB
  refine lv_istore (lv' := [(5, .int s0), (0, .ref (ad 0)), (2, .int x2), (3, .int x3), (4, .int x4)]) hx hb dX12_looksAt_173 hl (by decide) rfl (fun ls hl => ?_)
  refine lv_iload hx hb dX12_looksAt_175 (lv_at hl 4 rfl) ?_
  refine lv_if_eq (tgt := 229) hx hb dX12_looksAt_177 (by decide) (fun q8 => ?_) (fun q8 => ?_)
  · have hB := hB.1 q8
    exact e_vW C hr hlk Z dX12_looksAt_229 hB
  · have hB := hB.2 q8
    refine lv_iload hx hb dX12_looksAt_180 (lv_at hl 0 rfl) ?_
    refine lv_if_eq (tgt := 229) hx hb dX12_looksAt_182 (by decide) (fun q9 => ?_) (fun q9 => ?_)
    · have hB := hB.1 q9
      exact e_vW C hr hlk Z dX12_looksAt_229 hB
    · have hB := hB.2 q9
      refine lv_aload_n hx hb dX12_looksAt_185 rfl (lv_at hl 1 rfl) ?_
      refine lv_iload_n hx hb dX12_looksAt_186 rfl (lv_at hl 3 rfl) ?_
      refine pf_X12_17 C Z tw_5_115 dX12_looksAt_187 (fun M10 H locs eM10 Z => ?_)
      have hB := hB M10 eM10
      refine lv_aload_n hx hb dX12_looksAt_190 rfl (lv_at hl 1 rfl) ?_
      refine lv_iload_n hx hb dX12_looksAt_191 rfl (lv_at hl 2 rfl) ?_
      refine pf_X12_18 C Z tw_5_116 dX12_looksAt_192 (fun M11 H locs eM11 Z => ?_)
      have hB := hB M11 eM11
      refine lv_iconst (v := 0) hx hb dX12_looksAt_195 (by decide) ?_
      refine lv_istore (lv' := [(6, .int 0), (5, .int s0), (0, .ref (ad 0)), (2, .int x2), (3, .int x3), (4, .int x4)]) hx hb dX12_looksAt_196 hl (by decide) rfl (fun ls hl => ?_)
      exact w_X12_looksAt_198 C hr hlk Z (lv_sub hl [2, 0] rfl) hB
set_option maxRecDepth 100000 in
set_option maxHeartbeats 4000000 in
theorem w_X12_looksAt_149 {M : Mem} {Q1 : Mem → Prop} {x2 : Int32} {x3 : Int32} {x4 : Int32} (C : Cx T D p s m args c cX12_looksAt 7 "OneOfTwoModel") (hr : meth.sig.returnType = none) (hlk : meth.locks = false) (Z : Zz EM T D ad 16 A s.heap M H locs) {ls : Array Slot} (hl : lv_has ls 7 [(0, .ref (ad 0)), (2, .int x2), (3, .int x3), (4, .int x4)]) (hB : B_X12_looksAt_149 Q1 x2 x3 x4 M) : W p l e (RM 55) s m args below meth c H locs 0 0 (MQ below (QcV EM T D ad 16 A Q1) args s 0 0 A) (F0 m 149 ls []) := by
  have hx := C.x
  have hb := C.b
  delta B_X12_looksAt_149 at hB
  refine lv_iload_n hx hb dX12_looksAt_149 rfl (lv_at hl 1 rfl) ?_
  refine lv_aload_n hx hb dX12_looksAt_150 rfl (lv_at hl 0 rfl) ?_
  refine gf_X12_18 C Z.1 tw_5_116 dX12_looksAt_151 ?_
  refine lv_icmp_ge (tgt := 172) hx hb dX12_looksAt_154 (by decide) (fun q18 => ?_) (fun q18 => ?_)
  · have hB := hB.1 q18
    refine lv_iconst (v := 0) hx hb dX12_looksAt_172 (by decide) ?_
    exact w_X12_looksAt_173 C hr hlk Z (lv_sub hl [0, 1, 2, 3] rfl) hB
  · have hB := hB.2 q18
    refine lv_goto (tgt := 168) hx hb dX12_looksAt_157 (by decide) ?_
    refine lv_iconst (v := 1) hx hb dX12_looksAt_168 (by decide) ?_
    refine lv_goto (tgt := 173) hx hb dX12_looksAt_169 (by decide) ?_
    exact w_X12_looksAt_173 C hr hlk Z (lv_sub hl [0, 1, 2, 3] rfl) hB
set_option maxRecDepth 100000 in
set_option maxHeartbeats 4000000 in
theorem w_X12_looksAt_128 {M : Mem} {Q1 : Mem → Prop} {x1 : Int32} {x2 : Int32} {x3 : Int32} {s0 : Int32} (C : Cx T D p s m args c cX12_looksAt 7 "OneOfTwoModel") (hr : meth.sig.returnType = none) (hlk : meth.locks = false) (Z : Zz EM T D ad 16 A s.heap M H locs) {ls : Array Slot} (hl : lv_has ls 7 [(0, .ref (ad 0)), (1, .int x1), (2, .int x2), (3, .int x3)]) (hB : B_X12_looksAt_128 Q1 x1 x2 x3 s0 M) : W p l e (RM 55) s m args below meth c H locs 0 0 (MQ below (QcV EM T D ad 16 A Q1) args s 0 0 A) (F0 m 128 ls [.int s0]) := by
  have hx := C.x
  have hb := C.b
  delta B_X12_looksAt_128 at hB
  refine lv_istore (lv' := [(4, .int s0), (0, .ref (ad 0)), (1, .int x1), (2, .int x2), (3, .int x3)]) hx hb dX12_looksAt_128 hl (by decide) rfl (fun ls hl => ?_)
  refine lv_aload_n hx hb dX12_looksAt_130 rfl (lv_at hl 1 rfl) ?_
  refine gf_X12_18 C Z.1 tw_5_116 dX12_looksAt_131 ?_
  refine lv_if_lt (tgt := 168) hx hb dX12_looksAt_134 (by decide) (fun q7 => ?_) (fun q7 => ?_)
  · have hB := hB.1 q7
    refine lv_iconst (v := 1) hx hb dX12_looksAt_168 (by decide) ?_
    refine lv_goto (tgt := 173) hx hb dX12_looksAt_169 (by decide) ?_
    exact w_X12_looksAt_173 C hr hlk Z (lv_sub hl [1, 3, 4, 0] rfl) hB
  · have hB := hB.2 q7
    refine lv_iload_n hx hb dX12_looksAt_137 rfl (lv_at hl 4 rfl) ?_
    refine lv_aload_n hx hb dX12_looksAt_138 rfl (lv_at hl 1 rfl) ?_
    refine gf_X12_17 C Z.1 tw_5_115 dX12_looksAt_139 ?_
    refine lv_icmp_eq (tgt := 149) hx hb dX12_looksAt_142 (by decide) (fun q17 => ?_) (fun q17 => ?_)
    · have hB := hB.1 q17
      exact w_X12_looksAt_149 C hr hlk Z (lv_sub hl [1, 3, 4, 0] rfl) hB
    · have hB := hB.2 q17
      refine lv_iload_n hx hb dX12_looksAt_145 rfl (lv_at hl 2 rfl) ?_
      refine lv_if_eq (tgt := 160) hx hb dX12_looksAt_146 (by decide) (fun q19 => ?_) (fun q19 => ?_)
      · have hB := hB.1 q19
        refine lv_iload_n hx hb dX12_looksAt_160 rfl (lv_at hl 4 rfl) ?_
        refine lv_aload_n hx hb dX12_looksAt_161 rfl (lv_at hl 1 rfl) ?_
        refine gf_X12_17 C Z.1 tw_5_115 dX12_looksAt_162 ?_
        refine lv_icmp_le (tgt := 172) hx hb dX12_looksAt_165 (by decide) (fun q20 => ?_) (fun q20 => ?_)
        · have hB := hB.1 q20
          refine lv_iconst (v := 0) hx hb dX12_looksAt_172 (by decide) ?_
          exact w_X12_looksAt_173 C hr hlk Z (lv_sub hl [1, 3, 4, 0] rfl) hB
        · have hB := hB.2 q20
          refine lv_iconst (v := 1) hx hb dX12_looksAt_168 (by decide) ?_
          refine lv_goto (tgt := 173) hx hb dX12_looksAt_169 (by decide) ?_
          exact w_X12_looksAt_173 C hr hlk Z (lv_sub hl [1, 3, 4, 0] rfl) hB
      · have hB := hB.2 q19
        exact w_X12_looksAt_149 C hr hlk Z (lv_sub hl [1, 3, 4, 0] rfl) hB
set_option maxRecDepth 100000 in
set_option maxHeartbeats 4000000 in
theorem w_X12_looksAt_78 {M : Mem} {Q1 : Mem → Prop} {x1 : Int32} {x2 : Int32} {x3 : Int32} {x4 : Int32} (C : Cx T D p s m args c cX12_looksAt 7 "OneOfTwoModel") (hr : meth.sig.returnType = none) (hlk : meth.locks = false) (Z : Zz EM T D ad 16 A s.heap M H locs) {ls : Array Slot} (hl : lv_has ls 7 [(0, .ref (ad 0)), (1, .int x1), (2, .int x2), (3, .int x3), (4, .int x4)]) (hB : B_X12_looksAt_78 Q1 x1 x2 x3 x4 M) : W p l e (RM 55) s m args below meth c H locs 0 0 (MQ below (QcV EM T D ad 16 A Q1) args s 0 0 A) (F0 m 78 ls []) := by
  delta B_X12_looksAt_78 at hB
  obtain ⟨X78, hX78, hY78⟩ : ∃ X78 : Int32 → Mem → Prop, (∀ (x4 : Int32) (M : Mem), X78 x4 M → ∀ (H : Heap) (locs : List Loc) (ls : Array Slot), Zz EM T D ad 16 A s.heap M H locs → lv_has ls 7 [(0, .ref (ad 0)), (1, .int x1), (2, .int x2), (3, .int x3), (4, .int x4)] → W p l e (RM 55) s m args below meth c H locs 0 0 (MQ below (QcV EM T D ad 16 A Q1) args s 0 0 A) (F0 m 78 ls [])) ∧ (∀ (x4 : Int32) (M : Mem), (∀ (H : Heap) (locs : List Loc) (ls : Array Slot), Zz EM T D ad 16 A s.heap M H locs → lv_has ls 7 [(0, .ref (ad 0)), (1, .int x1), (2, .int x2), (3, .int x3), (4, .int x4)] → W p l e (RM 55) s m args below meth c H locs 0 0 (MQ below (QcV EM T D ad 16 A Q1) args s 0 0 A) (F0 m 78 ls [])) → X78 x4 M) := ⟨fun (x4 : Int32) (M : Mem) => ∀ (H : Heap) (locs : List Loc) (ls : Array Slot), Zz EM T D ad 16 A s.heap M H locs → lv_has ls 7 [(0, .ref (ad 0)), (1, .int x1), (2, .int x2), (3, .int x3), (4, .int x4)] → W p l e (RM 55) s m args below meth c H locs 0 0 (MQ below (QcV EM T D ad 16 A Q1) args s 0 0 A) (F0 m 78 ls []), fun _ _ h => h, fun _ _ h => h⟩
  refine hX78 _ _ (hB X78 (fun x4 M hB => hY78 _ _ (fun H locs ls Z hl => ?_))) _ _ _ Z hl
  have hx := C.x
  have hb := C.b
  refine lv_iload hx hb dX12_looksAt_78 (lv_at hl 4 rfl) ?_
  refine lv_aload_n hx hb dX12_looksAt_80 rfl (lv_at hl 0 rfl) ?_
  refine gf_X12_0 C Z.1 tw_5_98 dX12_looksAt_81 ?_
  refine lv_iconst (v := 0) hx hb dX12_looksAt_84 (by decide) ?_
  refine a_ldc C Z.1 aM_1 (vin rfl) (j := 0) rfl dX12_looksAt_85 ?_
  refine lv_icmp_ge (tgt := 109) hx hb dX12_looksAt_86 (by decide) (fun q5 => ?_) (fun q5 => ?_)
  · have hB := hB.1 q5
    refine lv_iload_n hx hb dX12_looksAt_109 rfl (lv_at hl 1 rfl) ?_
    refine lv_if_eq (tgt := 123) hx hb dX12_looksAt_110 (by decide) (fun q6 => ?_) (fun q6 => ?_)
    · have hB := hB.1 q6
      refine lv_iconst (v := 1) hx hb dX12_looksAt_123 (by decide) ?_
      refine lv_goto (tgt := 128) hx hb dX12_looksAt_124 (by decide) ?_
      exact w_X12_looksAt_128 C hr hlk Z (lv_sub hl [0, 1, 2, 3] rfl) hB
    · have hB := hB.2 q6
      refine lv_iload_n hx hb dX12_looksAt_113 rfl (lv_at hl 3 rfl) ?_
      refine lv_aload_n hx hb dX12_looksAt_114 rfl (lv_at hl 0 rfl) ?_
      refine gf_X12_0 C Z.1 tw_5_98 dX12_looksAt_115 ?_
      refine lv_iconst (v := 2) hx hb dX12_looksAt_118 (by decide) ?_
      refine a_ldc C Z.1 aM_1 (vin rfl) (j := 2) rfl dX12_looksAt_119 ?_
      refine lv_icmp_ne (tgt := 127) hx hb dX12_looksAt_120 (by decide) (fun q21 => ?_) (fun q21 => ?_)
      · have hB := hB.1 q21
        refine lv_iconst (v := 0) hx hb dX12_looksAt_127 (by decide) ?_
        exact w_X12_looksAt_128 C hr hlk Z (lv_sub hl [0, 1, 2, 3] rfl) hB
      · have hB := hB.2 q21
        refine lv_iconst (v := 1) hx hb dX12_looksAt_123 (by decide) ?_
        refine lv_goto (tgt := 128) hx hb dX12_looksAt_124 (by decide) ?_
        exact w_X12_looksAt_128 C hr hlk Z (lv_sub hl [0, 1, 2, 3] rfl) hB
  · have hB := hB.2 q5
    refine lv_aload_n hx hb dX12_looksAt_89 rfl (lv_at hl 0 rfl) ?_
    refine lv_iload hx hb dX12_looksAt_90 (lv_at hl 4 rfl) ?_
    refine lv_iconst (v := 1) hx hb dX12_looksAt_92 (by decide) ?_
    refine lv_aload_n hx hb dX12_looksAt_93 rfl (lv_at hl 0 rfl) ?_
    refine gf_X12_13 C Z.1 tw_5_111 dX12_looksAt_94 ?_
    refine lv_iload hx hb dX12_looksAt_97 (lv_at hl 4 rfl) ?_
    obtain ⟨q22, hB⟩ := hB
    refine a_ld C Z.1 aM_7 q22 dX12_looksAt_99 ?_
    refine v_X12_puts C hl.1 Z tw_6_26 ⟨Nat.le_of_ble_eq_true rfl, Nat.le_of_ble_eq_true rfl⟩ ⟨Nat.le_refl _, Nat.le_refl _⟩ (Nat.le_of_ble_eq_true rfl) dX12_looksAt_100 hB (fun M23 H locs hB Z => ?_)
    obtain ⟨x4_24, ex4_24⟩ : ∃ y : Int32, y = x4 + 1 := ⟨_, rfl⟩
    have hB := hB x4_24 ex4_24
    refine lv_iinc (v := x4_24) (lv' := [(4, .int x4_24), (0, .ref (ad 0)), (1, .int x1), (2, .int x2), (3, .int x3)]) hx hb dX12_looksAt_103 hl (k := 4) rfl (by rw [ex4_24]; rfl) (by decide) rfl (fun ls hl => ?_)
    refine lv_goto (tgt := 78) hx hb dX12_looksAt_106 (by decide) ?_
    exact hX78 _ _ hB _ _ _ Z (lv_sub hl [1, 2, 3, 4, 0] rfl)
set_option maxRecDepth 100000 in
set_option maxHeartbeats 4000000 in
theorem w_X12_looksAt_47 {M : Mem} {Q1 : Mem → Prop} {X4 : Int32 → Int32 → Mem → Prop} {x1 : Int32} {x3 : Int32} {s0 : Int32} {s1 : Int32} (C : Cx T D p s m args c cX12_looksAt 7 "OneOfTwoModel") (hr : meth.sig.returnType = none) (hlk : meth.locks = false) (Z : Zz EM T D ad 16 A s.heap M H locs) (hX4 : ∀ (x2 : Int32) (x3 : Int32) (M : Mem), X4 x2 x3 M → ∀ (H : Heap) (locs : List Loc) (ls : Array Slot), Zz EM T D ad 16 A s.heap M H locs → lv_has ls 7 [(0, .ref (ad 0)), (1, .int x1), (2, .int x2), (3, .int x3)] → W p l e (RM 55) s m args below meth c H locs 0 0 (MQ below (QcV EM T D ad 16 A Q1) args s 0 0 A) (F0 m 4 ls [])) {ls : Array Slot} (hl : lv_has ls 7 [(0, .ref (ad 0)), (1, .int x1), (3, .int x3)]) (hB : B_X12_looksAt_47 Q1 X4 x1 x3 s0 s1 M) : W p l e (RM 55) s m args below meth c H locs 0 0 (MQ below (QcV EM T D ad 16 A Q1) args s 0 0 A) (F0 m 47 ls [.int s1, .int s0]) := by
  have hx := C.x
  have hb := C.b
  delta B_X12_looksAt_47 at hB
  refine lv_iadd hx hb dX12_looksAt_47 ?_
  refine lv_topi (fun x2_28 ex2_28 => ?_)
  have hB := hB x2_28 ex2_28
  refine lv_istore_n (lv' := [(2, .int x2_28), (0, .ref (ad 0)), (1, .int x1), (3, .int x3)]) hx hb dX12_looksAt_48 rfl hl (by decide) rfl (fun ls hl => ?_)
  refine lv_aload_n hx hb dX12_looksAt_49 rfl (lv_at hl 1 rfl) ?_
  refine lv_iload_n hx hb dX12_looksAt_50 rfl (lv_at hl 3 rfl) ?_
  refine lv_iconst (v := 1) hx hb dX12_looksAt_51 (by decide) ?_
  refine lv_aload_n hx hb dX12_looksAt_52 rfl (lv_at hl 1 rfl) ?_
  refine gf_X12_12 C Z.1 tw_5_110 dX12_looksAt_53 ?_
  refine lv_iload_n hx hb dX12_looksAt_56 rfl (lv_at hl 3 rfl) ?_
  obtain ⟨q29, hB⟩ := hB
  refine a_ld C Z.1 aM_6 q29 dX12_looksAt_57 ?_
  refine v_X12_puts C hl.1 Z tw_6_26 ⟨Nat.le_of_ble_eq_true rfl, Nat.le_of_ble_eq_true rfl⟩ ⟨Nat.le_refl _, Nat.le_refl _⟩ (Nat.le_of_ble_eq_true rfl) dX12_looksAt_58 hB (fun M30 H locs hB Z => ?_)
  obtain ⟨x3_31, ex3_31⟩ : ∃ y : Int32, y = x3 + 1 := ⟨_, rfl⟩
  have hB := hB x3_31 ex3_31
  refine lv_iinc (v := x3_31) (lv' := [(3, .int x3_31), (2, .int x2_28), (0, .ref (ad 0)), (1, .int x1)]) hx hb dX12_looksAt_61 hl (k := 3) rfl (by rw [ex3_31]; rfl) (by decide) rfl (fun ls hl => ?_)
  refine lv_goto (tgt := 4) hx hb dX12_looksAt_64 (by decide) ?_
  exact hX4 _ _ _ hB _ _ _ Z (lv_sub hl [2, 3, 1, 0] rfl)
set_option maxRecDepth 100000 in
set_option maxHeartbeats 4000000 in
theorem w_X12_looksAt_4 {M : Mem} {Q1 : Mem → Prop} {x1 : Int32} {x2 : Int32} {x3 : Int32} (C : Cx T D p s m args c cX12_looksAt 7 "OneOfTwoModel") (hr : meth.sig.returnType = none) (hlk : meth.locks = false) (Z : Zz EM T D ad 16 A s.heap M H locs) {ls : Array Slot} (hl : lv_has ls 7 [(0, .ref (ad 0)), (1, .int x1), (2, .int x2), (3, .int x3)]) (hB : B_X12_looksAt_4 Q1 x1 x2 x3 M) : W p l e (RM 55) s m args below meth c H locs 0 0 (MQ below (QcV EM T D ad 16 A Q1) args s 0 0 A) (F0 m 4 ls []) := by
  delta B_X12_looksAt_4 at hB
  obtain ⟨X4, hX4, hY4⟩ : ∃ X4 : Int32 → Int32 → Mem → Prop, (∀ (x2 : Int32) (x3 : Int32) (M : Mem), X4 x2 x3 M → ∀ (H : Heap) (locs : List Loc) (ls : Array Slot), Zz EM T D ad 16 A s.heap M H locs → lv_has ls 7 [(0, .ref (ad 0)), (1, .int x1), (2, .int x2), (3, .int x3)] → W p l e (RM 55) s m args below meth c H locs 0 0 (MQ below (QcV EM T D ad 16 A Q1) args s 0 0 A) (F0 m 4 ls [])) ∧ (∀ (x2 : Int32) (x3 : Int32) (M : Mem), (∀ (H : Heap) (locs : List Loc) (ls : Array Slot), Zz EM T D ad 16 A s.heap M H locs → lv_has ls 7 [(0, .ref (ad 0)), (1, .int x1), (2, .int x2), (3, .int x3)] → W p l e (RM 55) s m args below meth c H locs 0 0 (MQ below (QcV EM T D ad 16 A Q1) args s 0 0 A) (F0 m 4 ls [])) → X4 x2 x3 M) := ⟨fun (x2 : Int32) (x3 : Int32) (M : Mem) => ∀ (H : Heap) (locs : List Loc) (ls : Array Slot), Zz EM T D ad 16 A s.heap M H locs → lv_has ls 7 [(0, .ref (ad 0)), (1, .int x1), (2, .int x2), (3, .int x3)] → W p l e (RM 55) s m args below meth c H locs 0 0 (MQ below (QcV EM T D ad 16 A Q1) args s 0 0 A) (F0 m 4 ls []), fun _ _ _ h => h, fun _ _ _ h => h⟩
  refine hX4 _ _ _ (hB X4 (fun x2 x3 M hB => hY4 _ _ _ (fun H locs ls Z hl => ?_))) _ _ _ Z hl
  have hx := C.x
  have hb := C.b
  refine lv_iload_n hx hb dX12_looksAt_4 rfl (lv_at hl 3 rfl) ?_
  refine lv_aload_n hx hb dX12_looksAt_5 rfl (lv_at hl 0 rfl) ?_
  refine gf_X12_0 C Z.1 tw_5_98 dX12_looksAt_6 ?_
  refine lv_iconst (v := 0) hx hb dX12_looksAt_9 (by decide) ?_
  refine a_ldc C Z.1 aM_1 (vin rfl) (j := 0) rfl dX12_looksAt_10 ?_
  refine lv_icmp_ge (tgt := 67) hx hb dX12_looksAt_11 (by decide) (fun q1 => ?_) (fun q1 => ?_)
  · have hB := hB.1 q1
    refine lv_aload_n hx hb dX12_looksAt_67 rfl (lv_at hl 0 rfl) ?_
    refine v_X12_allContent C hl.1 Z tw_6_168 ⟨Nat.le_of_ble_eq_true rfl, Nat.le_of_ble_eq_true rfl⟩ ⟨Nat.le_refl _, Nat.le_refl _⟩ (Nat.le_of_ble_eq_true rfl) dX12_looksAt_68 hB (fun v2 M3 H locs hB Z => ?_)
    refine v_X12_ones C.1 hl.1 tw_6_34 ⟨Nat.le_of_ble_eq_true rfl, Nat.le_of_ble_eq_true rfl⟩ ⟨Nat.le_refl _, Nat.le_refl _⟩ (Nat.le_of_ble_eq_true rfl) dX12_looksAt_71 hB (fun v4 hB => ?_)
    refine lv_istore_n (lv' := [(3, .int v4), (0, .ref (ad 0)), (1, .int x1), (2, .int x2)]) hx hb dX12_looksAt_74 rfl hl (by decide) rfl (fun ls hl => ?_)
    refine lv_iconst (v := 0) hx hb dX12_looksAt_75 (by decide) ?_
    refine lv_istore (lv' := [(4, .int 0), (3, .int v4), (0, .ref (ad 0)), (1, .int x1), (2, .int x2)]) hx hb dX12_looksAt_76 hl (by decide) rfl (fun ls hl => ?_)
    exact w_X12_looksAt_78 C hr hlk Z (lv_sub hl [2, 3, 4, 1, 0] rfl) hB
  · have hB := hB.2 q1
    refine lv_iload_n hx hb dX12_looksAt_14 rfl (lv_at hl 2 rfl) ?_
    refine lv_aload_n hx hb dX12_looksAt_15 rfl (lv_at hl 0 rfl) ?_
    refine gf_X12_12 C Z.1 tw_5_110 dX12_looksAt_16 ?_
    refine lv_iload_n hx hb dX12_looksAt_19 rfl (lv_at hl 3 rfl) ?_
    obtain ⟨q25, hB⟩ := hB
    refine a_ld C Z.1 aM_6 q25 dX12_looksAt_20 ?_
    refine lv_aload_n hx hb dX12_looksAt_21 rfl (lv_at hl 0 rfl) ?_
    refine gf_X12_13 C Z.1 tw_5_111 dX12_looksAt_22 ?_
    refine lv_iload_n hx hb dX12_looksAt_25 rfl (lv_at hl 3 rfl) ?_
    obtain ⟨q26, hB⟩ := hB
    refine a_ld C Z.1 aM_7 q26 dX12_looksAt_26 ?_
    refine lv_icmp_le (tgt := 46) hx hb dX12_looksAt_27 (by decide) (fun q27 => ?_) (fun q27 => ?_)
    · have hB := hB.1 q27
      refine lv_iconst (v := 0) hx hb dX12_looksAt_46 (by decide) ?_
      exact w_X12_looksAt_47 C hr hlk Z hX4 (lv_sub hl [0, 1, 3] rfl) hB
    · have hB := hB.2 q27
      refine lv_aload_n hx hb dX12_looksAt_30 rfl (lv_at hl 0 rfl) ?_
      refine gf_X12_12 C Z.1 tw_5_110 dX12_looksAt_31 ?_
      refine lv_iload_n hx hb dX12_looksAt_34 rfl (lv_at hl 3 rfl) ?_
      obtain ⟨q32, hB⟩ := hB
      refine a_ld C Z.1 aM_6 q32 dX12_looksAt_35 ?_
      refine lv_aload_n hx hb dX12_looksAt_36 rfl (lv_at hl 0 rfl) ?_
      refine gf_X12_13 C Z.1 tw_5_111 dX12_looksAt_37 ?_
      refine lv_iload_n hx hb dX12_looksAt_40 rfl (lv_at hl 3 rfl) ?_
      obtain ⟨q33, hB⟩ := hB
      refine a_ld C Z.1 aM_7 q33 dX12_looksAt_41 ?_
      refine lv_isub hx hb dX12_looksAt_42 ?_
      refine lv_goto (tgt := 47) hx hb dX12_looksAt_43 (by decide) ?_
      exact w_X12_looksAt_47 C hr hlk Z hX4 (lv_sub hl [0, 1, 3] rfl) hB
set_option maxRecDepth 100000 in
set_option maxHeartbeats 4000000 in
theorem c_X12_looksAt {l : Launch} {T : Nat → ClassId} {D : va_G} {ad : Nat → Nat} {M : Mem} {x1 : Int32} {sz : Nat} {Q1 : Mem → Prop} (hB : P_X12_looksAt M x1 Q1) : Met l yX12_looksAt (Cond.code yX12_looksAt cX12_looksAt 7 none :: TB) (RM 55) (va_Pc [.ref (ad 0), .int x1] (WrP EM T D ad 16 M sz)) (QcV EM T D ad 16 (AA ad 16 sz) Q1) 0 0 (AA ad 16 sz) := by
  refine st_W (by decide) (Nat.le_of_ble_eq_true rfl) (fun p e s m args below meth c ls C hr hlk hsz Z hl => ?_)
  have hl : lv_has ls 7 [(0, .ref (ad 0)), (1, .int x1)] := hl
  generalize AA ad 16 sz = A at Z ⊢
  have hx := C.x
  have hb := C.b
  delta P_X12_looksAt at hB
  refine lv_iconst (v := 0) hx hb dX12_looksAt_0 (by decide) ?_
  refine lv_istore_n (lv' := [(2, .int 0), (0, .ref (ad 0)), (1, .int x1)]) hx hb dX12_looksAt_1 rfl hl (by decide) rfl (fun ls hl => ?_)
  refine lv_iconst (v := 0) hx hb dX12_looksAt_2 (by decide) ?_
  refine lv_istore_n (lv' := [(3, .int 0), (2, .int 0), (0, .ref (ad 0)), (1, .int x1)]) hx hb dX12_looksAt_3 rfl hl (by decide) rfl (fun ls hl => ?_)
  exact w_X12_looksAt_4 C hr hlk Z (lv_sub hl [2, 3, 1, 0] rfl) hB
set_option maxRecDepth 100000 in
set_option maxHeartbeats 4000000 in
theorem v_X12_looksAt {M : Mem} {x1 : Int32} {Q1 : Mem → Prop} (C : Cx T D p s m args c cc nL own) (hls : ls.size = nL) (Z : Zz EM T D ad 16 A H0 M H locs) (hlink : Cond.methodLink own index yX12_looksAt ∈ TB) (hR : 55 + 1 ≤ R.frames ∧ 8 + (7 + 11) + 48 * 55 ≤ R.locals) (hcs : cells ≤ R.cells ∧ slots ≤ R.slots) (hcat : (rest.map fun v => v.category).sum ≤ 8) (hdg : decode cc pc = .ok (.invokevirtual index, 3)) (hB : P_X12_looksAt M x1 Q1)
    (kk : ∀ (M1 : Mem) (H1 : Heap) (locs1 : List Loc), Q1 M1 → Zz EM T D ad 16 A H0 M1 H1 locs1 → W p l e R s m args below meth c H1 locs1 cells slots QQ (F0 m (pc + 3) ls rest)) : W p l e R s m args below meth c H locs cells slots QQ (F0 m pc ls (.int x1 :: .ref (ad 0) :: rest)) :=
  k_VV (ci := 12) (n := 1) (c_X12_looksAt hB) tw_7_15 tw_7_14 tw_s_62 tw_1_12 ⟨rfl, by decide, by decide, by decide +kernel⟩ rfl rfl C hls Z oM hlink hR hcs hcat rfl hdg kk
def B_X12_nextOf_144 (Q1 : Int32 → Mem → Prop) (x2 : Int32) (x4 : Int32) (x5 : Int32) (s1 : Int32) (s2 : Int32) (M : Mem) : Prop :=
  vp_in s1 9 ∧ ∀ M14 : Mem, M14 = sf M 6 s1.toNatClampNeg s2 → vp_in x2 5 ∧ ((x5 = 0 → vp_in x2 5 ∧ ∀ M18 : Mem, M18 = sf M14 8 x2.toNatClampNeg ((M14 8 x2.toNatClampNeg) - 0) → (x5 = 0 ∨ x5 = 1) ∧ Q1 x5 M18) ∧
    (¬ x5 = 0 → vp_in x2 5 ∧ ∀ M20 : Mem, M20 = sf M14 8 x2.toNatClampNeg ((M14 8 x2.toNatClampNeg) - x4) → (x5 = 0 ∨ x5 = 1) ∧ Q1 x5 M20))
def B_X12_nextOf_126 (Q1 : Int32 → Mem → Prop) (x1 : Int32) (x2 : Int32) (x4 : Int32) (s0 : Int32) (M : Mem) : Prop :=
  ((s0 = 0 → B_X12_nextOf_144 Q1 x2 x4 s0 x1 (-1) M) ∧
    (¬ s0 = 0 → B_X12_nextOf_144 Q1 x2 x4 s0 x1 x4 M))
def B_X12_nextOf_101 (Q1 : Int32 → Mem → Prop) (x1 : Int32) (x2 : Int32) (s0 : Int32) (M : Mem) : Prop :=
  ((9 < s0 → B_X12_nextOf_126 Q1 x1 x2 s0 0 M) ∧
    (¬ 9 < s0 → vp_in x2 5 ∧ (((M 8 x2.toNatClampNeg) < s0 → B_X12_nextOf_126 Q1 x1 x2 s0 0 M) ∧
      (¬ (M 8 x2.toNatClampNeg) < s0 → B_X12_nextOf_126 Q1 x1 x2 s0 1 M))))
def B_X12_nextOf_68 (Q1 : Int32 → Mem → Prop) (x1 : Int32) (x2 : Int32) (x3 : Int32) (s1 : Int32) (s2 : Int32) (s3 : Int32) (M : Mem) : Prop :=
  vp_in s1 5 ∧ ∀ M8 : Mem, M8 = sf M 8 s1.toNatClampNeg (s2 + s3) → vp_in x2 5 ∧ ((¬ (M8 9 x2.toNatClampNeg) = x1 → B_X12_nextOf_101 Q1 x1 x2 (x3 + 1) M8) ∧
    ((M8 9 x2.toNatClampNeg) = x1 → ((0 ≤ x3 → B_X12_nextOf_101 Q1 x1 x2 10 M8) ∧
      (¬ 0 ≤ x3 → vp_in x2 5 ∧ B_X12_nextOf_101 Q1 x1 x2 (M8 8 x2.toNatClampNeg) M8))))
def B_X12_nextOf_41 (Q1 : Int32 → Mem → Prop) (x3 : Int32) (s1 : Int32) (s2 : Int32) (M : Mem) : Prop :=
  vp_in s1 9 ∧ ∀ M27 : Mem, M27 = sf M 6 s1.toNatClampNeg s2 → ((0 ≤ x3 → Q1 0 M27) ∧
    (¬ 0 ≤ x3 → Q1 1 M27))
def P_X12_nextOf (M : Mem) (x1 : Int32) (Q1 : Int32 → Mem → Prop) : Prop :=
  P_X12_its M x1 2 (fun v1 => vp_in x1 9 ∧ ∀ x3_3 : Int32, x3_3 = M 6 x1.toNatClampNeg → P_X12_isLoose M x1 (fun v4 => ((¬ v4 = 0 → vp_in v1 5 ∧ ((0 ≤ x3_3 → B_X12_nextOf_68 Q1 x1 v1 x3_3 v1 (M 8 v1.toNatClampNeg) x3_3 M) ∧
      (¬ 0 ≤ x3_3 → B_X12_nextOf_68 Q1 x1 v1 x3_3 v1 (M 8 v1.toNatClampNeg) 0 M))) ∧
    (v4 = 0 → ((0 ≤ x3_3 → B_X12_nextOf_41 Q1 x3_3 x1 (-1) M) ∧
      (¬ 0 ≤ x3_3 → vp_in x1 8 ∧ B_X12_nextOf_41 Q1 x3_3 x1 (M 7 x1.toNatClampNeg) M))))))
set_option maxRecDepth 100000 in
set_option maxHeartbeats 4000000 in
theorem w_X12_nextOf_144 {M : Mem} {Q1 : Int32 → Mem → Prop} {x2 : Int32} {x4 : Int32} {x5 : Int32} {s1 : Int32} {s2 : Int32} (C : Cx T D p s m args c cX12_nextOf 6 "OneOfTwoModel") (hr : meth.sig.returnType = (some .boolean)) (hlk : meth.locks = false) (Z : Zz EM T D ad 16 A s.heap M H locs) {ls : Array Slot} (hl : lv_has ls 6 [(0, .ref (ad 0)), (2, .int x2), (4, .int x4), (5, .int x5)]) (hB : B_X12_nextOf_144 Q1 x2 x4 x5 s1 s2 M) : W p l e (RM 3) s m args below meth c H locs 0 0 (MQ below (QcW EM T D ad 16 A Q1) args s 0 0 A) (F0 m 144 ls [.int s2, .int s1, .ref (ad 6)]) := by
  have hx := C.x
  have hb := C.b
  delta B_X12_nextOf_144 at hB
  obtain ⟨q15, hB⟩ := hB
  refine a_st C Z aM_6 q15 dX12_nextOf_144 (fun M14 H locs eM14 Z => ?_)
  have hB := hB M14 eM14
  refine lv_aload_n hx hb dX12_nextOf_145 rfl (lv_at hl 0 rfl) ?_
  refine gf_X12_14 C Z.1 tw_5_112 dX12_nextOf_146 ?_
  refine lv_iload_n hx hb dX12_nextOf_149 rfl (lv_at hl 1 rfl) ?_
  refine lv_dup2_11 hx hb dX12_nextOf_150 rfl rfl ?_
  obtain ⟨q16, hB⟩ := hB
  refine a_ld C Z.1 aM_8 q16 dX12_nextOf_151 ?_
  refine lv_iload hx hb dX12_nextOf_152 (lv_at hl 3 rfl) ?_
  refine lv_if_eq (tgt := 162) hx hb dX12_nextOf_154 (by decide) (fun q17 => ?_) (fun q17 => ?_)
  · have hB := hB.1 q17
    refine lv_iconst (v := 0) hx hb dX12_nextOf_162 (by decide) ?_
    refine lv_isub hx hb dX12_nextOf_163 ?_
    obtain ⟨q19, hB⟩ := hB
    refine a_st C Z aM_8 q19 dX12_nextOf_164 (fun M18 H locs eM18 Z => ?_)
    have hB := hB M18 eM18
    refine lv_iload hx hb dX12_nextOf_165 (lv_at hl 3 rfl) ?_
    exact e_zW C hr hlk Z dX12_nextOf_167 hB.1 hB.2
  · have hB := hB.2 q17
    refine lv_iload hx hb dX12_nextOf_157 (lv_at hl 2 rfl) ?_
    refine lv_goto (tgt := 163) hx hb dX12_nextOf_159 (by decide) ?_
    refine lv_isub hx hb dX12_nextOf_163 ?_
    obtain ⟨q21, hB⟩ := hB
    refine a_st C Z aM_8 q21 dX12_nextOf_164 (fun M20 H locs eM20 Z => ?_)
    have hB := hB M20 eM20
    refine lv_iload hx hb dX12_nextOf_165 (lv_at hl 3 rfl) ?_
    exact e_zW C hr hlk Z dX12_nextOf_167 hB.1 hB.2
set_option maxRecDepth 100000 in
set_option maxHeartbeats 4000000 in
theorem w_X12_nextOf_126 {M : Mem} {Q1 : Int32 → Mem → Prop} {x1 : Int32} {x2 : Int32} {x4 : Int32} {s0 : Int32} (C : Cx T D p s m args c cX12_nextOf 6 "OneOfTwoModel") (hr : meth.sig.returnType = (some .boolean)) (hlk : meth.locks = false) (Z : Zz EM T D ad 16 A s.heap M H locs) {ls : Array Slot} (hl : lv_has ls 6 [(0, .ref (ad 0)), (1, .int x1), (2, .int x2), (4, .int x4)]) (hB : B_X12_nextOf_126 Q1 x1 x2 x4 s0 M) : W p l e (RM 3) s m args below meth c H locs 0 0 (MQ below (QcW EM T D ad 16 A Q1) args s 0 0 A) (F0 m 126 ls [.int s0]) := by
  have hx := C.x
  have hb := C.b
  delta B_X12_nextOf_126 at hB
  refine lv_istore (lv' := [(5, .int s0), (0, .ref (ad 0)), (1, .int x1), (2, .int x2), (4, .int x4)]) hx hb dX12_nextOf_126 hl (by decide) rfl (fun ls hl => ?_)
  refine lv_aload_n hx hb dX12_nextOf_128 rfl (lv_at hl 1 rfl) ?_
  refine gf_X12_12 C Z.1 tw_5_110 dX12_nextOf_129 ?_
  refine lv_iload_n hx hb dX12_nextOf_132 rfl (lv_at hl 2 rfl) ?_
  refine lv_iload hx hb dX12_nextOf_133 (lv_at hl 0 rfl) ?_
  refine lv_if_eq (tgt := 143) hx hb dX12_nextOf_135 (by decide) (fun q13 => ?_) (fun q13 => ?_)
  · have hB := hB.1 q13
    refine lv_iconst (v := (-1)) hx hb dX12_nextOf_143 (by decide) ?_
    exact w_X12_nextOf_144 C hr hlk Z (lv_sub hl [1, 3, 4, 0] rfl) hB
  · have hB := hB.2 q13
    refine lv_iload hx hb dX12_nextOf_138 (lv_at hl 4 rfl) ?_
    refine lv_goto (tgt := 144) hx hb dX12_nextOf_140 (by decide) ?_
    exact w_X12_nextOf_144 C hr hlk Z (lv_sub hl [1, 3, 4, 0] rfl) hB
set_option maxRecDepth 100000 in
set_option maxHeartbeats 4000000 in
theorem w_X12_nextOf_101 {M : Mem} {Q1 : Int32 → Mem → Prop} {x1 : Int32} {x2 : Int32} {s0 : Int32} (C : Cx T D p s m args c cX12_nextOf 6 "OneOfTwoModel") (hr : meth.sig.returnType = (some .boolean)) (hlk : meth.locks = false) (Z : Zz EM T D ad 16 A s.heap M H locs) {ls : Array Slot} (hl : lv_has ls 6 [(0, .ref (ad 0)), (1, .int x1), (2, .int x2)]) (hB : B_X12_nextOf_101 Q1 x1 x2 s0 M) : W p l e (RM 3) s m args below meth c H locs 0 0 (MQ below (QcW EM T D ad 16 A Q1) args s 0 0 A) (F0 m 101 ls [.int s0]) := by
  have hx := C.x
  have hb := C.b
  delta B_X12_nextOf_101 at hB
  refine lv_istore (lv' := [(4, .int s0), (0, .ref (ad 0)), (1, .int x1), (2, .int x2)]) hx hb dX12_nextOf_101 hl (by decide) rfl (fun ls hl => ?_)
  refine lv_iload hx hb dX12_nextOf_103 (lv_at hl 0 rfl) ?_
  refine lv_bipush (v := 9) hx hb dX12_nextOf_105 (by decide) ?_
  refine lv_icmp_gt (tgt := 125) hx hb dX12_nextOf_107 (by decide) (fun q12 => ?_) (fun q12 => ?_)
  · have hB := hB.1 q12
    refine lv_iconst (v := 0) hx hb dX12_nextOf_125 (by decide) ?_
    exact w_X12_nextOf_126 C hr hlk Z (lv_sub hl [1, 2, 3, 0] rfl) hB
  · have hB := hB.2 q12
    refine lv_iload hx hb dX12_nextOf_110 (lv_at hl 0 rfl) ?_
    refine lv_aload_n hx hb dX12_nextOf_112 rfl (lv_at hl 1 rfl) ?_
    refine gf_X12_14 C Z.1 tw_5_112 dX12_nextOf_113 ?_
    refine lv_iload_n hx hb dX12_nextOf_116 rfl (lv_at hl 3 rfl) ?_
    obtain ⟨q22, hB⟩ := hB
    refine a_ld C Z.1 aM_8 q22 dX12_nextOf_117 ?_
    refine lv_icmp_gt (tgt := 125) hx hb dX12_nextOf_118 (by decide) (fun q23 => ?_) (fun q23 => ?_)
    · have hB := hB.1 q23
      refine lv_iconst (v := 0) hx hb dX12_nextOf_125 (by decide) ?_
      exact w_X12_nextOf_126 C hr hlk Z (lv_sub hl [1, 2, 3, 0] rfl) hB
    · have hB := hB.2 q23
      refine lv_iconst (v := 1) hx hb dX12_nextOf_121 (by decide) ?_
      refine lv_goto (tgt := 126) hx hb dX12_nextOf_122 (by decide) ?_
      exact w_X12_nextOf_126 C hr hlk Z (lv_sub hl [1, 2, 3, 0] rfl) hB
set_option maxRecDepth 100000 in
set_option maxHeartbeats 4000000 in
theorem w_X12_nextOf_68 {M : Mem} {Q1 : Int32 → Mem → Prop} {x1 : Int32} {x2 : Int32} {x3 : Int32} {s1 : Int32} {s2 : Int32} {s3 : Int32} (C : Cx T D p s m args c cX12_nextOf 6 "OneOfTwoModel") (hr : meth.sig.returnType = (some .boolean)) (hlk : meth.locks = false) (Z : Zz EM T D ad 16 A s.heap M H locs) {ls : Array Slot} (hl : lv_has ls 6 [(0, .ref (ad 0)), (1, .int x1), (2, .int x2), (3, .int x3)]) (hB : B_X12_nextOf_68 Q1 x1 x2 x3 s1 s2 s3 M) : W p l e (RM 3) s m args below meth c H locs 0 0 (MQ below (QcW EM T D ad 16 A Q1) args s 0 0 A) (F0 m 68 ls [.int s3, .int s2, .int s1, .ref (ad 8)]) := by
  have hx := C.x
  have hb := C.b
  delta B_X12_nextOf_68 at hB
  refine lv_iadd hx hb dX12_nextOf_68 ?_
  obtain ⟨q9, hB⟩ := hB
  refine a_st C Z aM_8 q9 dX12_nextOf_69 (fun M8 H locs eM8 Z => ?_)
  have hB := hB M8 eM8
  refine lv_aload_n hx hb dX12_nextOf_70 rfl (lv_at hl 0 rfl) ?_
  refine gf_X12_15 C Z.1 tw_5_113 dX12_nextOf_71 ?_
  refine lv_iload_n hx hb dX12_nextOf_74 rfl (lv_at hl 2 rfl) ?_
  obtain ⟨q10, hB⟩ := hB
  refine a_ld C Z.1 aM_9 q10 dX12_nextOf_75 ?_
  refine lv_iload_n hx hb dX12_nextOf_76 rfl (lv_at hl 1 rfl) ?_
  refine lv_icmp_ne (tgt := 98) hx hb dX12_nextOf_77 (by decide) (fun q11 => ?_) (fun q11 => ?_)
  · have hB := hB.1 q11
    refine lv_iload_n hx hb dX12_nextOf_98 rfl (lv_at hl 3 rfl) ?_
    refine lv_iconst (v := 1) hx hb dX12_nextOf_99 (by decide) ?_
    refine lv_iadd hx hb dX12_nextOf_100 ?_
    exact w_X12_nextOf_101 C hr hlk Z (lv_sub hl [0, 1, 2] rfl) hB
  · have hB := hB.2 q11
    refine lv_iload_n hx hb dX12_nextOf_80 rfl (lv_at hl 3 rfl) ?_
    refine lv_if_ge (tgt := 93) hx hb dX12_nextOf_81 (by decide) (fun q24 => ?_) (fun q24 => ?_)
    · have hB := hB.1 q24
      refine lv_bipush (v := 10) hx hb dX12_nextOf_93 (by decide) ?_
      refine lv_goto (tgt := 101) hx hb dX12_nextOf_95 (by decide) ?_
      exact w_X12_nextOf_101 C hr hlk Z (lv_sub hl [0, 1, 2] rfl) hB
    · have hB := hB.2 q24
      refine lv_aload_n hx hb dX12_nextOf_84 rfl (lv_at hl 0 rfl) ?_
      refine gf_X12_14 C Z.1 tw_5_112 dX12_nextOf_85 ?_
      refine lv_iload_n hx hb dX12_nextOf_88 rfl (lv_at hl 2 rfl) ?_
      obtain ⟨q25, hB⟩ := hB
      refine a_ld C Z.1 aM_8 q25 dX12_nextOf_89 ?_
      refine lv_goto (tgt := 101) hx hb dX12_nextOf_90 (by decide) ?_
      exact w_X12_nextOf_101 C hr hlk Z (lv_sub hl [0, 1, 2] rfl) hB
set_option maxRecDepth 100000 in
set_option maxHeartbeats 4000000 in
theorem w_X12_nextOf_41 {M : Mem} {Q1 : Int32 → Mem → Prop} {x3 : Int32} {s1 : Int32} {s2 : Int32} (C : Cx T D p s m args c cX12_nextOf 6 "OneOfTwoModel") (hr : meth.sig.returnType = (some .boolean)) (hlk : meth.locks = false) (Z : Zz EM T D ad 16 A s.heap M H locs) {ls : Array Slot} (hl : lv_has ls 6 [(3, .int x3)]) (hB : B_X12_nextOf_41 Q1 x3 s1 s2 M) : W p l e (RM 3) s m args below meth c H locs 0 0 (MQ below (QcW EM T D ad 16 A Q1) args s 0 0 A) (F0 m 41 ls [.int s2, .int s1, .ref (ad 6)]) := by
  have hx := C.x
  have hb := C.b
  delta B_X12_nextOf_41 at hB
  obtain ⟨q28, hB⟩ := hB
  refine a_st C Z aM_6 q28 dX12_nextOf_41 (fun M27 H locs eM27 Z => ?_)
  have hB := hB M27 eM27
  refine lv_iload_n hx hb dX12_nextOf_42 rfl (lv_at hl 0 rfl) ?_
  refine lv_if_ge (tgt := 50) hx hb dX12_nextOf_43 (by decide) (fun q29 => ?_) (fun q29 => ?_)
  · have hB := hB.1 q29
    refine lv_iconst (v := 0) hx hb dX12_nextOf_50 (by decide) ?_
    exact e_zW C hr hlk Z dX12_nextOf_51 (Or.inl rfl) hB
  · have hB := hB.2 q29
    refine lv_iconst (v := 1) hx hb dX12_nextOf_46 (by decide) ?_
    refine lv_goto (tgt := 51) hx hb dX12_nextOf_47 (by decide) ?_
    exact e_zW C hr hlk Z dX12_nextOf_51 (Or.inr rfl) hB
set_option maxRecDepth 100000 in
set_option maxHeartbeats 4000000 in
theorem c_X12_nextOf {l : Launch} {T : Nat → ClassId} {D : va_G} {ad : Nat → Nat} {M : Mem} {x1 : Int32} {sz : Nat} {Q1 : Int32 → Mem → Prop} (hB : P_X12_nextOf M x1 Q1) : Met l yX12_nextOf (Cond.code yX12_nextOf cX12_nextOf 6 (some .boolean) :: TB) (RM 3) (va_Pc [.ref (ad 0), .int x1] (WrP EM T D ad 16 M sz)) (QcW EM T D ad 16 (AA ad 16 sz) Q1) 0 0 (AA ad 16 sz) := by
  refine st_W (by decide) (Nat.le_of_ble_eq_true rfl) (fun p e s m args below meth c ls C hr hlk hsz Z hl => ?_)
  have hl : lv_has ls 6 [(0, .ref (ad 0)), (1, .int x1)] := hl
  generalize AA ad 16 sz = A at Z ⊢
  have hx := C.x
  have hb := C.b
  delta P_X12_nextOf at hB
  refine lv_aload_n hx hb dX12_nextOf_0 rfl (lv_at hl 0 rfl) ?_
  refine lv_iload_n hx hb dX12_nextOf_1 rfl (lv_at hl 1 rfl) ?_
  refine lv_iconst (v := 2) hx hb dX12_nextOf_2 (by decide) ?_
  refine v_X12_its C hl.1 Z.1 tw_6_39 ⟨Nat.le_of_ble_eq_true rfl, Nat.le_of_ble_eq_true rfl⟩ ⟨Nat.le_refl _, Nat.le_refl _⟩ (Nat.le_of_ble_eq_true rfl) dX12_nextOf_3 hB (fun v1 hB => ?_)
  refine lv_istore_n (lv' := [(2, .int v1), (0, .ref (ad 0)), (1, .int x1)]) hx hb dX12_nextOf_6 rfl hl (by decide) rfl (fun ls hl => ?_)
  refine lv_aload_n hx hb dX12_nextOf_7 rfl (lv_at hl 1 rfl) ?_
  refine gf_X12_12 C Z.1 tw_5_110 dX12_nextOf_8 ?_
  refine lv_iload_n hx hb dX12_nextOf_11 rfl (lv_at hl 2 rfl) ?_
  obtain ⟨q2, hB⟩ := hB
  refine a_ld C Z.1 aM_6 q2 dX12_nextOf_12 ?_
  refine lv_topi (fun x3_3 ex3_3 => ?_)
  have hB := hB x3_3 ex3_3
  refine lv_istore_n (lv' := [(3, .int x3_3), (2, .int v1), (0, .ref (ad 0)), (1, .int x1)]) hx hb dX12_nextOf_13 rfl hl (by decide) rfl (fun ls hl => ?_)
  refine lv_aload_n hx hb dX12_nextOf_14 rfl (lv_at hl 2 rfl) ?_
  refine lv_iload_n hx hb dX12_nextOf_15 rfl (lv_at hl 3 rfl) ?_
  refine v_X12_isLoose C hl.1 Z.1 tw_7_8 ⟨Nat.le_of_ble_eq_true rfl, Nat.le_of_ble_eq_true rfl⟩ ⟨Nat.le_refl _, Nat.le_refl _⟩ (Nat.le_of_ble_eq_true rfl) dX12_nextOf_16 hB (fun v4 hB => ?_)
  refine lv_if_ne (tgt := 52) hx hb dX12_nextOf_19 (by decide) (fun q5 => ?_) (fun q5 => ?_)
  · have hB := hB.1 q5
    refine lv_aload_n hx hb dX12_nextOf_52 rfl (lv_at hl 2 rfl) ?_
    refine gf_X12_14 C Z.1 tw_5_112 dX12_nextOf_53 ?_
    refine lv_iload_n hx hb dX12_nextOf_56 rfl (lv_at hl 1 rfl) ?_
    refine lv_dup2_11 hx hb dX12_nextOf_57 rfl rfl ?_
    obtain ⟨q6, hB⟩ := hB
    refine a_ld C Z.1 aM_8 q6 dX12_nextOf_58 ?_
    refine lv_iload_n hx hb dX12_nextOf_59 rfl (lv_at hl 0 rfl) ?_
    refine lv_if_ge (tgt := 67) hx hb dX12_nextOf_60 (by decide) (fun q7 => ?_) (fun q7 => ?_)
    · have hB := hB.1 q7
      refine lv_iload_n hx hb dX12_nextOf_67 rfl (lv_at hl 0 rfl) ?_
      exact w_X12_nextOf_68 C hr hlk Z (lv_sub hl [2, 3, 1, 0] rfl) hB
    · have hB := hB.2 q7
      refine lv_iconst (v := 0) hx hb dX12_nextOf_63 (by decide) ?_
      refine lv_goto (tgt := 68) hx hb dX12_nextOf_64 (by decide) ?_
      exact w_X12_nextOf_68 C hr hlk Z (lv_sub hl [2, 3, 1, 0] rfl) hB
  · have hB := hB.2 q5
    refine lv_aload_n hx hb dX12_nextOf_22 rfl (lv_at hl 2 rfl) ?_
    refine gf_X12_12 C Z.1 tw_5_110 dX12_nextOf_23 ?_
    refine lv_iload_n hx hb dX12_nextOf_26 rfl (lv_at hl 3 rfl) ?_
    refine lv_iload_n hx hb dX12_nextOf_27 rfl (lv_at hl 0 rfl) ?_
    refine lv_if_ge (tgt := 40) hx hb dX12_nextOf_28 (by decide) (fun q26 => ?_) (fun q26 => ?_)
    · have hB := hB.1 q26
      refine lv_iconst (v := (-1)) hx hb dX12_nextOf_40 (by decide) ?_
      exact w_X12_nextOf_41 C hr hlk Z (lv_sub hl [0] rfl) hB
    · have hB := hB.2 q26
      refine lv_aload_n hx hb dX12_nextOf_31 rfl (lv_at hl 2 rfl) ?_
      refine gf_X12_13 C Z.1 tw_5_111 dX12_nextOf_32 ?_
      refine lv_iload_n hx hb dX12_nextOf_35 rfl (lv_at hl 3 rfl) ?_
      obtain ⟨q30, hB⟩ := hB
      refine a_ld C Z.1 aM_7 q30 dX12_nextOf_36 ?_
      refine lv_goto (tgt := 41) hx hb dX12_nextOf_37 (by decide) ?_
      exact w_X12_nextOf_41 C hr hlk Z (lv_sub hl [0] rfl) hB
set_option maxRecDepth 100000 in
set_option maxHeartbeats 4000000 in
theorem v_X12_nextOf {M : Mem} {x1 : Int32} {Q1 : Int32 → Mem → Prop} (C : Cx T D p s m args c cc nL own) (hls : ls.size = nL) (Z : Zz EM T D ad 16 A H0 M H locs) (hlink : Cond.methodLink own index yX12_nextOf ∈ TB) (hR : 3 + 1 ≤ R.frames ∧ 8 + (6 + 11) + 48 * 3 ≤ R.locals) (hcs : cells ≤ R.cells ∧ slots ≤ R.slots) (hcat : (rest.map fun v => v.category).sum ≤ 8) (hdg : decode cc pc = .ok (.invokevirtual index, 3)) (hB : P_X12_nextOf M x1 Q1)
    (kk : ∀ (r : Int32) (M1 : Mem) (H1 : Heap) (locs1 : List Loc), Q1 r M1 → Zz EM T D ad 16 A H0 M1 H1 locs1 → W p l e R s m args below meth c H1 locs1 cells slots QQ (F0 m (pc + 3) ls (.int r :: rest))) : W p l e R s m args below meth c H locs cells slots QQ (F0 m pc ls (.int x1 :: .ref (ad 0) :: rest)) :=
  k_VW (ci := 12) (n := 1) (c_X12_nextOf hB) tw_7_19 tw_7_18 tw_s_63 tw_1_12 ⟨rfl, by decide, by decide, by decide +kernel⟩ rfl rfl C hls Z oM hlink hR hcs hcat rfl hdg kk
def B_X12_goThrough_121 (Q1 : Mem → Prop) (x1 : Int32) (x2 : Int32) (x3 : Int32) (M : Mem) : Prop :=
  ∀ X121 : Int32 → Mem → Prop, (∀ (x3 : Int32) (M : Mem), (((x3 < 0 → Q1 M) ∧
    (¬ x3 < 0 → ((¬ x3 = (M 1 0) → P_X12_nextOf M x3 (fun v9 M10 => ((v9 = 0 → ∀ x3_12 : Int32, x3_12 = x3 + (-1) → X121 x3_12 M10) ∧
        (¬ v9 = 0 → ∀ x3_13 : Int32, x3_13 = x3 + 1 → vp_in x3_13 9 ∧ ∀ M14 : Mem, M14 = sf M10 6 x3_13.toNatClampNeg (-1) → X121 x3_13 M14)))) ∧
      (x3 = (M 1 0) → ∀ v16 : Int32, v16 = (M 0 16) + 1 → ∀ M17 : Mem, M17 = sf M 0 16 v16 → ((x1 = 0 → ∀ x3_19 : Int32, x3_19 = x3 + (-1) → X121 x3_19 M17) ∧
        (¬ x1 = 0 → P_X12_looksAt M17 x2 (fun M20 => ∀ x3_21 : Int32, x3_21 = x3 + (-1) → X121 x3_21 M20)))))))) → X121 x3 M) → X121 x3 M
def B_X12_goThrough_29 (Q1 : Mem → Prop) (x1 : Int32) (x2 : Int32) (x3 : Int32) (M : Mem) : Prop :=
  ∀ X29 : Int32 → Mem → Prop, (∀ (x3 : Int32) (M : Mem), ((((M 1 0) ≤ x3 → ∀ M3 : Mem, M3 = sf M 0 16 0 → ∀ M4 : Mem, M4 = sf M3 0 18 (-1) → ∀ M5 : Mem, M5 = sf M4 0 17 0 → ∀ M6 : Mem, M6 = sf M5 6 0 (-1) → B_X12_goThrough_121 Q1 x1 x2 0 M6) ∧
    (¬ (M 1 0) ≤ x3 → P_X12_its M x3 1 (fun v22 => vp_in x3 8 ∧ ∀ M23 : Mem, M23 = sf M 7 x3.toNatClampNeg v22 → P_X12_isLoose M23 x3 (fun v25 => ((v25 = 0 → ∀ x3_27 : Int32, x3_27 = x3 + 1 → X29 x3_27 M23) ∧
      (¬ v25 = 0 → P_X12_its M23 x3 2 (fun v28 => vp_in v28 5 ∧ P_X12_its M23 x3 1 (fun v30 => vp_in v28 5 ∧ ∀ M31 : Mem, M31 = sf M23 8 v28.toNatClampNeg ((M23 8 v28.toNatClampNeg) + v30) → P_X12_its M31 x3 2 (fun v33 => vp_in v33 5 ∧ ∀ M34 : Mem, M34 = sf M31 9 v33.toNatClampNeg x3 → ∀ x3_36 : Int32, x3_36 = x3 + 1 → X29 x3_36 M34)))))))))) → X29 x3 M) → X29 x3 M
def B_X12_goThrough_2 (Q1 : Mem → Prop) (x1 : Int32) (x2 : Int32) (x3 : Int32) (M : Mem) : Prop :=
  ∀ X2 : Int32 → Mem → Prop, (∀ (x3 : Int32) (M : Mem), (((5 ≤ x3 → B_X12_goThrough_29 Q1 x1 x2 0 M) ∧
    (¬ 5 ≤ x3 → vp_in x3 5 ∧ ∀ M37 : Mem, M37 = sf M 8 x3.toNatClampNeg 0 → vp_in x3 5 ∧ ∀ M39 : Mem, M39 = sf M37 9 x3.toNatClampNeg (-1) → ∀ x3_41 : Int32, x3_41 = x3 + 1 → X2 x3_41 M39))) → X2 x3 M) → X2 x3 M
def P_X12_goThrough (M : Mem) (x1 : Int32) (x2 : Int32) (Q1 : Mem → Prop) : Prop :=
  B_X12_goThrough_2 Q1 x1 x2 0 M
set_option maxRecDepth 100000 in
set_option maxHeartbeats 4000000 in
theorem w_X12_goThrough_121 {M : Mem} {Q1 : Mem → Prop} {x1 : Int32} {x2 : Int32} {x3 : Int32} (C : Cx T D p s m args c cX12_goThrough 4 "OneOfTwoModel") (hr : meth.sig.returnType = none) (hlk : meth.locks = false) (Z : Zz EM T D ad 16 A s.heap M H locs) {ls : Array Slot} (hl : lv_has ls 4 [(0, .ref (ad 0)), (1, .int x1), (2, .int x2), (3, .int x3)]) (hB : B_X12_goThrough_121 Q1 x1 x2 x3 M) : W p l e (RM 56) s m args below meth c H locs 0 0 (MQ below (QcV EM T D ad 16 A Q1) args s 0 0 A) (F0 m 121 ls []) := by
  delta B_X12_goThrough_121 at hB
  obtain ⟨X121, hX121, hY121⟩ : ∃ X121 : Int32 → Mem → Prop, (∀ (x3 : Int32) (M : Mem), X121 x3 M → ∀ (H : Heap) (locs : List Loc) (ls : Array Slot), Zz EM T D ad 16 A s.heap M H locs → lv_has ls 4 [(0, .ref (ad 0)), (1, .int x1), (2, .int x2), (3, .int x3)] → W p l e (RM 56) s m args below meth c H locs 0 0 (MQ below (QcV EM T D ad 16 A Q1) args s 0 0 A) (F0 m 121 ls [])) ∧ (∀ (x3 : Int32) (M : Mem), (∀ (H : Heap) (locs : List Loc) (ls : Array Slot), Zz EM T D ad 16 A s.heap M H locs → lv_has ls 4 [(0, .ref (ad 0)), (1, .int x1), (2, .int x2), (3, .int x3)] → W p l e (RM 56) s m args below meth c H locs 0 0 (MQ below (QcV EM T D ad 16 A Q1) args s 0 0 A) (F0 m 121 ls [])) → X121 x3 M) := ⟨fun (x3 : Int32) (M : Mem) => ∀ (H : Heap) (locs : List Loc) (ls : Array Slot), Zz EM T D ad 16 A s.heap M H locs → lv_has ls 4 [(0, .ref (ad 0)), (1, .int x1), (2, .int x2), (3, .int x3)] → W p l e (RM 56) s m args below meth c H locs 0 0 (MQ below (QcV EM T D ad 16 A Q1) args s 0 0 A) (F0 m 121 ls []), fun _ _ h => h, fun _ _ h => h⟩
  refine hX121 _ _ (hB X121 (fun x3 M hB => hY121 _ _ (fun H locs ls Z hl => ?_))) _ _ _ Z hl
  have hx := C.x
  have hb := C.b
  refine lv_iload_n hx hb dX12_goThrough_121 rfl (lv_at hl 3 rfl) ?_
  refine lv_if_lt (tgt := 187) hx hb dX12_goThrough_122 (by decide) (fun q7 => ?_) (fun q7 => ?_)
  · have hB := hB.1 q7
    exact e_vW C hr hlk Z dX12_goThrough_187 hB
  · have hB := hB.2 q7
    refine lv_iload_n hx hb dX12_goThrough_125 rfl (lv_at hl 3 rfl) ?_
    refine lv_aload_n hx hb dX12_goThrough_126 rfl (lv_at hl 0 rfl) ?_
    refine gf_X12_0 C Z.1 tw_5_98 dX12_goThrough_127 ?_
    refine lv_iconst (v := 0) hx hb dX12_goThrough_130 (by decide) ?_
    refine a_ldc C Z.1 aM_1 (vin rfl) (j := 0) rfl dX12_goThrough_131 ?_
    refine lv_icmp_ne (tgt := 160) hx hb dX12_goThrough_132 (by decide) (fun q8 => ?_) (fun q8 => ?_)
    · have hB := hB.1 q8
      refine lv_aload_n hx hb dX12_goThrough_160 rfl (lv_at hl 0 rfl) ?_
      refine lv_iload_n hx hb dX12_goThrough_161 rfl (lv_at hl 3 rfl) ?_
      refine v_X12_nextOf C hl.1 Z tw_7_16 ⟨Nat.le_of_ble_eq_true rfl, Nat.le_of_ble_eq_true rfl⟩ ⟨Nat.le_refl _, Nat.le_refl _⟩ (Nat.le_of_ble_eq_true rfl) dX12_goThrough_162 hB (fun v9 M10 H locs hB Z => ?_)
      refine lv_if_eq (tgt := 181) hx hb dX12_goThrough_165 (by decide) (fun q11 => ?_) (fun q11 => ?_)
      · have hB := hB.1 q11
        obtain ⟨x3_12, ex3_12⟩ : ∃ y : Int32, y = x3 + (-1) := ⟨_, rfl⟩
        have hB := hB x3_12 ex3_12
        refine lv_iinc (v := x3_12) (lv' := [(3, .int x3_12), (0, .ref (ad 0)), (1, .int x1), (2, .int x2)]) hx hb dX12_goThrough_181 hl (k := 3) rfl (by rw [ex3_12]; rfl) (by decide) rfl (fun ls hl => ?_)
        refine lv_goto (tgt := 121) hx hb dX12_goThrough_184 (by decide) ?_
        exact hX121 _ _ hB _ _ _ Z (lv_sub hl [1, 2, 3, 0] rfl)
      · have hB := hB.2 q11
        obtain ⟨x3_13, ex3_13⟩ : ∃ y : Int32, y = x3 + 1 := ⟨_, rfl⟩
        have hB := hB x3_13 ex3_13
        refine lv_iinc (v := x3_13) (lv' := [(3, .int x3_13), (0, .ref (ad 0)), (1, .int x1), (2, .int x2)]) hx hb dX12_goThrough_168 hl (k := 3) rfl (by rw [ex3_13]; rfl) (by decide) rfl (fun ls hl => ?_)
        refine lv_aload_n hx hb dX12_goThrough_171 rfl (lv_at hl 1 rfl) ?_
        refine gf_X12_12 C Z.1 tw_5_110 dX12_goThrough_172 ?_
        refine lv_iload_n hx hb dX12_goThrough_175 rfl (lv_at hl 0 rfl) ?_
        refine lv_iconst (v := (-1)) hx hb dX12_goThrough_176 (by decide) ?_
        obtain ⟨q15, hB⟩ := hB
        refine a_st C Z aM_6 q15 dX12_goThrough_177 (fun M14 H locs eM14 Z => ?_)
        have hB := hB M14 eM14
        refine lv_goto (tgt := 121) hx hb dX12_goThrough_178 (by decide) ?_
        exact hX121 _ _ hB _ _ _ Z (lv_sub hl [1, 2, 3, 0] rfl)
    · have hB := hB.2 q8
      refine lv_aload_n hx hb dX12_goThrough_135 rfl (lv_at hl 0 rfl) ?_
      refine lv_dup hx hb dX12_goThrough_136 rfl ?_
      refine gf_X12_16 C Z.1 tw_5_114 dX12_goThrough_137 ?_
      refine lv_iconst (v := 1) hx hb dX12_goThrough_140 (by decide) ?_
      refine lv_iadd hx hb dX12_goThrough_141 ?_
      refine lv_topi (fun v16 ev16 => ?_)
      have hB := hB v16 ev16
      refine pf_X12_16 C Z tw_5_114 dX12_goThrough_142 (fun M17 H locs eM17 Z => ?_)
      have hB := hB M17 eM17
      refine lv_iload_n hx hb dX12_goThrough_145 rfl (lv_at hl 1 rfl) ?_
      refine lv_if_eq (tgt := 154) hx hb dX12_goThrough_146 (by decide) (fun q18 => ?_) (fun q18 => ?_)
      · have hB := hB.1 q18
        obtain ⟨x3_19, ex3_19⟩ : ∃ y : Int32, y = x3 + (-1) := ⟨_, rfl⟩
        have hB := hB x3_19 ex3_19
        refine lv_iinc (v := x3_19) (lv' := [(3, .int x3_19), (0, .ref (ad 0)), (1, .int x1), (2, .int x2)]) hx hb dX12_goThrough_154 hl (k := 3) rfl (by rw [ex3_19]; rfl) (by decide) rfl (fun ls hl => ?_)
        refine lv_goto (tgt := 121) hx hb dX12_goThrough_157 (by decide) ?_
        exact hX121 _ _ hB _ _ _ Z (lv_sub hl [1, 2, 3, 0] rfl)
      · have hB := hB.2 q18
        refine lv_aload_n hx hb dX12_goThrough_149 rfl (lv_at hl 0 rfl) ?_
        refine lv_iload_n hx hb dX12_goThrough_150 rfl (lv_at hl 2 rfl) ?_
        refine v_X12_looksAt C hl.1 Z tw_7_12 ⟨Nat.le_of_ble_eq_true rfl, Nat.le_of_ble_eq_true rfl⟩ ⟨Nat.le_refl _, Nat.le_refl _⟩ (Nat.le_of_ble_eq_true rfl) dX12_goThrough_151 hB (fun M20 H locs hB Z => ?_)
        obtain ⟨x3_21, ex3_21⟩ : ∃ y : Int32, y = x3 + (-1) := ⟨_, rfl⟩
        have hB := hB x3_21 ex3_21
        refine lv_iinc (v := x3_21) (lv' := [(3, .int x3_21), (0, .ref (ad 0)), (1, .int x1), (2, .int x2)]) hx hb dX12_goThrough_154 hl (k := 3) rfl (by rw [ex3_21]; rfl) (by decide) rfl (fun ls hl => ?_)
        refine lv_goto (tgt := 121) hx hb dX12_goThrough_157 (by decide) ?_
        exact hX121 _ _ hB _ _ _ Z (lv_sub hl [1, 2, 3, 0] rfl)
set_option maxRecDepth 100000 in
set_option maxHeartbeats 4000000 in
theorem w_X12_goThrough_29 {M : Mem} {Q1 : Mem → Prop} {x1 : Int32} {x2 : Int32} {x3 : Int32} (C : Cx T D p s m args c cX12_goThrough 4 "OneOfTwoModel") (hr : meth.sig.returnType = none) (hlk : meth.locks = false) (Z : Zz EM T D ad 16 A s.heap M H locs) {ls : Array Slot} (hl : lv_has ls 4 [(0, .ref (ad 0)), (1, .int x1), (2, .int x2), (3, .int x3)]) (hB : B_X12_goThrough_29 Q1 x1 x2 x3 M) : W p l e (RM 56) s m args below meth c H locs 0 0 (MQ below (QcV EM T D ad 16 A Q1) args s 0 0 A) (F0 m 29 ls []) := by
  delta B_X12_goThrough_29 at hB
  obtain ⟨X29, hX29, hY29⟩ : ∃ X29 : Int32 → Mem → Prop, (∀ (x3 : Int32) (M : Mem), X29 x3 M → ∀ (H : Heap) (locs : List Loc) (ls : Array Slot), Zz EM T D ad 16 A s.heap M H locs → lv_has ls 4 [(0, .ref (ad 0)), (1, .int x1), (2, .int x2), (3, .int x3)] → W p l e (RM 56) s m args below meth c H locs 0 0 (MQ below (QcV EM T D ad 16 A Q1) args s 0 0 A) (F0 m 29 ls [])) ∧ (∀ (x3 : Int32) (M : Mem), (∀ (H : Heap) (locs : List Loc) (ls : Array Slot), Zz EM T D ad 16 A s.heap M H locs → lv_has ls 4 [(0, .ref (ad 0)), (1, .int x1), (2, .int x2), (3, .int x3)] → W p l e (RM 56) s m args below meth c H locs 0 0 (MQ below (QcV EM T D ad 16 A Q1) args s 0 0 A) (F0 m 29 ls [])) → X29 x3 M) := ⟨fun (x3 : Int32) (M : Mem) => ∀ (H : Heap) (locs : List Loc) (ls : Array Slot), Zz EM T D ad 16 A s.heap M H locs → lv_has ls 4 [(0, .ref (ad 0)), (1, .int x1), (2, .int x2), (3, .int x3)] → W p l e (RM 56) s m args below meth c H locs 0 0 (MQ below (QcV EM T D ad 16 A Q1) args s 0 0 A) (F0 m 29 ls []), fun _ _ h => h, fun _ _ h => h⟩
  refine hX29 _ _ (hB X29 (fun x3 M hB => hY29 _ _ (fun H locs ls Z hl => ?_))) _ _ _ Z hl
  have hx := C.x
  have hb := C.b
  refine lv_iload_n hx hb dX12_goThrough_29 rfl (lv_at hl 3 rfl) ?_
  refine lv_aload_n hx hb dX12_goThrough_30 rfl (lv_at hl 0 rfl) ?_
  refine gf_X12_0 C Z.1 tw_5_98 dX12_goThrough_31 ?_
  refine lv_iconst (v := 0) hx hb dX12_goThrough_34 (by decide) ?_
  refine a_ldc C Z.1 aM_1 (vin rfl) (j := 0) rfl dX12_goThrough_35 ?_
  refine lv_icmp_ge (tgt := 97) hx hb dX12_goThrough_36 (by decide) (fun q2 => ?_) (fun q2 => ?_)
  · have hB := hB.1 q2
    refine lv_aload_n hx hb dX12_goThrough_97 rfl (lv_at hl 0 rfl) ?_
    refine lv_iconst (v := 0) hx hb dX12_goThrough_98 (by decide) ?_
    refine pf_X12_16 C Z tw_5_114 dX12_goThrough_99 (fun M3 H locs eM3 Z => ?_)
    have hB := hB M3 eM3
    refine lv_aload_n hx hb dX12_goThrough_102 rfl (lv_at hl 0 rfl) ?_
    refine lv_iconst (v := (-1)) hx hb dX12_goThrough_103 (by decide) ?_
    refine pf_X12_18 C Z tw_5_116 dX12_goThrough_104 (fun M4 H locs eM4 Z => ?_)
    have hB := hB M4 eM4
    refine lv_aload_n hx hb dX12_goThrough_107 rfl (lv_at hl 0 rfl) ?_
    refine lv_iconst (v := 0) hx hb dX12_goThrough_108 (by decide) ?_
    refine pf_X12_17 C Z tw_5_115 dX12_goThrough_109 (fun M5 H locs eM5 Z => ?_)
    have hB := hB M5 eM5
    refine lv_iconst (v := 0) hx hb dX12_goThrough_112 (by decide) ?_
    refine lv_istore_n (lv' := [(3, .int 0), (0, .ref (ad 0)), (1, .int x1), (2, .int x2)]) hx hb dX12_goThrough_113 rfl hl (by decide) rfl (fun ls hl => ?_)
    refine lv_aload_n hx hb dX12_goThrough_114 rfl (lv_at hl 1 rfl) ?_
    refine gf_X12_12 C Z.1 tw_5_110 dX12_goThrough_115 ?_
    refine lv_iconst (v := 0) hx hb dX12_goThrough_118 (by decide) ?_
    refine lv_iconst (v := (-1)) hx hb dX12_goThrough_119 (by decide) ?_
    refine a_stc C Z aM_6 (vin rfl) rfl dX12_goThrough_120 (fun M6 H locs eM6 Z => ?_)
    have hB := hB M6 eM6
    exact w_X12_goThrough_121 C hr hlk Z (lv_sub hl [1, 2, 3, 0] rfl) hB
  · have hB := hB.2 q2
    refine lv_aload_n hx hb dX12_goThrough_39 rfl (lv_at hl 0 rfl) ?_
    refine gf_X12_13 C Z.1 tw_5_111 dX12_goThrough_40 ?_
    refine lv_iload_n hx hb dX12_goThrough_43 rfl (lv_at hl 3 rfl) ?_
    refine lv_aload_n hx hb dX12_goThrough_44 rfl (lv_at hl 0 rfl) ?_
    refine lv_iload_n hx hb dX12_goThrough_45 rfl (lv_at hl 3 rfl) ?_
    refine lv_iconst (v := 1) hx hb dX12_goThrough_46 (by decide) ?_
    refine v_X12_its C hl.1 Z.1 tw_6_39 ⟨Nat.le_of_ble_eq_true rfl, Nat.le_of_ble_eq_true rfl⟩ ⟨Nat.le_refl _, Nat.le_refl _⟩ (Nat.le_of_ble_eq_true rfl) dX12_goThrough_47 hB (fun v22 hB => ?_)
    obtain ⟨q24, hB⟩ := hB
    refine a_st C Z aM_7 q24 dX12_goThrough_50 (fun M23 H locs eM23 Z => ?_)
    have hB := hB M23 eM23
    refine lv_aload_n hx hb dX12_goThrough_51 rfl (lv_at hl 0 rfl) ?_
    refine lv_iload_n hx hb dX12_goThrough_52 rfl (lv_at hl 3 rfl) ?_
    refine v_X12_isLoose C hl.1 Z.1 tw_7_8 ⟨Nat.le_of_ble_eq_true rfl, Nat.le_of_ble_eq_true rfl⟩ ⟨Nat.le_refl _, Nat.le_refl _⟩ (Nat.le_of_ble_eq_true rfl) dX12_goThrough_53 hB (fun v25 hB => ?_)
    refine lv_if_eq (tgt := 91) hx hb dX12_goThrough_56 (by decide) (fun q26 => ?_) (fun q26 => ?_)
    · have hB := hB.1 q26
      obtain ⟨x3_27, ex3_27⟩ : ∃ y : Int32, y = x3 + 1 := ⟨_, rfl⟩
      have hB := hB x3_27 ex3_27
      refine lv_iinc (v := x3_27) (lv' := [(3, .int x3_27), (0, .ref (ad 0)), (1, .int x1), (2, .int x2)]) hx hb dX12_goThrough_91 hl (k := 3) rfl (by rw [ex3_27]; rfl) (by decide) rfl (fun ls hl => ?_)
      refine lv_goto (tgt := 29) hx hb dX12_goThrough_94 (by decide) ?_
      exact hX29 _ _ hB _ _ _ Z (lv_sub hl [1, 2, 3, 0] rfl)
    · have hB := hB.2 q26
      refine lv_aload_n hx hb dX12_goThrough_59 rfl (lv_at hl 0 rfl) ?_
      refine gf_X12_14 C Z.1 tw_5_112 dX12_goThrough_60 ?_
      refine lv_aload_n hx hb dX12_goThrough_63 rfl (lv_at hl 0 rfl) ?_
      refine lv_iload_n hx hb dX12_goThrough_64 rfl (lv_at hl 3 rfl) ?_
      refine lv_iconst (v := 2) hx hb dX12_goThrough_65 (by decide) ?_
      refine v_X12_its C hl.1 Z.1 tw_6_39 ⟨Nat.le_of_ble_eq_true rfl, Nat.le_of_ble_eq_true rfl⟩ ⟨Nat.le_refl _, Nat.le_refl _⟩ (Nat.le_of_ble_eq_true rfl) dX12_goThrough_66 hB (fun v28 hB => ?_)
      refine lv_dup2_11 hx hb dX12_goThrough_69 rfl rfl ?_
      obtain ⟨q29, hB⟩ := hB
      refine a_ld C Z.1 aM_8 q29 dX12_goThrough_70 ?_
      refine lv_aload_n hx hb dX12_goThrough_71 rfl (lv_at hl 0 rfl) ?_
      refine lv_iload_n hx hb dX12_goThrough_72 rfl (lv_at hl 3 rfl) ?_
      refine lv_iconst (v := 1) hx hb dX12_goThrough_73 (by decide) ?_
      refine v_X12_its C hl.1 Z.1 tw_6_39 ⟨Nat.le_of_ble_eq_true rfl, Nat.le_of_ble_eq_true rfl⟩ ⟨Nat.le_refl _, Nat.le_refl _⟩ (Nat.le_of_ble_eq_true rfl) dX12_goThrough_74 hB (fun v30 hB => ?_)
      refine lv_iadd hx hb dX12_goThrough_77 ?_
      obtain ⟨q32, hB⟩ := hB
      refine a_st C Z aM_8 q32 dX12_goThrough_78 (fun M31 H locs eM31 Z => ?_)
      have hB := hB M31 eM31
      refine lv_aload_n hx hb dX12_goThrough_79 rfl (lv_at hl 0 rfl) ?_
      refine gf_X12_15 C Z.1 tw_5_113 dX12_goThrough_80 ?_
      refine lv_aload_n hx hb dX12_goThrough_83 rfl (lv_at hl 0 rfl) ?_
      refine lv_iload_n hx hb dX12_goThrough_84 rfl (lv_at hl 3 rfl) ?_
      refine lv_iconst (v := 2) hx hb dX12_goThrough_85 (by decide) ?_
      refine v_X12_its C hl.1 Z.1 tw_6_39 ⟨Nat.le_of_ble_eq_true rfl, Nat.le_of_ble_eq_true rfl⟩ ⟨Nat.le_refl _, Nat.le_refl _⟩ (Nat.le_of_ble_eq_true rfl) dX12_goThrough_86 hB (fun v33 hB => ?_)
      refine lv_iload_n hx hb dX12_goThrough_89 rfl (lv_at hl 3 rfl) ?_
      obtain ⟨q35, hB⟩ := hB
      refine a_st C Z aM_9 q35 dX12_goThrough_90 (fun M34 H locs eM34 Z => ?_)
      have hB := hB M34 eM34
      obtain ⟨x3_36, ex3_36⟩ : ∃ y : Int32, y = x3 + 1 := ⟨_, rfl⟩
      have hB := hB x3_36 ex3_36
      refine lv_iinc (v := x3_36) (lv' := [(3, .int x3_36), (0, .ref (ad 0)), (1, .int x1), (2, .int x2)]) hx hb dX12_goThrough_91 hl (k := 3) rfl (by rw [ex3_36]; rfl) (by decide) rfl (fun ls hl => ?_)
      refine lv_goto (tgt := 29) hx hb dX12_goThrough_94 (by decide) ?_
      exact hX29 _ _ hB _ _ _ Z (lv_sub hl [1, 2, 3, 0] rfl)
set_option maxRecDepth 100000 in
set_option maxHeartbeats 4000000 in
theorem w_X12_goThrough_2 {M : Mem} {Q1 : Mem → Prop} {x1 : Int32} {x2 : Int32} {x3 : Int32} (C : Cx T D p s m args c cX12_goThrough 4 "OneOfTwoModel") (hr : meth.sig.returnType = none) (hlk : meth.locks = false) (Z : Zz EM T D ad 16 A s.heap M H locs) {ls : Array Slot} (hl : lv_has ls 4 [(0, .ref (ad 0)), (1, .int x1), (2, .int x2), (3, .int x3)]) (hB : B_X12_goThrough_2 Q1 x1 x2 x3 M) : W p l e (RM 56) s m args below meth c H locs 0 0 (MQ below (QcV EM T D ad 16 A Q1) args s 0 0 A) (F0 m 2 ls []) := by
  delta B_X12_goThrough_2 at hB
  obtain ⟨X2, hX2, hY2⟩ : ∃ X2 : Int32 → Mem → Prop, (∀ (x3 : Int32) (M : Mem), X2 x3 M → ∀ (H : Heap) (locs : List Loc) (ls : Array Slot), Zz EM T D ad 16 A s.heap M H locs → lv_has ls 4 [(0, .ref (ad 0)), (1, .int x1), (2, .int x2), (3, .int x3)] → W p l e (RM 56) s m args below meth c H locs 0 0 (MQ below (QcV EM T D ad 16 A Q1) args s 0 0 A) (F0 m 2 ls [])) ∧ (∀ (x3 : Int32) (M : Mem), (∀ (H : Heap) (locs : List Loc) (ls : Array Slot), Zz EM T D ad 16 A s.heap M H locs → lv_has ls 4 [(0, .ref (ad 0)), (1, .int x1), (2, .int x2), (3, .int x3)] → W p l e (RM 56) s m args below meth c H locs 0 0 (MQ below (QcV EM T D ad 16 A Q1) args s 0 0 A) (F0 m 2 ls [])) → X2 x3 M) := ⟨fun (x3 : Int32) (M : Mem) => ∀ (H : Heap) (locs : List Loc) (ls : Array Slot), Zz EM T D ad 16 A s.heap M H locs → lv_has ls 4 [(0, .ref (ad 0)), (1, .int x1), (2, .int x2), (3, .int x3)] → W p l e (RM 56) s m args below meth c H locs 0 0 (MQ below (QcV EM T D ad 16 A Q1) args s 0 0 A) (F0 m 2 ls []), fun _ _ h => h, fun _ _ h => h⟩
  refine hX2 _ _ (hB X2 (fun x3 M hB => hY2 _ _ (fun H locs ls Z hl => ?_))) _ _ _ Z hl
  have hx := C.x
  have hb := C.b
  refine lv_iload_n hx hb dX12_goThrough_2 rfl (lv_at hl 3 rfl) ?_
  refine lv_iconst (v := 5) hx hb dX12_goThrough_3 (by decide) ?_
  refine lv_icmp_ge (tgt := 27) hx hb dX12_goThrough_4 (by decide) (fun q1 => ?_) (fun q1 => ?_)
  · have hB := hB.1 q1
    refine lv_iconst (v := 0) hx hb dX12_goThrough_27 (by decide) ?_
    refine lv_istore_n (lv' := [(3, .int 0), (0, .ref (ad 0)), (1, .int x1), (2, .int x2)]) hx hb dX12_goThrough_28 rfl hl (by decide) rfl (fun ls hl => ?_)
    exact w_X12_goThrough_29 C hr hlk Z (lv_sub hl [1, 2, 3, 0] rfl) hB
  · have hB := hB.2 q1
    refine lv_aload_n hx hb dX12_goThrough_7 rfl (lv_at hl 0 rfl) ?_
    refine gf_X12_14 C Z.1 tw_5_112 dX12_goThrough_8 ?_
    refine lv_iload_n hx hb dX12_goThrough_11 rfl (lv_at hl 3 rfl) ?_
    refine lv_iconst (v := 0) hx hb dX12_goThrough_12 (by decide) ?_
    obtain ⟨q38, hB⟩ := hB
    refine a_st C Z aM_8 q38 dX12_goThrough_13 (fun M37 H locs eM37 Z => ?_)
    have hB := hB M37 eM37
    refine lv_aload_n hx hb dX12_goThrough_14 rfl (lv_at hl 0 rfl) ?_
    refine gf_X12_15 C Z.1 tw_5_113 dX12_goThrough_15 ?_
    refine lv_iload_n hx hb dX12_goThrough_18 rfl (lv_at hl 3 rfl) ?_
    refine lv_iconst (v := (-1)) hx hb dX12_goThrough_19 (by decide) ?_
    obtain ⟨q40, hB⟩ := hB
    refine a_st C Z aM_9 q40 dX12_goThrough_20 (fun M39 H locs eM39 Z => ?_)
    have hB := hB M39 eM39
    obtain ⟨x3_41, ex3_41⟩ : ∃ y : Int32, y = x3 + 1 := ⟨_, rfl⟩
    have hB := hB x3_41 ex3_41
    refine lv_iinc (v := x3_41) (lv' := [(3, .int x3_41), (0, .ref (ad 0)), (1, .int x1), (2, .int x2)]) hx hb dX12_goThrough_21 hl (k := 3) rfl (by rw [ex3_41]; rfl) (by decide) rfl (fun ls hl => ?_)
    refine lv_goto (tgt := 2) hx hb dX12_goThrough_24 (by decide) ?_
    exact hX2 _ _ hB _ _ _ Z (lv_sub hl [1, 2, 3, 0] rfl)
set_option maxRecDepth 100000 in
set_option maxHeartbeats 4000000 in
theorem c_X12_goThrough {l : Launch} {T : Nat → ClassId} {D : va_G} {ad : Nat → Nat} {M : Mem} {x1 : Int32} {x2 : Int32} {sz : Nat} {Q1 : Mem → Prop} (hB : P_X12_goThrough M x1 x2 Q1) : Met l yX12_goThrough (Cond.code yX12_goThrough cX12_goThrough 4 none :: TB) (RM 56) (va_Pc [.ref (ad 0), .int x1, .int x2] (WrP EM T D ad 16 M sz)) (QcV EM T D ad 16 (AA ad 16 sz) Q1) 0 0 (AA ad 16 sz) := by
  refine st_W (by decide) (Nat.le_of_ble_eq_true rfl) (fun p e s m args below meth c ls C hr hlk hsz Z hl => ?_)
  have hl : lv_has ls 4 [(0, .ref (ad 0)), (1, .int x1), (2, .int x2)] := hl
  generalize AA ad 16 sz = A at Z ⊢
  have hx := C.x
  have hb := C.b
  delta P_X12_goThrough at hB
  refine lv_iconst (v := 0) hx hb dX12_goThrough_0 (by decide) ?_
  refine lv_istore_n (lv' := [(3, .int 0), (0, .ref (ad 0)), (1, .int x1), (2, .int x2)]) hx hb dX12_goThrough_1 rfl hl (by decide) rfl (fun ls hl => ?_)
  exact w_X12_goThrough_2 C hr hlk Z (lv_sub hl [1, 2, 3, 0] rfl) hB
set_option maxRecDepth 100000 in
set_option maxHeartbeats 4000000 in
theorem v_X12_goThrough {M : Mem} {x1 : Int32} {x2 : Int32} {Q1 : Mem → Prop} (C : Cx T D p s m args c cc nL own) (hls : ls.size = nL) (Z : Zz EM T D ad 16 A H0 M H locs) (hlink : Cond.methodLink own index yX12_goThrough ∈ TB) (hR : 56 + 1 ≤ R.frames ∧ 8 + (4 + 11) + 48 * 56 ≤ R.locals) (hcs : cells ≤ R.cells ∧ slots ≤ R.slots) (hcat : (rest.map fun v => v.category).sum ≤ 8) (hdg : decode cc pc = .ok (.invokevirtual index, 3)) (hB : P_X12_goThrough M x1 x2 Q1)
    (kk : ∀ (M1 : Mem) (H1 : Heap) (locs1 : List Loc), Q1 M1 → Zz EM T D ad 16 A H0 M1 H1 locs1 → W p l e R s m args below meth c H1 locs1 cells slots QQ (F0 m (pc + 3) ls rest)) : W p l e R s m args below meth c H locs cells slots QQ (F0 m pc ls (.int x2 :: .int x1 :: .ref (ad 0) :: rest)) :=
  k_VV (ci := 12) (n := 2) (c_X12_goThrough hB) tw_7_7 tw_7_6 tw_s_60 tw_1_12 ⟨rfl, by decide, by decide, by decide +kernel⟩ rfl rfl C hls Z oM hlink hR hcs hcat rfl hdg kk
def P_X12_standings (M : Mem) (Q1 : Int32 → Mem → Prop) : Prop :=
  P_X12_goThrough M 0 0 (fun M1 => Q1 (M1 0 16) M1)
set_option maxRecDepth 100000 in
set_option maxHeartbeats 4000000 in
theorem c_X12_standings {l : Launch} {T : Nat → ClassId} {D : va_G} {ad : Nat → Nat} {M : Mem} {sz : Nat} {Q1 : Int32 → Mem → Prop} (hB : P_X12_standings M Q1) : Met l yX12_standings (Cond.code yX12_standings cX12_standings 1 (some .int) :: TB) (RM 57) (va_Pc [.ref (ad 0)] (WrP EM T D ad 16 M sz)) (QcW EM T D ad 16 (AA ad 16 sz) Q1) 0 0 (AA ad 16 sz) := by
  refine st_W (by decide) (Nat.le_of_ble_eq_true rfl) (fun p e s m args below meth c ls C hr hlk hsz Z hl => ?_)
  have hl : lv_has ls 1 [(0, .ref (ad 0))] := hl
  generalize AA ad 16 sz = A at Z ⊢
  have hx := C.x
  have hb := C.b
  delta P_X12_standings at hB
  refine lv_aload_n hx hb dX12_standings_0 rfl (lv_at hl 0 rfl) ?_
  refine lv_iconst (v := 0) hx hb dX12_standings_1 (by decide) ?_
  refine lv_iconst (v := 0) hx hb dX12_standings_2 (by decide) ?_
  refine v_X12_goThrough C hl.1 Z tw_7_4 ⟨Nat.le_of_ble_eq_true rfl, Nat.le_of_ble_eq_true rfl⟩ ⟨Nat.le_refl _, Nat.le_refl _⟩ (Nat.le_of_ble_eq_true rfl) dX12_standings_3 hB (fun M1 H locs hB Z => ?_)
  refine lv_aload_n hx hb dX12_standings_6 rfl (lv_at hl 0 rfl) ?_
  refine gf_X12_16 C Z.1 tw_5_114 dX12_standings_7 ?_
  exact e_iW C hr hlk Z dX12_standings_10 hB
set_option maxRecDepth 100000 in
set_option maxHeartbeats 4000000 in
theorem v_X12_standings {M : Mem} {Q1 : Int32 → Mem → Prop} (C : Cx T D p s m args c cc nL own) (hls : ls.size = nL) (Z : Zz EM T D ad 16 A H0 M H locs) (hlink : Cond.methodLink own index yX12_standings ∈ TB) (hR : 57 + 1 ≤ R.frames ∧ 8 + (1 + 11) + 48 * 57 ≤ R.locals) (hcs : cells ≤ R.cells ∧ slots ≤ R.slots) (hcat : (rest.map fun v => v.category).sum ≤ 8) (hdg : decode cc pc = .ok (.invokevirtual index, 3)) (hB : P_X12_standings M Q1)
    (kk : ∀ (r : Int32) (M1 : Mem) (H1 : Heap) (locs1 : List Loc), Q1 r M1 → Zz EM T D ad 16 A H0 M1 H1 locs1 → W p l e R s m args below meth c H1 locs1 cells slots QQ (F0 m (pc + 3) ls (.int r :: rest))) : W p l e R s m args below meth c H locs cells slots QQ (F0 m pc ls (.ref (ad 0) :: rest)) :=
  k_VW (ci := 12) (n := 0) (c_X12_standings hB) tw_7_3 tw_7_1 tw_7_2 tw_1_12 ⟨rfl, by decide, by decide, by decide +kernel⟩ rfl rfl C hls Z oM hlink hR hcs hcat rfl hdg kk
def B_X12_fewest_19 (Q1 : Int32 → Mem → Prop) (x1 : Int32) (M : Mem) : Prop :=
  P_X12_goThrough M 1 1 (fun M2 => ((0 ≤ (M2 0 18) → ((0 ≤ x1 → vp_in x1 8 ∧ Q1 (M2 10 x1.toNatClampNeg) M2) ∧
      (¬ 0 ≤ x1 → Q1 (M2 0 18) M2))) ∧
    (¬ 0 ≤ (M2 0 18) → P_X12_finds M2 2 (fun v6 M7 => Q1 v6 M7))))
def P_X12_fewest (M : Mem) (x1 : Int32) (Q1 : Int32 → Mem → Prop) : Prop :=
  ((x1 = (-1) → B_X12_fewest_19 Q1 x1 M) ∧
    (¬ x1 = (-1) → P_X12_isWindow M x1 (fun v8 => ((¬ v8 = 0 → B_X12_fewest_19 Q1 x1 M) ∧
      (v8 = 0 → P_X12_finds M 1 (fun v10 M11 => Q1 v10 M11))))))
set_option maxRecDepth 100000 in
set_option maxHeartbeats 4000000 in
theorem w_X12_fewest_19 {M : Mem} {Q1 : Int32 → Mem → Prop} {x1 : Int32} (C : Cx T D p s m args c cX12_fewest 2 "OneOfTwoModel") (hr : meth.sig.returnType = (some .int)) (hlk : meth.locks = false) (Z : Zz EM T D ad 16 A s.heap M H locs) {ls : Array Slot} (hl : lv_has ls 2 [(0, .ref (ad 0)), (1, .int x1)]) (hB : B_X12_fewest_19 Q1 x1 M) : W p l e (RM 57) s m args below meth c H locs 0 0 (MQ below (QcW EM T D ad 16 A Q1) args s 0 0 A) (F0 m 19 ls []) := by
  have hx := C.x
  have hb := C.b
  delta B_X12_fewest_19 at hB
  refine lv_aload_n hx hb dX12_fewest_19 rfl (lv_at hl 0 rfl) ?_
  refine lv_iconst (v := 1) hx hb dX12_fewest_20 (by decide) ?_
  refine lv_iconst (v := 1) hx hb dX12_fewest_21 (by decide) ?_
  refine v_X12_goThrough C hl.1 Z tw_7_4 ⟨Nat.le_of_ble_eq_true rfl, Nat.le_of_ble_eq_true rfl⟩ ⟨Nat.le_refl _, Nat.le_refl _⟩ (Nat.le_of_ble_eq_true rfl) dX12_fewest_22 hB (fun M2 H locs hB Z => ?_)
  refine lv_aload_n hx hb dX12_fewest_25 rfl (lv_at hl 0 rfl) ?_
  refine gf_X12_18 C Z.1 tw_5_116 dX12_fewest_26 ?_
  refine lv_if_ge (tgt := 38) hx hb dX12_fewest_29 (by decide) (fun q3 => ?_) (fun q3 => ?_)
  · have hB := hB.1 q3
    refine lv_iload_n hx hb dX12_fewest_38 rfl (lv_at hl 1 rfl) ?_
    refine lv_if_ge (tgt := 49) hx hb dX12_fewest_39 (by decide) (fun q4 => ?_) (fun q4 => ?_)
    · have hB := hB.1 q4
      refine lv_aload_n hx hb dX12_fewest_49 rfl (lv_at hl 0 rfl) ?_
      refine gf_X12_19 C Z.1 tw_5_117 dX12_fewest_50 ?_
      refine lv_iload_n hx hb dX12_fewest_53 rfl (lv_at hl 1 rfl) ?_
      obtain ⟨q5, hB⟩ := hB
      refine a_ld C Z.1 aM_10 q5 dX12_fewest_54 ?_
      exact e_iW C hr hlk Z dX12_fewest_55 hB
    · have hB := hB.2 q4
      refine lv_aload_n hx hb dX12_fewest_42 rfl (lv_at hl 0 rfl) ?_
      refine gf_X12_18 C Z.1 tw_5_116 dX12_fewest_43 ?_
      refine lv_goto (tgt := 55) hx hb dX12_fewest_46 (by decide) ?_
      exact e_iW C hr hlk Z dX12_fewest_55 hB
  · have hB := hB.2 q3
    refine lv_aload_n hx hb dX12_fewest_32 rfl (lv_at hl 0 rfl) ?_
    refine lv_iconst (v := 2) hx hb dX12_fewest_33 (by decide) ?_
    refine v_X12_finds C hl.1 Z tw_5_194 ⟨Nat.le_of_ble_eq_true rfl, Nat.le_of_ble_eq_true rfl⟩ ⟨Nat.le_refl _, Nat.le_refl _⟩ (Nat.le_of_ble_eq_true rfl) dX12_fewest_34 hB (fun v6 M7 H locs hB Z => ?_)
    exact e_iW C hr hlk Z dX12_fewest_37 hB
set_option maxRecDepth 100000 in
set_option maxHeartbeats 4000000 in
theorem c_X12_fewest {l : Launch} {T : Nat → ClassId} {D : va_G} {ad : Nat → Nat} {M : Mem} {x1 : Int32} {sz : Nat} {Q1 : Int32 → Mem → Prop} (hB : P_X12_fewest M x1 Q1) : Met l yX12_fewest (Cond.code yX12_fewest cX12_fewest 2 (some .int) :: TB) (RM 57) (va_Pc [.ref (ad 0), .int x1] (WrP EM T D ad 16 M sz)) (QcW EM T D ad 16 (AA ad 16 sz) Q1) 0 0 (AA ad 16 sz) := by
  refine st_W (by decide) (Nat.le_of_ble_eq_true rfl) (fun p e s m args below meth c ls C hr hlk hsz Z hl => ?_)
  have hl : lv_has ls 2 [(0, .ref (ad 0)), (1, .int x1)] := hl
  generalize AA ad 16 sz = A at Z ⊢
  have hx := C.x
  have hb := C.b
  delta P_X12_fewest at hB
  refine lv_iload_n hx hb dX12_fewest_0 rfl (lv_at hl 1 rfl) ?_
  refine lv_iconst (v := (-1)) hx hb dX12_fewest_1 (by decide) ?_
  refine lv_icmp_eq (tgt := 19) hx hb dX12_fewest_2 (by decide) (fun q1 => ?_) (fun q1 => ?_)
  · have hB := hB.1 q1
    exact w_X12_fewest_19 C hr hlk Z (lv_sub hl [0, 1] rfl) hB
  · have hB := hB.2 q1
    refine lv_aload_n hx hb dX12_fewest_5 rfl (lv_at hl 0 rfl) ?_
    refine lv_iload_n hx hb dX12_fewest_6 rfl (lv_at hl 1 rfl) ?_
    refine v_X12_isWindow C hl.1 Z.1 tw_6_51 ⟨Nat.le_of_ble_eq_true rfl, Nat.le_of_ble_eq_true rfl⟩ ⟨Nat.le_refl _, Nat.le_refl _⟩ (Nat.le_of_ble_eq_true rfl) dX12_fewest_7 hB (fun v8 hB => ?_)
    refine lv_if_ne (tgt := 19) hx hb dX12_fewest_10 (by decide) (fun q9 => ?_) (fun q9 => ?_)
    · have hB := hB.1 q9
      exact w_X12_fewest_19 C hr hlk Z (lv_sub hl [0, 1] rfl) hB
    · have hB := hB.2 q9
      refine lv_aload_n hx hb dX12_fewest_13 rfl (lv_at hl 0 rfl) ?_
      refine lv_iconst (v := 1) hx hb dX12_fewest_14 (by decide) ?_
      refine v_X12_finds C hl.1 Z tw_5_194 ⟨Nat.le_of_ble_eq_true rfl, Nat.le_of_ble_eq_true rfl⟩ ⟨Nat.le_refl _, Nat.le_refl _⟩ (Nat.le_of_ble_eq_true rfl) dX12_fewest_15 hB (fun v10 M11 H locs hB Z => ?_)
      exact e_iW C hr hlk Z dX12_fewest_18 hB
set_option maxRecDepth 100000 in
set_option maxHeartbeats 4000000 in
theorem v_X12_fewest {M : Mem} {x1 : Int32} {Q1 : Int32 → Mem → Prop} (C : Cx T D p s m args c cc nL own) (hls : ls.size = nL) (Z : Zz EM T D ad 16 A H0 M H locs) (hlink : Cond.methodLink own index yX12_fewest ∈ TB) (hR : 57 + 1 ≤ R.frames ∧ 8 + (2 + 11) + 48 * 57 ≤ R.locals) (hcs : cells ≤ R.cells ∧ slots ≤ R.slots) (hcat : (rest.map fun v => v.category).sum ≤ 8) (hdg : decode cc pc = .ok (.invokevirtual index, 3)) (hB : P_X12_fewest M x1 Q1)
    (kk : ∀ (r : Int32) (M1 : Mem) (H1 : Heap) (locs1 : List Loc), Q1 r M1 → Zz EM T D ad 16 A H0 M1 H1 locs1 → W p l e R s m args below meth c H1 locs1 cells slots QQ (F0 m (pc + 3) ls (.int r :: rest))) : W p l e R s m args below meth c H locs cells slots QQ (F0 m pc ls (.int x1 :: .ref (ad 0) :: rest)) :=
  k_VW (ci := 12) (n := 1) (c_X12_fewest hB) tw_7_23 tw_7_21 tw_7_22 tw_1_12 ⟨rfl, by decide, by decide, by decide +kernel⟩ rfl rfl C hls Z oM hlink hR hcs hcat rfl hdg kk
def B_X12_most_25 (Q1 : Int32 → Mem → Prop) (x1 : Int32) (M : Mem) : Prop :=
  P_X12_goThrough M 1 0 (fun M2 => ((¬ x1 = (-2) → ((¬ x1 = (-1) → vp_in x1 8 ∧ Q1 (M2 10 x1.toNatClampNeg) M2) ∧
      (x1 = (-1) → Q1 (M2 0 18) M2))) ∧
    (x1 = (-2) → Q1 (M2 0 17) M2)))
def P_X12_most (M : Mem) (x1 : Int32) (Q1 : Int32 → Mem → Prop) : Prop :=
  ((x1 = (-2) → B_X12_most_25 Q1 x1 M) ∧
    (¬ x1 = (-2) → ((x1 = (-1) → B_X12_most_25 Q1 x1 M) ∧
      (¬ x1 = (-1) → P_X12_isWindow M x1 (fun v7 => ((¬ v7 = 0 → B_X12_most_25 Q1 x1 M) ∧
        (v7 = 0 → P_X12_finds M 1 (fun v9 M10 => Q1 v9 M10))))))))
set_option maxRecDepth 100000 in
set_option maxHeartbeats 4000000 in
theorem w_X12_most_25 {M : Mem} {Q1 : Int32 → Mem → Prop} {x1 : Int32} (C : Cx T D p s m args c cX12_most 2 "OneOfTwoModel") (hr : meth.sig.returnType = (some .int)) (hlk : meth.locks = false) (Z : Zz EM T D ad 16 A s.heap M H locs) {ls : Array Slot} (hl : lv_has ls 2 [(0, .ref (ad 0)), (1, .int x1)]) (hB : B_X12_most_25 Q1 x1 M) : W p l e (RM 57) s m args below meth c H locs 0 0 (MQ below (QcW EM T D ad 16 A Q1) args s 0 0 A) (F0 m 25 ls []) := by
  have hx := C.x
  have hb := C.b
  delta B_X12_most_25 at hB
  refine lv_aload_n hx hb dX12_most_25 rfl (lv_at hl 0 rfl) ?_
  refine lv_iconst (v := 1) hx hb dX12_most_26 (by decide) ?_
  refine lv_iconst (v := 0) hx hb dX12_most_27 (by decide) ?_
  refine v_X12_goThrough C hl.1 Z tw_7_4 ⟨Nat.le_of_ble_eq_true rfl, Nat.le_of_ble_eq_true rfl⟩ ⟨Nat.le_refl _, Nat.le_refl _⟩ (Nat.le_of_ble_eq_true rfl) dX12_most_28 hB (fun M2 H locs hB Z => ?_)
  refine lv_iload_n hx hb dX12_most_31 rfl (lv_at hl 1 rfl) ?_
  refine lv_bipush (v := (-2)) hx hb dX12_most_32 (by decide) ?_
  refine lv_icmp_ne (tgt := 44) hx hb dX12_most_34 (by decide) (fun q3 => ?_) (fun q3 => ?_)
  · have hB := hB.1 q3
    refine lv_iload_n hx hb dX12_most_44 rfl (lv_at hl 1 rfl) ?_
    refine lv_iconst (v := (-1)) hx hb dX12_most_45 (by decide) ?_
    refine lv_icmp_ne (tgt := 56) hx hb dX12_most_46 (by decide) (fun q4 => ?_) (fun q4 => ?_)
    · have hB := hB.1 q4
      refine lv_aload_n hx hb dX12_most_56 rfl (lv_at hl 0 rfl) ?_
      refine gf_X12_19 C Z.1 tw_5_117 dX12_most_57 ?_
      refine lv_iload_n hx hb dX12_most_60 rfl (lv_at hl 1 rfl) ?_
      obtain ⟨q5, hB⟩ := hB
      refine a_ld C Z.1 aM_10 q5 dX12_most_61 ?_
      exact e_iW C hr hlk Z dX12_most_62 hB
    · have hB := hB.2 q4
      refine lv_aload_n hx hb dX12_most_49 rfl (lv_at hl 0 rfl) ?_
      refine gf_X12_18 C Z.1 tw_5_116 dX12_most_50 ?_
      refine lv_goto (tgt := 62) hx hb dX12_most_53 (by decide) ?_
      exact e_iW C hr hlk Z dX12_most_62 hB
  · have hB := hB.2 q3
    refine lv_aload_n hx hb dX12_most_37 rfl (lv_at hl 0 rfl) ?_
    refine gf_X12_17 C Z.1 tw_5_115 dX12_most_38 ?_
    refine lv_goto (tgt := 62) hx hb dX12_most_41 (by decide) ?_
    exact e_iW C hr hlk Z dX12_most_62 hB
set_option maxRecDepth 100000 in
set_option maxHeartbeats 4000000 in
theorem c_X12_most {l : Launch} {T : Nat → ClassId} {D : va_G} {ad : Nat → Nat} {M : Mem} {x1 : Int32} {sz : Nat} {Q1 : Int32 → Mem → Prop} (hB : P_X12_most M x1 Q1) : Met l yX12_most (Cond.code yX12_most cX12_most 2 (some .int) :: TB) (RM 57) (va_Pc [.ref (ad 0), .int x1] (WrP EM T D ad 16 M sz)) (QcW EM T D ad 16 (AA ad 16 sz) Q1) 0 0 (AA ad 16 sz) := by
  refine st_W (by decide) (Nat.le_of_ble_eq_true rfl) (fun p e s m args below meth c ls C hr hlk hsz Z hl => ?_)
  have hl : lv_has ls 2 [(0, .ref (ad 0)), (1, .int x1)] := hl
  generalize AA ad 16 sz = A at Z ⊢
  have hx := C.x
  have hb := C.b
  delta P_X12_most at hB
  refine lv_iload_n hx hb dX12_most_0 rfl (lv_at hl 1 rfl) ?_
  refine lv_bipush (v := (-2)) hx hb dX12_most_1 (by decide) ?_
  refine lv_icmp_eq (tgt := 25) hx hb dX12_most_3 (by decide) (fun q1 => ?_) (fun q1 => ?_)
  · have hB := hB.1 q1
    exact w_X12_most_25 C hr hlk Z (lv_sub hl [0, 1] rfl) hB
  · have hB := hB.2 q1
    refine lv_iload_n hx hb dX12_most_6 rfl (lv_at hl 1 rfl) ?_
    refine lv_iconst (v := (-1)) hx hb dX12_most_7 (by decide) ?_
    refine lv_icmp_eq (tgt := 25) hx hb dX12_most_8 (by decide) (fun q6 => ?_) (fun q6 => ?_)
    · have hB := hB.1 q6
      exact w_X12_most_25 C hr hlk Z (lv_sub hl [0, 1] rfl) hB
    · have hB := hB.2 q6
      refine lv_aload_n hx hb dX12_most_11 rfl (lv_at hl 0 rfl) ?_
      refine lv_iload_n hx hb dX12_most_12 rfl (lv_at hl 1 rfl) ?_
      refine v_X12_isWindow C hl.1 Z.1 tw_6_51 ⟨Nat.le_of_ble_eq_true rfl, Nat.le_of_ble_eq_true rfl⟩ ⟨Nat.le_refl _, Nat.le_refl _⟩ (Nat.le_of_ble_eq_true rfl) dX12_most_13 hB (fun v7 hB => ?_)
      refine lv_if_ne (tgt := 25) hx hb dX12_most_16 (by decide) (fun q8 => ?_) (fun q8 => ?_)
      · have hB := hB.1 q8
        exact w_X12_most_25 C hr hlk Z (lv_sub hl [0, 1] rfl) hB
      · have hB := hB.2 q8
        refine lv_aload_n hx hb dX12_most_19 rfl (lv_at hl 0 rfl) ?_
        refine lv_iconst (v := 1) hx hb dX12_most_20 (by decide) ?_
        refine v_X12_finds C hl.1 Z tw_5_194 ⟨Nat.le_of_ble_eq_true rfl, Nat.le_of_ble_eq_true rfl⟩ ⟨Nat.le_refl _, Nat.le_refl _⟩ (Nat.le_of_ble_eq_true rfl) dX12_most_21 hB (fun v9 M10 H locs hB Z => ?_)
        exact e_iW C hr hlk Z dX12_most_24 hB
set_option maxRecDepth 100000 in
set_option maxHeartbeats 4000000 in
theorem v_X12_most {M : Mem} {x1 : Int32} {Q1 : Int32 → Mem → Prop} (C : Cx T D p s m args c cc nL own) (hls : ls.size = nL) (Z : Zz EM T D ad 16 A H0 M H locs) (hlink : Cond.methodLink own index yX12_most ∈ TB) (hR : 57 + 1 ≤ R.frames ∧ 8 + (2 + 11) + 48 * 57 ≤ R.locals) (hcs : cells ≤ R.cells ∧ slots ≤ R.slots) (hcat : (rest.map fun v => v.category).sum ≤ 8) (hdg : decode cc pc = .ok (.invokevirtual index, 3)) (hB : P_X12_most M x1 Q1)
    (kk : ∀ (r : Int32) (M1 : Mem) (H1 : Heap) (locs1 : List Loc), Q1 r M1 → Zz EM T D ad 16 A H0 M1 H1 locs1 → W p l e R s m args below meth c H1 locs1 cells slots QQ (F0 m (pc + 3) ls (.int r :: rest))) : W p l e R s m args below meth c H locs cells slots QQ (F0 m pc ls (.int x1 :: .ref (ad 0) :: rest)) :=
  k_VW (ci := 12) (n := 1) (c_X12_most hB) tw_7_27 tw_7_25 tw_7_26 tw_1_12 ⟨rfl, by decide, by decide, by decide +kernel⟩ rfl rfl C hls Z oM hlink hR hcs hcat rfl hdg kk
def B_X12_findHelps_102 (Q1 : Mem → Prop) (X16 : Int32 → Mem → Prop) (X30 : Int32 → Mem → Prop) (x1 : Int32) (x2 : Int32) (x4 : Int32) (s1 : Int32) (M : Mem) : Prop :=
  ∀ M20 : Mem, M20 = sf M 0 20 s1 → ((x4 ≤ (M20 0 21) → ∀ v22 : Int32, v22 = M20 0 21 → ∀ M23 : Mem, M23 = sf M20 0 21 v22 → ∀ x2_24 : Int32, x2_24 = x2 + 1 → X30 x2_24 M23) ∧
    (¬ x4 ≤ (M20 0 21) → ∀ M25 : Mem, M25 = sf M20 0 21 x4 → ∀ x2_26 : Int32, x2_26 = x2 + 1 → X30 x2_26 M25))
def B_X12_findHelps_30 (Q1 : Mem → Prop) (X16 : Int32 → Mem → Prop) (x1 : Int32) (x2 : Int32) (M : Mem) : Prop :=
  ∀ X30 : Int32 → Mem → Prop, (∀ (x2 : Int32) (M : Mem), ((((M 1 0) ≤ x2 → ∀ x1_7 : Int32, x1_7 = x1 + 1 → X16 x1_7 M) ∧
    (¬ (M 1 0) ≤ x2 → P_X12_its M x1 2 (fun v8 => P_X12_its M x2 2 (fun v9 => ((v8 = v9 → ∀ x2_11 : Int32, x2_11 = x2 + 1 → X30 x2_11 M) ∧
      (¬ v8 = v9 → P_X12_swaps M x1 x2 (fun M12 => P_X12_turnOfAll M12 (fun v13 M14 => P_X12_allContent M14 (fun v15 M16 => P_X12_ones v15 (fun v17 => P_X12_putBack M16 (fun M18 => ((v17 ≤ (M18 0 21) → B_X12_findHelps_102 Q1 X16 X30 x1 x2 v17 (M18 0 20) M18) ∧
        (¬ v17 ≤ (M18 0 21) → B_X12_findHelps_102 Q1 X16 X30 x1 x2 v17 ((10 * x1) + x2) M18)))))))))))))) → X30 x2 M) → X30 x2 M
def B_X12_findHelps_16 (Q1 : Mem → Prop) (x1 : Int32) (M : Mem) : Prop :=
  ∀ X16 : Int32 → Mem → Prop, (∀ (x1 : Int32) (M : Mem), ((((M 1 0) ≤ x1 → Q1 M) ∧
    (¬ (M 1 0) ≤ x1 → ∀ x2_5 : Int32, x2_5 = x1 + 1 → B_X12_findHelps_30 Q1 X16 x1 x2_5 M))) → X16 x1 M) → X16 x1 M
def P_X12_findHelps (M : Mem) (Q1 : Mem → Prop) : Prop :=
  ∀ M1 : Mem, M1 = sf M 0 20 (-1) → ∀ M2 : Mem, M2 = sf M1 0 21 (-1) → P_X12_keepAside M2 (fun M3 => B_X12_findHelps_16 Q1 0 M3)
set_option maxRecDepth 100000 in
set_option maxHeartbeats 4000000 in
theorem w_X12_findHelps_102 {M : Mem} {Q1 : Mem → Prop} {X16 : Int32 → Mem → Prop} {X30 : Int32 → Mem → Prop} {x1 : Int32} {x2 : Int32} {x4 : Int32} {s1 : Int32} (C : Cx T D p s m args c cX12_findHelps 5 "OneOfTwoModel") (hr : meth.sig.returnType = none) (hlk : meth.locks = false) (Z : Zz EM T D ad 16 A s.heap M H locs) (hX16 : ∀ (x1 : Int32) (M : Mem), X16 x1 M → ∀ (H : Heap) (locs : List Loc) (ls : Array Slot), Zz EM T D ad 16 A s.heap M H locs → lv_has ls 5 [(0, .ref (ad 0)), (1, .int x1)] → W p l e (RM 57) s m args below meth c H locs 0 0 (MQ below (QcV EM T D ad 16 A Q1) args s 0 0 A) (F0 m 16 ls [])) (hX30 : ∀ (x2 : Int32) (M : Mem), X30 x2 M → ∀ (H : Heap) (locs : List Loc) (ls : Array Slot), Zz EM T D ad 16 A s.heap M H locs → lv_has ls 5 [(0, .ref (ad 0)), (1, .int x1), (2, .int x2)] → W p l e (RM 57) s m args below meth c H locs 0 0 (MQ below (QcV EM T D ad 16 A Q1) args s 0 0 A) (F0 m 30 ls [])) {ls : Array Slot} (hl : lv_has ls 5 [(0, .ref (ad 0)), (1, .int x1), (2, .int x2), (4, .int x4)]) (hB : B_X12_findHelps_102 Q1 X16 X30 x1 x2 x4 s1 M) : W p l e (RM 57) s m args below meth c H locs 0 0 (MQ below (QcV EM T D ad 16 A Q1) args s 0 0 A) (F0 m 102 ls [.int s1, .ref (ad 0)]) := by
  have hx := C.x
  have hb := C.b
  delta B_X12_findHelps_102 at hB
  refine pf_X12_20 C Z tw_5_118 dX12_findHelps_102 (fun M20 H locs eM20 Z => ?_)
  have hB := hB M20 eM20
  refine lv_aload_n hx hb dX12_findHelps_105 rfl (lv_at hl 0 rfl) ?_
  refine lv_iload hx hb dX12_findHelps_106 (lv_at hl 3 rfl) ?_
  refine lv_aload_n hx hb dX12_findHelps_108 rfl (lv_at hl 0 rfl) ?_
  refine gf_X12_21 C Z.1 tw_5_119 dX12_findHelps_109 ?_
  refine lv_icmp_le (tgt := 120) hx hb dX12_findHelps_112 (by decide) (fun q21 => ?_) (fun q21 => ?_)
  · have hB := hB.1 q21
    refine lv_aload_n hx hb dX12_findHelps_120 rfl (lv_at hl 0 rfl) ?_
    refine gf_X12_21 C Z.1 tw_5_119 dX12_findHelps_121 ?_
    refine lv_topi (fun v22 ev22 => ?_)
    have hB := hB v22 ev22
    refine pf_X12_21 C Z tw_5_119 dX12_findHelps_124 (fun M23 H locs eM23 Z => ?_)
    have hB := hB M23 eM23
    obtain ⟨x2_24, ex2_24⟩ : ∃ y : Int32, y = x2 + 1 := ⟨_, rfl⟩
    have hB := hB x2_24 ex2_24
    refine lv_iinc (v := x2_24) (lv' := [(2, .int x2_24), (0, .ref (ad 0)), (1, .int x1), (4, .int x4)]) hx hb dX12_findHelps_127 hl (k := 2) rfl (by rw [ex2_24]; rfl) (by decide) rfl (fun ls hl => ?_)
    refine lv_goto (tgt := 30) hx hb dX12_findHelps_130 (by decide) ?_
    exact hX30 _ _ hB _ _ _ Z (lv_sub hl [1, 2, 0] rfl)
  · have hB := hB.2 q21
    refine lv_iload hx hb dX12_findHelps_115 (lv_at hl 3 rfl) ?_
    refine lv_goto (tgt := 124) hx hb dX12_findHelps_117 (by decide) ?_
    refine pf_X12_21 C Z tw_5_119 dX12_findHelps_124 (fun M25 H locs eM25 Z => ?_)
    have hB := hB M25 eM25
    obtain ⟨x2_26, ex2_26⟩ : ∃ y : Int32, y = x2 + 1 := ⟨_, rfl⟩
    have hB := hB x2_26 ex2_26
    refine lv_iinc (v := x2_26) (lv' := [(2, .int x2_26), (0, .ref (ad 0)), (1, .int x1), (4, .int x4)]) hx hb dX12_findHelps_127 hl (k := 2) rfl (by rw [ex2_26]; rfl) (by decide) rfl (fun ls hl => ?_)
    refine lv_goto (tgt := 30) hx hb dX12_findHelps_130 (by decide) ?_
    exact hX30 _ _ hB _ _ _ Z (lv_sub hl [1, 2, 0] rfl)
set_option maxRecDepth 100000 in
set_option maxHeartbeats 4000000 in
theorem w_X12_findHelps_30 {M : Mem} {Q1 : Mem → Prop} {X16 : Int32 → Mem → Prop} {x1 : Int32} {x2 : Int32} (C : Cx T D p s m args c cX12_findHelps 5 "OneOfTwoModel") (hr : meth.sig.returnType = none) (hlk : meth.locks = false) (Z : Zz EM T D ad 16 A s.heap M H locs) (hX16 : ∀ (x1 : Int32) (M : Mem), X16 x1 M → ∀ (H : Heap) (locs : List Loc) (ls : Array Slot), Zz EM T D ad 16 A s.heap M H locs → lv_has ls 5 [(0, .ref (ad 0)), (1, .int x1)] → W p l e (RM 57) s m args below meth c H locs 0 0 (MQ below (QcV EM T D ad 16 A Q1) args s 0 0 A) (F0 m 16 ls [])) {ls : Array Slot} (hl : lv_has ls 5 [(0, .ref (ad 0)), (1, .int x1), (2, .int x2)]) (hB : B_X12_findHelps_30 Q1 X16 x1 x2 M) : W p l e (RM 57) s m args below meth c H locs 0 0 (MQ below (QcV EM T D ad 16 A Q1) args s 0 0 A) (F0 m 30 ls []) := by
  delta B_X12_findHelps_30 at hB
  obtain ⟨X30, hX30, hY30⟩ : ∃ X30 : Int32 → Mem → Prop, (∀ (x2 : Int32) (M : Mem), X30 x2 M → ∀ (H : Heap) (locs : List Loc) (ls : Array Slot), Zz EM T D ad 16 A s.heap M H locs → lv_has ls 5 [(0, .ref (ad 0)), (1, .int x1), (2, .int x2)] → W p l e (RM 57) s m args below meth c H locs 0 0 (MQ below (QcV EM T D ad 16 A Q1) args s 0 0 A) (F0 m 30 ls [])) ∧ (∀ (x2 : Int32) (M : Mem), (∀ (H : Heap) (locs : List Loc) (ls : Array Slot), Zz EM T D ad 16 A s.heap M H locs → lv_has ls 5 [(0, .ref (ad 0)), (1, .int x1), (2, .int x2)] → W p l e (RM 57) s m args below meth c H locs 0 0 (MQ below (QcV EM T D ad 16 A Q1) args s 0 0 A) (F0 m 30 ls [])) → X30 x2 M) := ⟨fun (x2 : Int32) (M : Mem) => ∀ (H : Heap) (locs : List Loc) (ls : Array Slot), Zz EM T D ad 16 A s.heap M H locs → lv_has ls 5 [(0, .ref (ad 0)), (1, .int x1), (2, .int x2)] → W p l e (RM 57) s m args below meth c H locs 0 0 (MQ below (QcV EM T D ad 16 A Q1) args s 0 0 A) (F0 m 30 ls []), fun _ _ h => h, fun _ _ h => h⟩
  refine hX30 _ _ (hB X30 (fun x2 M hB => hY30 _ _ (fun H locs ls Z hl => ?_))) _ _ _ Z hl
  have hx := C.x
  have hb := C.b
  refine lv_iload_n hx hb dX12_findHelps_30 rfl (lv_at hl 2 rfl) ?_
  refine lv_aload_n hx hb dX12_findHelps_31 rfl (lv_at hl 0 rfl) ?_
  refine gf_X12_0 C Z.1 tw_5_98 dX12_findHelps_32 ?_
  refine lv_iconst (v := 0) hx hb dX12_findHelps_35 (by decide) ?_
  refine a_ldc C Z.1 aM_1 (vin rfl) (j := 0) rfl dX12_findHelps_36 ?_
  refine lv_icmp_ge (tgt := 133) hx hb dX12_findHelps_37 (by decide) (fun q6 => ?_) (fun q6 => ?_)
  · have hB := hB.1 q6
    obtain ⟨x1_7, ex1_7⟩ : ∃ y : Int32, y = x1 + 1 := ⟨_, rfl⟩
    have hB := hB x1_7 ex1_7
    refine lv_iinc (v := x1_7) (lv' := [(1, .int x1_7), (0, .ref (ad 0)), (2, .int x2)]) hx hb dX12_findHelps_133 hl (k := 1) rfl (by rw [ex1_7]; rfl) (by decide) rfl (fun ls hl => ?_)
    refine lv_goto (tgt := 16) hx hb dX12_findHelps_136 (by decide) ?_
    exact hX16 _ _ hB _ _ _ Z (lv_sub hl [1, 0] rfl)
  · have hB := hB.2 q6
    refine lv_aload_n hx hb dX12_findHelps_40 rfl (lv_at hl 0 rfl) ?_
    refine lv_iload_n hx hb dX12_findHelps_41 rfl (lv_at hl 1 rfl) ?_
    refine lv_iconst (v := 2) hx hb dX12_findHelps_42 (by decide) ?_
    refine v_X12_its C hl.1 Z.1 tw_6_39 ⟨Nat.le_of_ble_eq_true rfl, Nat.le_of_ble_eq_true rfl⟩ ⟨Nat.le_refl _, Nat.le_refl _⟩ (Nat.le_of_ble_eq_true rfl) dX12_findHelps_43 hB (fun v8 hB => ?_)
    refine lv_aload_n hx hb dX12_findHelps_46 rfl (lv_at hl 0 rfl) ?_
    refine lv_iload_n hx hb dX12_findHelps_47 rfl (lv_at hl 2 rfl) ?_
    refine lv_iconst (v := 2) hx hb dX12_findHelps_48 (by decide) ?_
    refine v_X12_its C hl.1 Z.1 tw_6_39 ⟨Nat.le_of_ble_eq_true rfl, Nat.le_of_ble_eq_true rfl⟩ ⟨Nat.le_refl _, Nat.le_refl _⟩ (Nat.le_of_ble_eq_true rfl) dX12_findHelps_49 hB (fun v9 hB => ?_)
    refine lv_icmp_eq (tgt := 127) hx hb dX12_findHelps_52 (by decide) (fun q10 => ?_) (fun q10 => ?_)
    · have hB := hB.1 q10
      obtain ⟨x2_11, ex2_11⟩ : ∃ y : Int32, y = x2 + 1 := ⟨_, rfl⟩
      have hB := hB x2_11 ex2_11
      refine lv_iinc (v := x2_11) (lv' := [(2, .int x2_11), (0, .ref (ad 0)), (1, .int x1)]) hx hb dX12_findHelps_127 hl (k := 2) rfl (by rw [ex2_11]; rfl) (by decide) rfl (fun ls hl => ?_)
      refine lv_goto (tgt := 30) hx hb dX12_findHelps_130 (by decide) ?_
      exact hX30 _ _ hB _ _ _ Z (lv_sub hl [1, 2, 0] rfl)
    · have hB := hB.2 q10
      refine lv_aload_n hx hb dX12_findHelps_55 rfl (lv_at hl 0 rfl) ?_
      refine lv_iload_n hx hb dX12_findHelps_56 rfl (lv_at hl 1 rfl) ?_
      refine lv_iload_n hx hb dX12_findHelps_57 rfl (lv_at hl 2 rfl) ?_
      refine v_X12_swaps C hl.1 Z tw_6_95 ⟨Nat.le_of_ble_eq_true rfl, Nat.le_of_ble_eq_true rfl⟩ ⟨Nat.le_refl _, Nat.le_refl _⟩ (Nat.le_of_ble_eq_true rfl) dX12_findHelps_58 hB (fun M12 H locs hB Z => ?_)
      refine lv_aload_n hx hb dX12_findHelps_61 rfl (lv_at hl 0 rfl) ?_
      refine v_X12_turnOfAll C hl.1 Z tw_6_197 ⟨Nat.le_of_ble_eq_true rfl, Nat.le_of_ble_eq_true rfl⟩ ⟨Nat.le_refl _, Nat.le_refl _⟩ (Nat.le_of_ble_eq_true rfl) dX12_findHelps_62 hB (fun v13 M14 H locs hB Z => ?_)
      refine lv_istore_n (lv' := [(3, .int v13), (0, .ref (ad 0)), (1, .int x1), (2, .int x2)]) hx hb dX12_findHelps_65 rfl hl (by decide) rfl (fun ls hl => ?_)
      refine lv_aload_n hx hb dX12_findHelps_66 rfl (lv_at hl 1 rfl) ?_
      refine v_X12_allContent C hl.1 Z tw_6_168 ⟨Nat.le_of_ble_eq_true rfl, Nat.le_of_ble_eq_true rfl⟩ ⟨Nat.le_refl _, Nat.le_refl _⟩ (Nat.le_of_ble_eq_true rfl) dX12_findHelps_67 hB (fun v15 M16 H locs hB Z => ?_)
      refine v_X12_ones C.1 hl.1 tw_6_34 ⟨Nat.le_of_ble_eq_true rfl, Nat.le_of_ble_eq_true rfl⟩ ⟨Nat.le_refl _, Nat.le_refl _⟩ (Nat.le_of_ble_eq_true rfl) dX12_findHelps_70 hB (fun v17 hB => ?_)
      refine lv_istore (lv' := [(4, .int v17), (3, .int v13), (0, .ref (ad 0)), (1, .int x1), (2, .int x2)]) hx hb dX12_findHelps_73 hl (by decide) rfl (fun ls hl => ?_)
      refine lv_aload_n hx hb dX12_findHelps_75 rfl (lv_at hl 2 rfl) ?_
      refine v_X12_putBack C hl.1 Z tw_6_232 ⟨Nat.le_of_ble_eq_true rfl, Nat.le_of_ble_eq_true rfl⟩ ⟨Nat.le_refl _, Nat.le_refl _⟩ (Nat.le_of_ble_eq_true rfl) dX12_findHelps_76 hB (fun M18 H locs hB Z => ?_)
      refine lv_aload_n hx hb dX12_findHelps_79 rfl (lv_at hl 2 rfl) ?_
      refine lv_iload hx hb dX12_findHelps_80 (lv_at hl 0 rfl) ?_
      refine lv_aload_n hx hb dX12_findHelps_82 rfl (lv_at hl 2 rfl) ?_
      refine gf_X12_21 C Z.1 tw_5_119 dX12_findHelps_83 ?_
      refine lv_icmp_le (tgt := 98) hx hb dX12_findHelps_86 (by decide) (fun q19 => ?_) (fun q19 => ?_)
      · have hB := hB.1 q19
        refine lv_aload_n hx hb dX12_findHelps_98 rfl (lv_at hl 2 rfl) ?_
        refine gf_X12_20 C Z.1 tw_5_118 dX12_findHelps_99 ?_
        exact w_X12_findHelps_102 C hr hlk Z hX16 hX30 (lv_sub hl [2, 3, 4, 0] rfl) hB
      · have hB := hB.2 q19
        refine lv_bipush (v := 10) hx hb dX12_findHelps_89 (by decide) ?_
        refine lv_iload_n hx hb dX12_findHelps_91 rfl (lv_at hl 3 rfl) ?_
        refine lv_imul hx hb dX12_findHelps_92 ?_
        refine lv_iload_n hx hb dX12_findHelps_93 rfl (lv_at hl 4 rfl) ?_
        refine lv_iadd hx hb dX12_findHelps_94 ?_
        refine lv_goto (tgt := 102) hx hb dX12_findHelps_95 (by decide) ?_
        exact w_X12_findHelps_102 C hr hlk Z hX16 hX30 (lv_sub hl [2, 3, 4, 0] rfl) hB
set_option maxRecDepth 100000 in
set_option maxHeartbeats 4000000 in
theorem w_X12_findHelps_16 {M : Mem} {Q1 : Mem → Prop} {x1 : Int32} (C : Cx T D p s m args c cX12_findHelps 5 "OneOfTwoModel") (hr : meth.sig.returnType = none) (hlk : meth.locks = false) (Z : Zz EM T D ad 16 A s.heap M H locs) {ls : Array Slot} (hl : lv_has ls 5 [(0, .ref (ad 0)), (1, .int x1)]) (hB : B_X12_findHelps_16 Q1 x1 M) : W p l e (RM 57) s m args below meth c H locs 0 0 (MQ below (QcV EM T D ad 16 A Q1) args s 0 0 A) (F0 m 16 ls []) := by
  delta B_X12_findHelps_16 at hB
  obtain ⟨X16, hX16, hY16⟩ : ∃ X16 : Int32 → Mem → Prop, (∀ (x1 : Int32) (M : Mem), X16 x1 M → ∀ (H : Heap) (locs : List Loc) (ls : Array Slot), Zz EM T D ad 16 A s.heap M H locs → lv_has ls 5 [(0, .ref (ad 0)), (1, .int x1)] → W p l e (RM 57) s m args below meth c H locs 0 0 (MQ below (QcV EM T D ad 16 A Q1) args s 0 0 A) (F0 m 16 ls [])) ∧ (∀ (x1 : Int32) (M : Mem), (∀ (H : Heap) (locs : List Loc) (ls : Array Slot), Zz EM T D ad 16 A s.heap M H locs → lv_has ls 5 [(0, .ref (ad 0)), (1, .int x1)] → W p l e (RM 57) s m args below meth c H locs 0 0 (MQ below (QcV EM T D ad 16 A Q1) args s 0 0 A) (F0 m 16 ls [])) → X16 x1 M) := ⟨fun (x1 : Int32) (M : Mem) => ∀ (H : Heap) (locs : List Loc) (ls : Array Slot), Zz EM T D ad 16 A s.heap M H locs → lv_has ls 5 [(0, .ref (ad 0)), (1, .int x1)] → W p l e (RM 57) s m args below meth c H locs 0 0 (MQ below (QcV EM T D ad 16 A Q1) args s 0 0 A) (F0 m 16 ls []), fun _ _ h => h, fun _ _ h => h⟩
  refine hX16 _ _ (hB X16 (fun x1 M hB => hY16 _ _ (fun H locs ls Z hl => ?_))) _ _ _ Z hl
  have hx := C.x
  have hb := C.b
  refine lv_iload_n hx hb dX12_findHelps_16 rfl (lv_at hl 1 rfl) ?_
  refine lv_aload_n hx hb dX12_findHelps_17 rfl (lv_at hl 0 rfl) ?_
  refine gf_X12_0 C Z.1 tw_5_98 dX12_findHelps_18 ?_
  refine lv_iconst (v := 0) hx hb dX12_findHelps_21 (by decide) ?_
  refine a_ldc C Z.1 aM_1 (vin rfl) (j := 0) rfl dX12_findHelps_22 ?_
  refine lv_icmp_ge (tgt := 139) hx hb dX12_findHelps_23 (by decide) (fun q4 => ?_) (fun q4 => ?_)
  · have hB := hB.1 q4
    exact e_vW C hr hlk Z dX12_findHelps_139 hB
  · have hB := hB.2 q4
    refine lv_iload_n hx hb dX12_findHelps_26 rfl (lv_at hl 1 rfl) ?_
    refine lv_iconst (v := 1) hx hb dX12_findHelps_27 (by decide) ?_
    refine lv_iadd hx hb dX12_findHelps_28 ?_
    refine lv_topi (fun x2_5 ex2_5 => ?_)
    have hB := hB x2_5 ex2_5
    refine lv_istore_n (lv' := [(2, .int x2_5), (0, .ref (ad 0)), (1, .int x1)]) hx hb dX12_findHelps_29 rfl hl (by decide) rfl (fun ls hl => ?_)
    exact w_X12_findHelps_30 C hr hlk Z hX16 (lv_sub hl [1, 2, 0] rfl) hB
set_option maxRecDepth 100000 in
set_option maxHeartbeats 4000000 in
theorem c_X12_findHelps {l : Launch} {T : Nat → ClassId} {D : va_G} {ad : Nat → Nat} {M : Mem} {sz : Nat} {Q1 : Mem → Prop} (hB : P_X12_findHelps M Q1) : Met l yX12_findHelps (Cond.code yX12_findHelps cX12_findHelps 5 none :: TB) (RM 57) (va_Pc [.ref (ad 0)] (WrP EM T D ad 16 M sz)) (QcV EM T D ad 16 (AA ad 16 sz) Q1) 0 0 (AA ad 16 sz) := by
  refine st_W (by decide) (Nat.le_of_ble_eq_true rfl) (fun p e s m args below meth c ls C hr hlk hsz Z hl => ?_)
  have hl : lv_has ls 5 [(0, .ref (ad 0))] := hl
  generalize AA ad 16 sz = A at Z ⊢
  have hx := C.x
  have hb := C.b
  delta P_X12_findHelps at hB
  refine lv_aload_n hx hb dX12_findHelps_0 rfl (lv_at hl 0 rfl) ?_
  refine lv_iconst (v := (-1)) hx hb dX12_findHelps_1 (by decide) ?_
  refine pf_X12_20 C Z tw_5_118 dX12_findHelps_2 (fun M1 H locs eM1 Z => ?_)
  have hB := hB M1 eM1
  refine lv_aload_n hx hb dX12_findHelps_5 rfl (lv_at hl 0 rfl) ?_
  refine lv_iconst (v := (-1)) hx hb dX12_findHelps_6 (by decide) ?_
  refine pf_X12_21 C Z tw_5_119 dX12_findHelps_7 (fun M2 H locs eM2 Z => ?_)
  have hB := hB M2 eM2
  refine lv_aload_n hx hb dX12_findHelps_10 rfl (lv_at hl 0 rfl) ?_
  refine v_X12_keepAside C hl.1 Z tw_6_228 ⟨Nat.le_of_ble_eq_true rfl, Nat.le_of_ble_eq_true rfl⟩ ⟨Nat.le_refl _, Nat.le_refl _⟩ (Nat.le_of_ble_eq_true rfl) dX12_findHelps_11 hB (fun M3 H locs hB Z => ?_)
  refine lv_iconst (v := 0) hx hb dX12_findHelps_14 (by decide) ?_
  refine lv_istore_n (lv' := [(1, .int 0), (0, .ref (ad 0))]) hx hb dX12_findHelps_15 rfl hl (by decide) rfl (fun ls hl => ?_)
  exact w_X12_findHelps_16 C hr hlk Z (lv_sub hl [1, 0] rfl) hB
set_option maxRecDepth 100000 in
set_option maxHeartbeats 4000000 in
theorem v_X12_findHelps {M : Mem} {Q1 : Mem → Prop} (C : Cx T D p s m args c cc nL own) (hls : ls.size = nL) (Z : Zz EM T D ad 16 A H0 M H locs) (hlink : Cond.methodLink own index yX12_findHelps ∈ TB) (hR : 57 + 1 ≤ R.frames ∧ 8 + (5 + 11) + 48 * 57 ≤ R.locals) (hcs : cells ≤ R.cells ∧ slots ≤ R.slots) (hcat : (rest.map fun v => v.category).sum ≤ 8) (hdg : decode cc pc = .ok (.invokevirtual index, 3)) (hB : P_X12_findHelps M Q1)
    (kk : ∀ (M1 : Mem) (H1 : Heap) (locs1 : List Loc), Q1 M1 → Zz EM T D ad 16 A H0 M1 H1 locs1 → W p l e R s m args below meth c H1 locs1 cells slots QQ (F0 m (pc + 3) ls rest)) : W p l e R s m args below meth c H locs cells slots QQ (F0 m pc ls (.ref (ad 0) :: rest)) :=
  k_VV (ci := 12) (n := 0) (c_X12_findHelps hB) tw_7_35 tw_7_34 tw_s_64 tw_1_12 ⟨rfl, by decide, by decide, by decide +kernel⟩ rfl rfl C hls Z oM hlink hR hcs hcat rfl hdg kk
def P_X12_helps (M : Mem) (x1 : Int32) (Q1 : Int32 → Mem → Prop) : Prop :=
  P_X12_in (x1.toInt64) 0 1 (fun v1 => ((¬ v1 = 0 → P_X12_findHelps M (fun M3 => ((0 ≤ (M3 0 20) → ((¬ x1 = 0 → Q1 (M3 0 21) M3) ∧
        (x1 = 0 → Q1 (M3 0 20) M3))) ∧
      (¬ 0 ≤ (M3 0 20) → P_X12_finds M3 2 (fun v6 M7 => Q1 v6 M7))))) ∧
    (v1 = 0 → P_X12_finds M 1 (fun v8 M9 => Q1 v8 M9))))
set_option maxRecDepth 100000 in
set_option maxHeartbeats 4000000 in
theorem c_X12_helps {l : Launch} {T : Nat → ClassId} {D : va_G} {ad : Nat → Nat} {M : Mem} {x1 : Int32} {sz : Nat} {Q1 : Int32 → Mem → Prop} (hB : P_X12_helps M x1 Q1) : Met l yX12_helps (Cond.code yX12_helps cX12_helps 2 (some .int) :: TB) (RM 58) (va_Pc [.ref (ad 0), .int x1] (WrP EM T D ad 16 M sz)) (QcW EM T D ad 16 (AA ad 16 sz) Q1) 0 0 (AA ad 16 sz) := by
  refine st_W (by decide) (Nat.le_of_ble_eq_true rfl) (fun p e s m args below meth c ls C hr hlk hsz Z hl => ?_)
  have hl : lv_has ls 2 [(0, .ref (ad 0)), (1, .int x1)] := hl
  generalize AA ad 16 sz = A at Z ⊢
  have hx := C.x
  have hb := C.b
  delta P_X12_helps at hB
  refine lv_iload_n hx hb dX12_helps_0 rfl (lv_at hl 1 rfl) ?_
  refine lv_i2l hx hb dX12_helps_1 rfl ?_
  refine lv_lconst (v := 0) hx hb dX12_helps_2 (by decide) ?_
  refine lv_lconst (v := 1) hx hb dX12_helps_3 (by decide) ?_
  refine v_X12_in C.1 hl.1 tw_5_191 ⟨Nat.le_of_ble_eq_true rfl, Nat.le_of_ble_eq_true rfl⟩ ⟨Nat.le_refl _, Nat.le_refl _⟩ (Nat.le_of_ble_eq_true rfl) dX12_helps_4 hB (fun v1 hB => ?_)
  refine lv_if_ne (tgt := 16) hx hb dX12_helps_7 (by decide) (fun q2 => ?_) (fun q2 => ?_)
  · have hB := hB.1 q2
    refine lv_aload_n hx hb dX12_helps_16 rfl (lv_at hl 0 rfl) ?_
    refine v_X12_findHelps C hl.1 Z tw_7_32 ⟨Nat.le_of_ble_eq_true rfl, Nat.le_of_ble_eq_true rfl⟩ ⟨Nat.le_refl _, Nat.le_refl _⟩ (Nat.le_of_ble_eq_true rfl) dX12_helps_17 hB (fun M3 H locs hB Z => ?_)
    refine lv_aload_n hx hb dX12_helps_20 rfl (lv_at hl 0 rfl) ?_
    refine gf_X12_20 C Z.1 tw_5_118 dX12_helps_21 ?_
    refine lv_if_ge (tgt := 35) hx hb dX12_helps_24 (by decide) (fun q4 => ?_) (fun q4 => ?_)
    · have hB := hB.1 q4
      refine lv_iload_n hx hb dX12_helps_35 rfl (lv_at hl 1 rfl) ?_
      refine lv_if_ne (tgt := 46) hx hb dX12_helps_36 (by decide) (fun q5 => ?_) (fun q5 => ?_)
      · have hB := hB.1 q5
        refine lv_aload_n hx hb dX12_helps_46 rfl (lv_at hl 0 rfl) ?_
        refine gf_X12_21 C Z.1 tw_5_119 dX12_helps_47 ?_
        exact e_iW C hr hlk Z dX12_helps_50 hB
      · have hB := hB.2 q5
        refine lv_aload_n hx hb dX12_helps_39 rfl (lv_at hl 0 rfl) ?_
        refine gf_X12_20 C Z.1 tw_5_118 dX12_helps_40 ?_
        refine lv_goto (tgt := 50) hx hb dX12_helps_43 (by decide) ?_
        exact e_iW C hr hlk Z dX12_helps_50 hB
    · have hB := hB.2 q4
      refine lv_aload_n hx hb dX12_helps_27 rfl (lv_at hl 0 rfl) ?_
      refine lv_iconst (v := 2) hx hb dX12_helps_28 (by decide) ?_
      refine v_X12_finds C hl.1 Z tw_5_194 ⟨Nat.le_of_ble_eq_true rfl, Nat.le_of_ble_eq_true rfl⟩ ⟨Nat.le_refl _, Nat.le_refl _⟩ (Nat.le_of_ble_eq_true rfl) dX12_helps_29 hB (fun v6 M7 H locs hB Z => ?_)
      refine lv_goto (tgt := 50) hx hb dX12_helps_32 (by decide) ?_
      exact e_iW C hr hlk Z dX12_helps_50 hB
  · have hB := hB.2 q2
    refine lv_aload_n hx hb dX12_helps_10 rfl (lv_at hl 0 rfl) ?_
    refine lv_iconst (v := 1) hx hb dX12_helps_11 (by decide) ?_
    refine v_X12_finds C hl.1 Z tw_5_194 ⟨Nat.le_of_ble_eq_true rfl, Nat.le_of_ble_eq_true rfl⟩ ⟨Nat.le_refl _, Nat.le_refl _⟩ (Nat.le_of_ble_eq_true rfl) dX12_helps_12 hB (fun v8 M9 H locs hB Z => ?_)
    exact e_iW C hr hlk Z dX12_helps_15 hB
set_option maxRecDepth 100000 in
set_option maxHeartbeats 4000000 in
theorem v_X12_helps {M : Mem} {x1 : Int32} {Q1 : Int32 → Mem → Prop} (C : Cx T D p s m args c cc nL own) (hls : ls.size = nL) (Z : Zz EM T D ad 16 A H0 M H locs) (hlink : Cond.methodLink own index yX12_helps ∈ TB) (hR : 58 + 1 ≤ R.frames ∧ 8 + (2 + 11) + 48 * 58 ≤ R.locals) (hcs : cells ≤ R.cells ∧ slots ≤ R.slots) (hcat : (rest.map fun v => v.category).sum ≤ 8) (hdg : decode cc pc = .ok (.invokevirtual index, 3)) (hB : P_X12_helps M x1 Q1)
    (kk : ∀ (r : Int32) (M1 : Mem) (H1 : Heap) (locs1 : List Loc), Q1 r M1 → Zz EM T D ad 16 A H0 M1 H1 locs1 → W p l e R s m args below meth c H1 locs1 cells slots QQ (F0 m (pc + 3) ls (.int r :: rest))) : W p l e R s m args below meth c H locs cells slots QQ (F0 m pc ls (.int x1 :: .ref (ad 0) :: rest)) :=
  k_VW (ci := 12) (n := 1) (c_X12_helps hB) tw_7_31 tw_7_29 tw_7_30 tw_1_12 ⟨rfl, by decide, by decide, by decide +kernel⟩ rfl rfl C hls Z oM hlink hR hcs hcat rfl hdg kk
def P_X12_isSheet (x0 : Int32) (Q1 : Int32 → Prop) : Prop :=
  P_X12_in (x0.toInt64) 0 3 (fun v1 => (v1 = 0 ∨ v1 = 1) ∧ Q1 v1)
set_option maxRecDepth 100000 in
set_option maxHeartbeats 4000000 in
theorem c_X12_isSheet {l : Launch} {x0 : Int32} {Q1 : Int32 → Prop} (hB : P_X12_isSheet x0 Q1) : Met l yX12_isSheet (Cond.code yX12_isSheet cX12_isSheet 1 (some .boolean) :: TB) (RM 2) (va_Pc [.int x0] StP) (QcR Q1) 0 0 (fun _ => False) := by
  refine st_S (by decide) (Nat.le_of_ble_eq_true rfl) (fun p e s m args below meth c ls C hr hlk hl => ?_)
  have hl : lv_has ls 1 [(0, .int x0)] := hl
  have hx := C.1
  have hb := C.2.1
  delta P_X12_isSheet at hB
  refine lv_iload_n hx hb dX12_isSheet_0 rfl (lv_at hl 0 rfl) ?_
  refine lv_i2l hx hb dX12_isSheet_1 rfl ?_
  refine lv_lconst (v := 0) hx hb dX12_isSheet_2 (by decide) ?_
  refine lv_ldc2 hx hb C.2.2.2.1 (C.2.2.2.2 _ tw_6_38) dX12_isSheet_3 ?_
  refine v_X12_in C hl.1 tw_5_191 ⟨Nat.le_of_ble_eq_true rfl, Nat.le_of_ble_eq_true rfl⟩ ⟨Nat.le_refl _, Nat.le_refl _⟩ (Nat.le_of_ble_eq_true rfl) dX12_isSheet_6 hB (fun v1 hB => ?_)
  exact e_zR C hr hlk dX12_isSheet_9 hB.1 hB.2
set_option maxRecDepth 100000 in
set_option maxHeartbeats 4000000 in
theorem v_X12_isSheet {x0 : Int32} {Q1 : Int32 → Prop} (C : CallFix p m c cc nL s args TB own) (hls : ls.size = nL) (hlink : Cond.methodLink own index yX12_isSheet ∈ TB) (hR : 2 + 1 ≤ R.frames ∧ 8 + (1 + 11) + 48 * 2 ≤ R.locals) (hcs : cells ≤ R.cells ∧ slots ≤ R.slots) (hcat : (rest.map fun v => v.category).sum ≤ 8) (hdg : decode cc pc = .ok (.invokestatic index, 3)) (hB : P_X12_isSheet x0 Q1)
    (kk : ∀ r : Int32, Q1 r → W p l e R s m args below meth c H locs cells slots QQ (F0 m (pc + 3) ls (.int r :: rest))) : W p l e R s m args below meth c H locs cells slots QQ (F0 m pc ls (.int x0 :: rest)) :=
  k_S (n := 1) (c_X12_isSheet hB) tw_7_42 tw_7_41 tw_1_12 ⟨by decide, by decide, by decide +kernel⟩ rfl C hls  hlink hR hcs hcat rfl hdg kk
def B_X12_who_147 (Q1 : Int32 → Mem → Prop) (X51 : Int32 → Int32 → Mem → Prop) (x1 : Int32) (x3 : Int32) (s0 : Int32) (s1 : Int32) (M : Mem) : Prop :=
  ∀ x2_17 : Int32, x2_17 = s0 ||| s1 → ∀ x3_18 : Int32, x3_18 = x3 + 1 → X51 x2_17 x3_18 M
def B_X12_who_122 (Q1 : Int32 → Mem → Prop) (X51 : Int32 → Int32 → Mem → Prop) (X79 : Int32 → Int32 → Mem → Prop) (x1 : Int32) (x2 : Int32) (x3 : Int32) (x5 : Int32) (s0 : Int32) (M : Mem) : Prop :=
  ∀ x5_20 : Int32, x5_20 = x5 + 1 → X79 s0 x5_20 M
def B_X12_who_79 (Q1 : Int32 → Mem → Prop) (X51 : Int32 → Int32 → Mem → Prop) (x1 : Int32) (x2 : Int32) (x3 : Int32) (x4 : Int32) (x5 : Int32) (M : Mem) : Prop :=
  ∀ X79 : Int32 → Int32 → Mem → Prop, (∀ (x4 : Int32) (x5 : Int32) (M : Mem), ((((M 1 0) ≤ x5 → P_X12_putBack M (fun M15 => ((x4 = 0 → B_X12_who_147 Q1 X51 x1 x3 x2 0 M15) ∧
      (¬ x4 = 0 → B_X12_who_147 Q1 X51 x1 x3 x2 (1 <<< (x3 &&& 31)) M15)))) ∧
    (¬ (M 1 0) ≤ x5 → ((x4 = 0 → B_X12_who_122 Q1 X51 X79 x1 x2 x3 x5 0 M) ∧
      (¬ x4 = 0 → P_X12_its M x5 1 (fun v21 => vp_in ((40 * x1) + x5) 160 ∧ ((¬ v21 = (M 14 ((40 * x1) + x5).toNatClampNeg) → B_X12_who_122 Q1 X51 X79 x1 x2 x3 x5 0 M) ∧
        (v21 = (M 14 ((40 * x1) + x5).toNatClampNeg) → B_X12_who_122 Q1 X51 X79 x1 x2 x3 x5 1 M)))))))) → X79 x4 x5 M) → X79 x4 x5 M
def B_X12_who_74 (Q1 : Int32 → Mem → Prop) (X51 : Int32 → Int32 → Mem → Prop) (x1 : Int32) (x2 : Int32) (x3 : Int32) (s0 : Int32) (M : Mem) : Prop :=
  B_X12_who_79 Q1 X51 x1 x2 x3 s0 0 M
def B_X12_who_51 (Q1 : Int32 → Mem → Prop) (x1 : Int32) (x2 : Int32) (x3 : Int32) (M : Mem) : Prop :=
  ∀ X51 : Int32 → Int32 → Mem → Prop, (∀ (x2 : Int32) (x3 : Int32) (M : Mem), ((((M 1 2) ≤ x3 → Q1 x2 M) ∧
    (¬ (M 1 2) ≤ x3 → P_X12_turnOf M x3 (fun v11 M12 => ((v11 ≤ 0 → B_X12_who_74 Q1 X51 x1 x2 x3 0 M12) ∧
      (¬ v11 ≤ 0 → B_X12_who_74 Q1 X51 x1 x2 x3 1 M12)))))) → X51 x2 x3 M) → X51 x2 x3 M
def P_X12_who (M : Mem) (x1 : Int32) (Q1 : Int32 → Mem → Prop) : Prop :=
  P_X12_isSheet x1 (fun v1 => ((¬ v1 = 0 → vp_in x1 4 ∧ (((M 12 x1.toNatClampNeg) = 0 → P_X12_finds M 2 (fun v5 M6 => Q1 v5 M6)) ∧
      (¬ (M 12 x1.toNatClampNeg) = 0 → vp_in x1 4 ∧ (((M 13 x1.toNatClampNeg) = (M 1 0) → P_X12_keepAside M (fun M9 => B_X12_who_51 Q1 x1 0 0 M9)) ∧
        (¬ (M 13 x1.toNatClampNeg) = (M 1 0) → P_X12_finds M 2 (fun v24 M25 => Q1 v24 M25)))))) ∧
    (v1 = 0 → P_X12_finds M 1 (fun v26 M27 => Q1 v26 M27))))
set_option maxRecDepth 100000 in
set_option maxHeartbeats 4000000 in
theorem w_X12_who_147 {M : Mem} {Q1 : Int32 → Mem → Prop} {X51 : Int32 → Int32 → Mem → Prop} {x1 : Int32} {x3 : Int32} {s0 : Int32} {s1 : Int32} (C : Cx T D p s m args c cX12_who 6 "OneOfTwoModel") (hr : meth.sig.returnType = (some .int)) (hlk : meth.locks = false) (Z : Zz EM T D ad 16 A s.heap M H locs) (hX51 : ∀ (x2 : Int32) (x3 : Int32) (M : Mem), X51 x2 x3 M → ∀ (H : Heap) (locs : List Loc) (ls : Array Slot), Zz EM T D ad 16 A s.heap M H locs → lv_has ls 6 [(0, .ref (ad 0)), (1, .int x1), (2, .int x2), (3, .int x3)] → W p l e (RM 56) s m args below meth c H locs 0 0 (MQ below (QcW EM T D ad 16 A Q1) args s 0 0 A) (F0 m 51 ls [])) {ls : Array Slot} (hl : lv_has ls 6 [(0, .ref (ad 0)), (1, .int x1), (3, .int x3)]) (hB : B_X12_who_147 Q1 X51 x1 x3 s0 s1 M) : W p l e (RM 56) s m args below meth c H locs 0 0 (MQ below (QcW EM T D ad 16 A Q1) args s 0 0 A) (F0 m 147 ls [.int s1, .int s0]) := by
  have hx := C.x
  have hb := C.b
  delta B_X12_who_147 at hB
  refine lv_ior hx hb dX12_who_147 ?_
  refine lv_topi (fun x2_17 ex2_17 => ?_)
  have hB := hB x2_17 ex2_17
  refine lv_istore_n (lv' := [(2, .int x2_17), (0, .ref (ad 0)), (1, .int x1), (3, .int x3)]) hx hb dX12_who_148 rfl hl (by decide) rfl (fun ls hl => ?_)
  obtain ⟨x3_18, ex3_18⟩ : ∃ y : Int32, y = x3 + 1 := ⟨_, rfl⟩
  have hB := hB x3_18 ex3_18
  refine lv_iinc (v := x3_18) (lv' := [(3, .int x3_18), (2, .int x2_17), (0, .ref (ad 0)), (1, .int x1)]) hx hb dX12_who_149 hl (k := 3) rfl (by rw [ex3_18]; rfl) (by decide) rfl (fun ls hl => ?_)
  refine lv_goto (tgt := 51) hx hb dX12_who_152 (by decide) ?_
  exact hX51 _ _ _ hB _ _ _ Z (lv_sub hl [2, 3, 1, 0] rfl)
set_option maxRecDepth 100000 in
set_option maxHeartbeats 4000000 in
theorem w_X12_who_122 {M : Mem} {Q1 : Int32 → Mem → Prop} {X51 : Int32 → Int32 → Mem → Prop} {X79 : Int32 → Int32 → Mem → Prop} {x1 : Int32} {x2 : Int32} {x3 : Int32} {x5 : Int32} {s0 : Int32} (C : Cx T D p s m args c cX12_who 6 "OneOfTwoModel") (hr : meth.sig.returnType = (some .int)) (hlk : meth.locks = false) (Z : Zz EM T D ad 16 A s.heap M H locs) (hX51 : ∀ (x2 : Int32) (x3 : Int32) (M : Mem), X51 x2 x3 M → ∀ (H : Heap) (locs : List Loc) (ls : Array Slot), Zz EM T D ad 16 A s.heap M H locs → lv_has ls 6 [(0, .ref (ad 0)), (1, .int x1), (2, .int x2), (3, .int x3)] → W p l e (RM 56) s m args below meth c H locs 0 0 (MQ below (QcW EM T D ad 16 A Q1) args s 0 0 A) (F0 m 51 ls [])) (hX79 : ∀ (x4 : Int32) (x5 : Int32) (M : Mem), X79 x4 x5 M → ∀ (H : Heap) (locs : List Loc) (ls : Array Slot), Zz EM T D ad 16 A s.heap M H locs → lv_has ls 6 [(0, .ref (ad 0)), (1, .int x1), (2, .int x2), (3, .int x3), (4, .int x4), (5, .int x5)] → W p l e (RM 56) s m args below meth c H locs 0 0 (MQ below (QcW EM T D ad 16 A Q1) args s 0 0 A) (F0 m 79 ls [])) {ls : Array Slot} (hl : lv_has ls 6 [(0, .ref (ad 0)), (1, .int x1), (2, .int x2), (3, .int x3), (5, .int x5)]) (hB : B_X12_who_122 Q1 X51 X79 x1 x2 x3 x5 s0 M) : W p l e (RM 56) s m args below meth c H locs 0 0 (MQ below (QcW EM T D ad 16 A Q1) args s 0 0 A) (F0 m 122 ls [.int s0]) := by
  have hx := C.x
  have hb := C.b
  delta B_X12_who_122 at hB
  refine lv_istore (lv' := [(4, .int s0), (0, .ref (ad 0)), (1, .int x1), (2, .int x2), (3, .int x3), (5, .int x5)]) hx hb dX12_who_122 hl (by decide) rfl (fun ls hl => ?_)
  obtain ⟨x5_20, ex5_20⟩ : ∃ y : Int32, y = x5 + 1 := ⟨_, rfl⟩
  have hB := hB x5_20 ex5_20
  refine lv_iinc (v := x5_20) (lv' := [(5, .int x5_20), (4, .int s0), (0, .ref (ad 0)), (1, .int x1), (2, .int x2), (3, .int x3)]) hx hb dX12_who_124 hl (k := 5) rfl (by rw [ex5_20]; rfl) (by decide) rfl (fun ls hl => ?_)
  refine lv_goto (tgt := 79) hx hb dX12_who_127 (by decide) ?_
  exact hX79 _ _ _ hB _ _ _ Z (lv_sub hl [2, 3, 4, 5, 1, 0] rfl)
set_option maxRecDepth 100000 in
set_option maxHeartbeats 4000000 in
theorem w_X12_who_79 {M : Mem} {Q1 : Int32 → Mem → Prop} {X51 : Int32 → Int32 → Mem → Prop} {x1 : Int32} {x2 : Int32} {x3 : Int32} {x4 : Int32} {x5 : Int32} (C : Cx T D p s m args c cX12_who 6 "OneOfTwoModel") (hr : meth.sig.returnType = (some .int)) (hlk : meth.locks = false) (Z : Zz EM T D ad 16 A s.heap M H locs) (hX51 : ∀ (x2 : Int32) (x3 : Int32) (M : Mem), X51 x2 x3 M → ∀ (H : Heap) (locs : List Loc) (ls : Array Slot), Zz EM T D ad 16 A s.heap M H locs → lv_has ls 6 [(0, .ref (ad 0)), (1, .int x1), (2, .int x2), (3, .int x3)] → W p l e (RM 56) s m args below meth c H locs 0 0 (MQ below (QcW EM T D ad 16 A Q1) args s 0 0 A) (F0 m 51 ls [])) {ls : Array Slot} (hl : lv_has ls 6 [(0, .ref (ad 0)), (1, .int x1), (2, .int x2), (3, .int x3), (4, .int x4), (5, .int x5)]) (hB : B_X12_who_79 Q1 X51 x1 x2 x3 x4 x5 M) : W p l e (RM 56) s m args below meth c H locs 0 0 (MQ below (QcW EM T D ad 16 A Q1) args s 0 0 A) (F0 m 79 ls []) := by
  delta B_X12_who_79 at hB
  obtain ⟨X79, hX79, hY79⟩ : ∃ X79 : Int32 → Int32 → Mem → Prop, (∀ (x4 : Int32) (x5 : Int32) (M : Mem), X79 x4 x5 M → ∀ (H : Heap) (locs : List Loc) (ls : Array Slot), Zz EM T D ad 16 A s.heap M H locs → lv_has ls 6 [(0, .ref (ad 0)), (1, .int x1), (2, .int x2), (3, .int x3), (4, .int x4), (5, .int x5)] → W p l e (RM 56) s m args below meth c H locs 0 0 (MQ below (QcW EM T D ad 16 A Q1) args s 0 0 A) (F0 m 79 ls [])) ∧ (∀ (x4 : Int32) (x5 : Int32) (M : Mem), (∀ (H : Heap) (locs : List Loc) (ls : Array Slot), Zz EM T D ad 16 A s.heap M H locs → lv_has ls 6 [(0, .ref (ad 0)), (1, .int x1), (2, .int x2), (3, .int x3), (4, .int x4), (5, .int x5)] → W p l e (RM 56) s m args below meth c H locs 0 0 (MQ below (QcW EM T D ad 16 A Q1) args s 0 0 A) (F0 m 79 ls [])) → X79 x4 x5 M) := ⟨fun (x4 : Int32) (x5 : Int32) (M : Mem) => ∀ (H : Heap) (locs : List Loc) (ls : Array Slot), Zz EM T D ad 16 A s.heap M H locs → lv_has ls 6 [(0, .ref (ad 0)), (1, .int x1), (2, .int x2), (3, .int x3), (4, .int x4), (5, .int x5)] → W p l e (RM 56) s m args below meth c H locs 0 0 (MQ below (QcW EM T D ad 16 A Q1) args s 0 0 A) (F0 m 79 ls []), fun _ _ _ h => h, fun _ _ _ h => h⟩
  refine hX79 _ _ _ (hB X79 (fun x4 x5 M hB => hY79 _ _ _ (fun H locs ls Z hl => ?_))) _ _ _ Z hl
  have hx := C.x
  have hb := C.b
  refine lv_iload hx hb dX12_who_79 (lv_at hl 5 rfl) ?_
  refine lv_aload_n hx hb dX12_who_81 rfl (lv_at hl 0 rfl) ?_
  refine gf_X12_0 C Z.1 tw_5_98 dX12_who_82 ?_
  refine lv_iconst (v := 0) hx hb dX12_who_85 (by decide) ?_
  refine a_ldc C Z.1 aM_1 (vin rfl) (j := 0) rfl dX12_who_86 ?_
  refine lv_icmp_ge (tgt := 130) hx hb dX12_who_87 (by decide) (fun q14 => ?_) (fun q14 => ?_)
  · have hB := hB.1 q14
    refine lv_aload_n hx hb dX12_who_130 rfl (lv_at hl 0 rfl) ?_
    refine v_X12_putBack C hl.1 Z tw_6_232 ⟨Nat.le_of_ble_eq_true rfl, Nat.le_of_ble_eq_true rfl⟩ ⟨Nat.le_refl _, Nat.le_refl _⟩ (Nat.le_of_ble_eq_true rfl) dX12_who_131 hB (fun M15 H locs hB Z => ?_)
    refine lv_iload_n hx hb dX12_who_134 rfl (lv_at hl 2 rfl) ?_
    refine lv_iload hx hb dX12_who_135 (lv_at hl 4 rfl) ?_
    refine lv_if_eq (tgt := 146) hx hb dX12_who_137 (by decide) (fun q16 => ?_) (fun q16 => ?_)
    · have hB := hB.1 q16
      refine lv_iconst (v := 0) hx hb dX12_who_146 (by decide) ?_
      exact w_X12_who_147 C hr hlk Z hX51 (lv_sub hl [0, 1, 3] rfl) hB
    · have hB := hB.2 q16
      refine lv_iconst (v := 1) hx hb dX12_who_140 (by decide) ?_
      refine lv_iload_n hx hb dX12_who_141 rfl (lv_at hl 3 rfl) ?_
      refine lv_ishl hx hb dX12_who_142 ?_
      refine lv_goto (tgt := 147) hx hb dX12_who_143 (by decide) ?_
      exact w_X12_who_147 C hr hlk Z hX51 (lv_sub hl [0, 1, 3] rfl) hB
  · have hB := hB.2 q14
    refine lv_iload hx hb dX12_who_90 (lv_at hl 4 rfl) ?_
    refine lv_if_eq (tgt := 121) hx hb dX12_who_92 (by decide) (fun q19 => ?_) (fun q19 => ?_)
    · have hB := hB.1 q19
      refine lv_iconst (v := 0) hx hb dX12_who_121 (by decide) ?_
      exact w_X12_who_122 C hr hlk Z hX51 hX79 (lv_sub hl [0, 1, 2, 3, 5] rfl) hB
    · have hB := hB.2 q19
      refine lv_aload_n hx hb dX12_who_95 rfl (lv_at hl 0 rfl) ?_
      refine lv_iload hx hb dX12_who_96 (lv_at hl 5 rfl) ?_
      refine lv_iconst (v := 1) hx hb dX12_who_98 (by decide) ?_
      refine v_X12_its C hl.1 Z.1 tw_6_39 ⟨Nat.le_of_ble_eq_true rfl, Nat.le_of_ble_eq_true rfl⟩ ⟨Nat.le_refl _, Nat.le_refl _⟩ (Nat.le_of_ble_eq_true rfl) dX12_who_99 hB (fun v21 hB => ?_)
      refine lv_aload_n hx hb dX12_who_102 rfl (lv_at hl 0 rfl) ?_
      refine gf_X12_27 C Z.1 tw_5_125 dX12_who_103 ?_
      refine lv_bipush (v := 40) hx hb dX12_who_106 (by decide) ?_
      refine lv_iload_n hx hb dX12_who_108 rfl (lv_at hl 1 rfl) ?_
      refine lv_imul hx hb dX12_who_109 ?_
      refine lv_iload hx hb dX12_who_110 (lv_at hl 5 rfl) ?_
      refine lv_iadd hx hb dX12_who_112 ?_
      obtain ⟨q22, hB⟩ := hB
      refine a_ld C Z.1 aM_14 q22 dX12_who_113 ?_
      refine lv_icmp_ne (tgt := 121) hx hb dX12_who_114 (by decide) (fun q23 => ?_) (fun q23 => ?_)
      · have hB := hB.1 q23
        refine lv_iconst (v := 0) hx hb dX12_who_121 (by decide) ?_
        exact w_X12_who_122 C hr hlk Z hX51 hX79 (lv_sub hl [0, 1, 2, 3, 5] rfl) hB
      · have hB := hB.2 q23
        refine lv_iconst (v := 1) hx hb dX12_who_117 (by decide) ?_
        refine lv_goto (tgt := 122) hx hb dX12_who_118 (by decide) ?_
        exact w_X12_who_122 C hr hlk Z hX51 hX79 (lv_sub hl [0, 1, 2, 3, 5] rfl) hB
set_option maxRecDepth 100000 in
set_option maxHeartbeats 4000000 in
theorem w_X12_who_74 {M : Mem} {Q1 : Int32 → Mem → Prop} {X51 : Int32 → Int32 → Mem → Prop} {x1 : Int32} {x2 : Int32} {x3 : Int32} {s0 : Int32} (C : Cx T D p s m args c cX12_who 6 "OneOfTwoModel") (hr : meth.sig.returnType = (some .int)) (hlk : meth.locks = false) (Z : Zz EM T D ad 16 A s.heap M H locs) (hX51 : ∀ (x2 : Int32) (x3 : Int32) (M : Mem), X51 x2 x3 M → ∀ (H : Heap) (locs : List Loc) (ls : Array Slot), Zz EM T D ad 16 A s.heap M H locs → lv_has ls 6 [(0, .ref (ad 0)), (1, .int x1), (2, .int x2), (3, .int x3)] → W p l e (RM 56) s m args below meth c H locs 0 0 (MQ below (QcW EM T D ad 16 A Q1) args s 0 0 A) (F0 m 51 ls [])) {ls : Array Slot} (hl : lv_has ls 6 [(0, .ref (ad 0)), (1, .int x1), (2, .int x2), (3, .int x3)]) (hB : B_X12_who_74 Q1 X51 x1 x2 x3 s0 M) : W p l e (RM 56) s m args below meth c H locs 0 0 (MQ below (QcW EM T D ad 16 A Q1) args s 0 0 A) (F0 m 74 ls [.int s0]) := by
  have hx := C.x
  have hb := C.b
  delta B_X12_who_74 at hB
  refine lv_istore (lv' := [(4, .int s0), (0, .ref (ad 0)), (1, .int x1), (2, .int x2), (3, .int x3)]) hx hb dX12_who_74 hl (by decide) rfl (fun ls hl => ?_)
  refine lv_iconst (v := 0) hx hb dX12_who_76 (by decide) ?_
  refine lv_istore (lv' := [(5, .int 0), (4, .int s0), (0, .ref (ad 0)), (1, .int x1), (2, .int x2), (3, .int x3)]) hx hb dX12_who_77 hl (by decide) rfl (fun ls hl => ?_)
  exact w_X12_who_79 C hr hlk Z hX51 (lv_sub hl [2, 3, 4, 5, 1, 0] rfl) hB
set_option maxRecDepth 100000 in
set_option maxHeartbeats 4000000 in
theorem w_X12_who_51 {M : Mem} {Q1 : Int32 → Mem → Prop} {x1 : Int32} {x2 : Int32} {x3 : Int32} (C : Cx T D p s m args c cX12_who 6 "OneOfTwoModel") (hr : meth.sig.returnType = (some .int)) (hlk : meth.locks = false) (Z : Zz EM T D ad 16 A s.heap M H locs) {ls : Array Slot} (hl : lv_has ls 6 [(0, .ref (ad 0)), (1, .int x1), (2, .int x2), (3, .int x3)]) (hB : B_X12_who_51 Q1 x1 x2 x3 M) : W p l e (RM 56) s m args below meth c H locs 0 0 (MQ below (QcW EM T D ad 16 A Q1) args s 0 0 A) (F0 m 51 ls []) := by
  delta B_X12_who_51 at hB
  obtain ⟨X51, hX51, hY51⟩ : ∃ X51 : Int32 → Int32 → Mem → Prop, (∀ (x2 : Int32) (x3 : Int32) (M : Mem), X51 x2 x3 M → ∀ (H : Heap) (locs : List Loc) (ls : Array Slot), Zz EM T D ad 16 A s.heap M H locs → lv_has ls 6 [(0, .ref (ad 0)), (1, .int x1), (2, .int x2), (3, .int x3)] → W p l e (RM 56) s m args below meth c H locs 0 0 (MQ below (QcW EM T D ad 16 A Q1) args s 0 0 A) (F0 m 51 ls [])) ∧ (∀ (x2 : Int32) (x3 : Int32) (M : Mem), (∀ (H : Heap) (locs : List Loc) (ls : Array Slot), Zz EM T D ad 16 A s.heap M H locs → lv_has ls 6 [(0, .ref (ad 0)), (1, .int x1), (2, .int x2), (3, .int x3)] → W p l e (RM 56) s m args below meth c H locs 0 0 (MQ below (QcW EM T D ad 16 A Q1) args s 0 0 A) (F0 m 51 ls [])) → X51 x2 x3 M) := ⟨fun (x2 : Int32) (x3 : Int32) (M : Mem) => ∀ (H : Heap) (locs : List Loc) (ls : Array Slot), Zz EM T D ad 16 A s.heap M H locs → lv_has ls 6 [(0, .ref (ad 0)), (1, .int x1), (2, .int x2), (3, .int x3)] → W p l e (RM 56) s m args below meth c H locs 0 0 (MQ below (QcW EM T D ad 16 A Q1) args s 0 0 A) (F0 m 51 ls []), fun _ _ _ h => h, fun _ _ _ h => h⟩
  refine hX51 _ _ _ (hB X51 (fun x2 x3 M hB => hY51 _ _ _ (fun H locs ls Z hl => ?_))) _ _ _ Z hl
  have hx := C.x
  have hb := C.b
  refine lv_iload_n hx hb dX12_who_51 rfl (lv_at hl 3 rfl) ?_
  refine lv_aload_n hx hb dX12_who_52 rfl (lv_at hl 0 rfl) ?_
  refine gf_X12_0 C Z.1 tw_5_98 dX12_who_53 ?_
  refine lv_iconst (v := 2) hx hb dX12_who_56 (by decide) ?_
  refine a_ldc C Z.1 aM_1 (vin rfl) (j := 2) rfl dX12_who_57 ?_
  refine lv_icmp_ge (tgt := 155) hx hb dX12_who_58 (by decide) (fun q10 => ?_) (fun q10 => ?_)
  · have hB := hB.1 q10
    refine lv_iload_n hx hb dX12_who_155 rfl (lv_at hl 2 rfl) ?_
    exact e_iW C hr hlk Z dX12_who_156 hB
  · have hB := hB.2 q10
    refine lv_aload_n hx hb dX12_who_61 rfl (lv_at hl 0 rfl) ?_
    refine lv_iload_n hx hb dX12_who_62 rfl (lv_at hl 3 rfl) ?_
    refine v_X12_turnOf C hl.1 Z tw_6_176 ⟨Nat.le_of_ble_eq_true rfl, Nat.le_of_ble_eq_true rfl⟩ ⟨Nat.le_refl _, Nat.le_refl _⟩ (Nat.le_of_ble_eq_true rfl) dX12_who_63 hB (fun v11 M12 H locs hB Z => ?_)
    refine lv_if_le (tgt := 73) hx hb dX12_who_66 (by decide) (fun q13 => ?_) (fun q13 => ?_)
    · have hB := hB.1 q13
      refine lv_iconst (v := 0) hx hb dX12_who_73 (by decide) ?_
      exact w_X12_who_74 C hr hlk Z hX51 (lv_sub hl [0, 1, 2, 3] rfl) hB
    · have hB := hB.2 q13
      refine lv_iconst (v := 1) hx hb dX12_who_69 (by decide) ?_
      refine lv_goto (tgt := 74) hx hb dX12_who_70 (by decide) ?_
      exact w_X12_who_74 C hr hlk Z hX51 (lv_sub hl [0, 1, 2, 3] rfl) hB
set_option maxRecDepth 100000 in
set_option maxHeartbeats 4000000 in
theorem c_X12_who {l : Launch} {T : Nat → ClassId} {D : va_G} {ad : Nat → Nat} {M : Mem} {x1 : Int32} {sz : Nat} {Q1 : Int32 → Mem → Prop} (hB : P_X12_who M x1 Q1) : Met l yX12_who (Cond.code yX12_who cX12_who 6 (some .int) :: TB) (RM 56) (va_Pc [.ref (ad 0), .int x1] (WrP EM T D ad 16 M sz)) (QcW EM T D ad 16 (AA ad 16 sz) Q1) 0 0 (AA ad 16 sz) := by
  refine st_W (by decide) (Nat.le_of_ble_eq_true rfl) (fun p e s m args below meth c ls C hr hlk hsz Z hl => ?_)
  have hl : lv_has ls 6 [(0, .ref (ad 0)), (1, .int x1)] := hl
  generalize AA ad 16 sz = A at Z ⊢
  have hx := C.x
  have hb := C.b
  delta P_X12_who at hB
  refine lv_iload_n hx hb dX12_who_0 rfl (lv_at hl 1 rfl) ?_
  refine v_X12_isSheet C.1 hl.1 tw_7_40 ⟨Nat.le_of_ble_eq_true rfl, Nat.le_of_ble_eq_true rfl⟩ ⟨Nat.le_refl _, Nat.le_refl _⟩ (Nat.le_of_ble_eq_true rfl) dX12_who_1 hB (fun v1 hB => ?_)
  refine lv_if_ne (tgt := 13) hx hb dX12_who_4 (by decide) (fun q2 => ?_) (fun q2 => ?_)
  · have hB := hB.1 q2
    refine lv_aload_n hx hb dX12_who_13 rfl (lv_at hl 0 rfl) ?_
    refine gf_X12_25 C Z.1 tw_5_123 dX12_who_14 ?_
    refine lv_iload_n hx hb dX12_who_17 rfl (lv_at hl 1 rfl) ?_
    obtain ⟨q3, hB⟩ := hB
    refine a_ld C Z.1 aM_12 q3 dX12_who_18 ?_
    refine lv_if_eq (tgt := 37) hx hb dX12_who_19 (by decide) (fun q4 => ?_) (fun q4 => ?_)
    · have hB := hB.1 q4
      refine lv_aload_n hx hb dX12_who_37 rfl (lv_at hl 0 rfl) ?_
      refine lv_iconst (v := 2) hx hb dX12_who_38 (by decide) ?_
      refine v_X12_finds C hl.1 Z tw_5_194 ⟨Nat.le_of_ble_eq_true rfl, Nat.le_of_ble_eq_true rfl⟩ ⟨Nat.le_refl _, Nat.le_refl _⟩ (Nat.le_of_ble_eq_true rfl) dX12_who_39 hB (fun v5 M6 H locs hB Z => ?_)
      exact e_iW C hr hlk Z dX12_who_42 hB
    · have hB := hB.2 q4
      refine lv_aload_n hx hb dX12_who_22 rfl (lv_at hl 0 rfl) ?_
      refine gf_X12_26 C Z.1 tw_5_124 dX12_who_23 ?_
      refine lv_iload_n hx hb dX12_who_26 rfl (lv_at hl 1 rfl) ?_
      obtain ⟨q7, hB⟩ := hB
      refine a_ld C Z.1 aM_13 q7 dX12_who_27 ?_
      refine lv_aload_n hx hb dX12_who_28 rfl (lv_at hl 0 rfl) ?_
      refine gf_X12_0 C Z.1 tw_5_98 dX12_who_29 ?_
      refine lv_iconst (v := 0) hx hb dX12_who_32 (by decide) ?_
      refine a_ldc C Z.1 aM_1 (vin rfl) (j := 0) rfl dX12_who_33 ?_
      refine lv_icmp_eq (tgt := 43) hx hb dX12_who_34 (by decide) (fun q8 => ?_) (fun q8 => ?_)
      · have hB := hB.1 q8
        refine lv_iconst (v := 0) hx hb dX12_who_43 (by decide) ?_
        refine lv_istore_n (lv' := [(2, .int 0), (0, .ref (ad 0)), (1, .int x1)]) hx hb dX12_who_44 rfl hl (by decide) rfl (fun ls hl => ?_)
        refine lv_aload_n hx hb dX12_who_45 rfl (lv_at hl 1 rfl) ?_
        refine v_X12_keepAside C hl.1 Z tw_6_228 ⟨Nat.le_of_ble_eq_true rfl, Nat.le_of_ble_eq_true rfl⟩ ⟨Nat.le_refl _, Nat.le_refl _⟩ (Nat.le_of_ble_eq_true rfl) dX12_who_46 hB (fun M9 H locs hB Z => ?_)
        refine lv_iconst (v := 0) hx hb dX12_who_49 (by decide) ?_
        refine lv_istore_n (lv' := [(3, .int 0), (2, .int 0), (0, .ref (ad 0)), (1, .int x1)]) hx hb dX12_who_50 rfl hl (by decide) rfl (fun ls hl => ?_)
        exact w_X12_who_51 C hr hlk Z (lv_sub hl [2, 3, 1, 0] rfl) hB
      · have hB := hB.2 q8
        refine lv_aload_n hx hb dX12_who_37 rfl (lv_at hl 0 rfl) ?_
        refine lv_iconst (v := 2) hx hb dX12_who_38 (by decide) ?_
        refine v_X12_finds C hl.1 Z tw_5_194 ⟨Nat.le_of_ble_eq_true rfl, Nat.le_of_ble_eq_true rfl⟩ ⟨Nat.le_refl _, Nat.le_refl _⟩ (Nat.le_of_ble_eq_true rfl) dX12_who_39 hB (fun v24 M25 H locs hB Z => ?_)
        exact e_iW C hr hlk Z dX12_who_42 hB
  · have hB := hB.2 q2
    refine lv_aload_n hx hb dX12_who_7 rfl (lv_at hl 0 rfl) ?_
    refine lv_iconst (v := 1) hx hb dX12_who_8 (by decide) ?_
    refine v_X12_finds C hl.1 Z tw_5_194 ⟨Nat.le_of_ble_eq_true rfl, Nat.le_of_ble_eq_true rfl⟩ ⟨Nat.le_refl _, Nat.le_refl _⟩ (Nat.le_of_ble_eq_true rfl) dX12_who_9 hB (fun v26 M27 H locs hB Z => ?_)
    exact e_iW C hr hlk Z dX12_who_12 hB
set_option maxRecDepth 100000 in
set_option maxHeartbeats 4000000 in
theorem v_X12_who {M : Mem} {x1 : Int32} {Q1 : Int32 → Mem → Prop} (C : Cx T D p s m args c cc nL own) (hls : ls.size = nL) (Z : Zz EM T D ad 16 A H0 M H locs) (hlink : Cond.methodLink own index yX12_who ∈ TB) (hR : 56 + 1 ≤ R.frames ∧ 8 + (6 + 11) + 48 * 56 ≤ R.locals) (hcs : cells ≤ R.cells ∧ slots ≤ R.slots) (hcat : (rest.map fun v => v.category).sum ≤ 8) (hdg : decode cc pc = .ok (.invokevirtual index, 3)) (hB : P_X12_who M x1 Q1)
    (kk : ∀ (r : Int32) (M1 : Mem) (H1 : Heap) (locs1 : List Loc), Q1 r M1 → Zz EM T D ad 16 A H0 M1 H1 locs1 → W p l e R s m args below meth c H1 locs1 cells slots QQ (F0 m (pc + 3) ls (.int r :: rest))) : W p l e R s m args below meth c H locs cells slots QQ (F0 m pc ls (.int x1 :: .ref (ad 0) :: rest)) :=
  k_VW (ci := 12) (n := 1) (c_X12_who hB) tw_7_39 tw_7_37 tw_7_38 tw_1_12 ⟨rfl, by decide, by decide, by decide +kernel⟩ rfl rfl C hls Z oM hlink hR hcs hcat rfl hdg kk
def P_X12_seed (M : Mem) (x1 : Int32) (Q1 : Int32 → Mem → Prop) : Prop :=
  ∀ x2_1 : Int32, x2_1 = M 1 8 → ∀ M2 : Mem, M2 = sf M 1 8 x1 → Q1 x2_1 M2
set_option maxRecDepth 100000 in
set_option maxHeartbeats 4000000 in
theorem c_X12_seed {l : Launch} {T : Nat → ClassId} {D : va_G} {ad : Nat → Nat} {M : Mem} {x1 : Int32} {sz : Nat} {Q1 : Int32 → Mem → Prop} (hB : P_X12_seed M x1 Q1) : Met l yX12_seed (Cond.code yX12_seed cX12_seed 3 (some .int) :: TB) (RM 1) (va_Pc [.ref (ad 0), .int x1] (WrP EM T D ad 16 M sz)) (QcW EM T D ad 16 (AA ad 16 sz) Q1) 0 0 (AA ad 16 sz) := by
  refine st_W (by decide) (Nat.le_of_ble_eq_true rfl) (fun p e s m args below meth c ls C hr hlk hsz Z hl => ?_)
  have hl : lv_has ls 3 [(0, .ref (ad 0)), (1, .int x1)] := hl
  generalize AA ad 16 sz = A at Z ⊢
  have hx := C.x
  have hb := C.b
  delta P_X12_seed at hB
  refine lv_aload_n hx hb dX12_seed_0 rfl (lv_at hl 0 rfl) ?_
  refine gf_X12_0 C Z.1 tw_5_98 dX12_seed_1 ?_
  refine lv_bipush (v := 8) hx hb dX12_seed_4 (by decide) ?_
  refine a_ldc C Z.1 aM_1 (vin rfl) (j := 8) rfl dX12_seed_6 ?_
  refine lv_topi (fun x2_1 ex2_1 => ?_)
  have hB := hB x2_1 ex2_1
  refine lv_istore_n (lv' := [(2, .int x2_1), (0, .ref (ad 0)), (1, .int x1)]) hx hb dX12_seed_7 rfl hl (by decide) rfl (fun ls hl => ?_)
  refine lv_aload_n hx hb dX12_seed_8 rfl (lv_at hl 1 rfl) ?_
  refine gf_X12_0 C Z.1 tw_5_98 dX12_seed_9 ?_
  refine lv_bipush (v := 8) hx hb dX12_seed_12 (by decide) ?_
  refine lv_iload_n hx hb dX12_seed_14 rfl (lv_at hl 2 rfl) ?_
  refine a_stc C Z aM_1 (vin rfl) rfl dX12_seed_15 (fun M2 H locs eM2 Z => ?_)
  have hB := hB M2 eM2
  refine lv_iload_n hx hb dX12_seed_16 rfl (lv_at hl 0 rfl) ?_
  exact e_iW C hr hlk Z dX12_seed_17 hB
set_option maxRecDepth 100000 in
set_option maxHeartbeats 4000000 in
theorem v_X12_seed {M : Mem} {x1 : Int32} {Q1 : Int32 → Mem → Prop} (C : Cx T D p s m args c cc nL own) (hls : ls.size = nL) (Z : Zz EM T D ad 16 A H0 M H locs) (hlink : Cond.methodLink own index yX12_seed ∈ TB) (hR : 1 + 1 ≤ R.frames ∧ 8 + (3 + 11) + 48 * 1 ≤ R.locals) (hcs : cells ≤ R.cells ∧ slots ≤ R.slots) (hcat : (rest.map fun v => v.category).sum ≤ 8) (hdg : decode cc pc = .ok (.invokevirtual index, 3)) (hB : P_X12_seed M x1 Q1)
    (kk : ∀ (r : Int32) (M1 : Mem) (H1 : Heap) (locs1 : List Loc), Q1 r M1 → Zz EM T D ad 16 A H0 M1 H1 locs1 → W p l e R s m args below meth c H1 locs1 cells slots QQ (F0 m (pc + 3) ls (.int r :: rest))) : W p l e R s m args below meth c H locs cells slots QQ (F0 m pc ls (.int x1 :: .ref (ad 0) :: rest)) :=
  k_VW (ci := 12) (n := 1) (c_X12_seed hB) tw_7_46 tw_7_44 tw_7_45 tw_1_12 ⟨rfl, by decide, by decide, by decide +kernel⟩ rfl rfl C hls Z oM hlink hR hcs hcat rfl hdg kk
def P_X12_ran (M : Mem) (x1 : Int32) (Q1 : Mem → Prop) : Prop :=
  ((40 ≤ (M 0 23) → Q1 M) ∧
    (¬ 40 ≤ (M 0 23) → vp_in (M 0 23) 40 ∧ ∀ M2 : Mem, M2 = sf M 11 (M 0 23).toNatClampNeg x1 → ∀ v4 : Int32, v4 = (M2 0 23) + 1 → ∀ M5 : Mem, M5 = sf M2 0 23 v4 → Q1 M5))
set_option maxRecDepth 100000 in
set_option maxHeartbeats 4000000 in
theorem c_X12_ran {l : Launch} {T : Nat → ClassId} {D : va_G} {ad : Nat → Nat} {M : Mem} {x1 : Int32} {sz : Nat} {Q1 : Mem → Prop} (hB : P_X12_ran M x1 Q1) : Met l yX12_ran (Cond.code yX12_ran cX12_ran 2 none :: TB) (RM 1) (va_Pc [.ref (ad 0), .int x1] (WrP EM T D ad 16 M sz)) (QcV EM T D ad 16 (AA ad 16 sz) Q1) 0 0 (AA ad 16 sz) := by
  refine st_W (by decide) (Nat.le_of_ble_eq_true rfl) (fun p e s m args below meth c ls C hr hlk hsz Z hl => ?_)
  have hl : lv_has ls 2 [(0, .ref (ad 0)), (1, .int x1)] := hl
  generalize AA ad 16 sz = A at Z ⊢
  have hx := C.x
  have hb := C.b
  delta P_X12_ran at hB
  refine lv_aload_n hx hb dX12_ran_0 rfl (lv_at hl 0 rfl) ?_
  refine gf_X12_23 C Z.1 tw_5_121 dX12_ran_1 ?_
  refine lv_bipush (v := 40) hx hb dX12_ran_4 (by decide) ?_
  refine lv_icmp_ge (tgt := 29) hx hb dX12_ran_6 (by decide) (fun q1 => ?_) (fun q1 => ?_)
  · have hB := hB.1 q1
    exact e_vW C hr hlk Z dX12_ran_29 hB
  · have hB := hB.2 q1
    refine lv_aload_n hx hb dX12_ran_9 rfl (lv_at hl 0 rfl) ?_
    refine gf_X12_22 C Z.1 tw_5_120 dX12_ran_10 ?_
    refine lv_aload_n hx hb dX12_ran_13 rfl (lv_at hl 0 rfl) ?_
    refine gf_X12_23 C Z.1 tw_5_121 dX12_ran_14 ?_
    refine lv_iload_n hx hb dX12_ran_17 rfl (lv_at hl 1 rfl) ?_
    obtain ⟨q3, hB⟩ := hB
    refine a_st C Z aM_11 q3 dX12_ran_18 (fun M2 H locs eM2 Z => ?_)
    have hB := hB M2 eM2
    refine lv_aload_n hx hb dX12_ran_19 rfl (lv_at hl 0 rfl) ?_
    refine lv_dup hx hb dX12_ran_20 rfl ?_
    refine gf_X12_23 C Z.1 tw_5_121 dX12_ran_21 ?_
    refine lv_iconst (v := 1) hx hb dX12_ran_24 (by decide) ?_
    refine lv_iadd hx hb dX12_ran_25 ?_
    refine lv_topi (fun v4 ev4 => ?_)
    have hB := hB v4 ev4
    refine pf_X12_23 C Z tw_5_121 dX12_ran_26 (fun M5 H locs eM5 Z => ?_)
    have hB := hB M5 eM5
    exact e_vW C hr hlk Z dX12_ran_29 hB
set_option maxRecDepth 100000 in
set_option maxHeartbeats 4000000 in
theorem v_X12_ran {M : Mem} {x1 : Int32} {Q1 : Mem → Prop} (C : Cx T D p s m args c cc nL own) (hls : ls.size = nL) (Z : Zz EM T D ad 16 A H0 M H locs) (hlink : Cond.methodLink own index yX12_ran ∈ TB) (hR : 1 + 1 ≤ R.frames ∧ 8 + (2 + 11) + 48 * 1 ≤ R.locals) (hcs : cells ≤ R.cells ∧ slots ≤ R.slots) (hcat : (rest.map fun v => v.category).sum ≤ 8) (hdg : decode cc pc = .ok (.invokevirtual index, 3)) (hB : P_X12_ran M x1 Q1)
    (kk : ∀ (M1 : Mem) (H1 : Heap) (locs1 : List Loc), Q1 M1 → Zz EM T D ad 16 A H0 M1 H1 locs1 → W p l e R s m args below meth c H1 locs1 cells slots QQ (F0 m (pc + 3) ls rest)) : W p l e R s m args below meth c H locs cells slots QQ (F0 m pc ls (.int x1 :: .ref (ad 0) :: rest)) :=
  k_VV (ci := 12) (n := 1) (c_X12_ran hB) tw_7_62 tw_7_61 tw_s_67 tw_1_12 ⟨rfl, by decide, by decide, by decide +kernel⟩ rfl rfl C hls Z oM hlink hR hcs hcat rfl hdg kk
def P_X12_own (M : Mem) (Q1 : Int32 → Prop) : Prop :=
  P_X12_of M (M 0 24) 0 (fun v1 => Q1 v1)
set_option maxRecDepth 100000 in
set_option maxHeartbeats 4000000 in
theorem c_X12_own {l : Launch} {T : Nat → ClassId} {D : va_G} {ad : Nat → Nat} {M : Mem} {Q1 : Int32 → Prop} (hB : P_X12_own M Q1) : Met l yX12_own (Cond.code yX12_own cX12_own 1 (some .int) :: TB) (RM 2) (va_Pc [.ref (ad 0)] (RdP EM T D ad 16 M)) (QcR Q1) 0 0 (fun _ => False) := by
  refine st_R (by decide) (Nat.le_of_ble_eq_true rfl) (fun p e s m args below meth c ls C hr hlk hP hl => ?_)
  have hl : lv_has ls 1 [(0, .ref (ad 0))] := hl
  have hx := C.x
  have hb := C.b
  delta P_X12_own at hB
  refine lv_aload_n hx hb dX12_own_0 rfl (lv_at hl 0 rfl) ?_
  refine lv_aload_n hx hb dX12_own_1 rfl (lv_at hl 0 rfl) ?_
  refine gf_X12_24 C hP tw_5_122 dX12_own_2 ?_
  refine lv_iconst (v := 0) hx hb dX12_own_5 (by decide) ?_
  refine v_X12_of C hl.1 hP tw_6_133 ⟨Nat.le_of_ble_eq_true rfl, Nat.le_of_ble_eq_true rfl⟩ ⟨Nat.le_refl _, Nat.le_refl _⟩ (Nat.le_of_ble_eq_true rfl) dX12_own_6 hB (fun v1 hB => ?_)
  exact e_iR C.1 hr hlk dX12_own_9 hB
set_option maxRecDepth 100000 in
set_option maxHeartbeats 4000000 in
theorem v_X12_own {M : Mem} {Q1 : Int32 → Prop} (C : Cx T D p s m args c cc nL own) (hls : ls.size = nL) (hP : Pw EM T D ad 16 M H) (hlink : Cond.methodLink own index yX12_own ∈ TB) (hR : 2 + 1 ≤ R.frames ∧ 8 + (1 + 11) + 48 * 2 ≤ R.locals) (hcs : cells ≤ R.cells ∧ slots ≤ R.slots) (hcat : (rest.map fun v => v.category).sum ≤ 8) (hdg : decode cc pc = .ok (.invokevirtual index, 3)) (hB : P_X12_own M Q1)
    (kk : ∀ r : Int32, Q1 r → W p l e R s m args below meth c H locs cells slots QQ (F0 m (pc + 3) ls (.int r :: rest))) : W p l e R s m args below meth c H locs cells slots QQ (F0 m pc ls (.ref (ad 0) :: rest)) :=
  k_V (ci := 12) (n := 0) (c_X12_own hB) tw_7_54 tw_7_53 tw_s_65 tw_1_12 ⟨rfl, by decide, by decide, by decide +kernel⟩ rfl rfl C hls hP oM hlink hR hcs hcat rfl hdg kk
set_option maxRecDepth 100000 in
set_option maxHeartbeats 4000000 in
theorem vm_X12_wakesBy {M : Mem} {x1 : Int32} {x2 : Int32} {n : Nat} {Q1 : Int32 → Mem → Prop} (C : Cx T D p s m args c cc nL own) (hls : ls.size = nL) (Z : Zz EM T D ad 16 A H0 M H locs) (hlink : Cond.methodLink own index yX12_wakesBy ∈ TB) (hR : (n + 1) + 1 ≤ R.frames ∧ 8 + (3 + 11) + 48 * (n + 1) ≤ R.locals) (hcs : cells ≤ R.cells ∧ slots ≤ R.slots) (hcat : (rest.map fun v => v.category).sum ≤ 8) (hdg : decode cc pc = .ok (.invokevirtual index, 3)) (hB : Met l yX12_wakesBy (Cond.code yX12_wakesBy cX12_wakesBy 3 (some .int) :: TB) (RM (n + 1)) (va_Pc [.ref (ad 0), .int x1, .int x2] (WrP EM T D ad 16 M H.size)) (QcW EM T D ad 16 (AA ad 16 H.size) Q1) 0 0 (AA ad 16 H.size))
    (kk : ∀ (r : Int32) (M1 : Mem) (H1 : Heap) (locs1 : List Loc), Q1 r M1 → Zz EM T D ad 16 A H0 M1 H1 locs1 → W p l e R s m args below meth c H1 locs1 cells slots QQ (F0 m (pc + 3) ls (.int r :: rest))) : W p l e R s m args below meth c H locs cells slots QQ (F0 m pc ls (.int x2 :: .int x1 :: .ref (ad 0) :: rest)) :=
  k_VW (lv := n + 1) (ci := 12) (n := 2) hB tw_7_58 tw_7_57 tw_s_66 tw_1_12 ⟨rfl, by decide, by decide, by decide +kernel⟩ rfl rfl C hls Z oM hlink hR hcs hcat rfl hdg kk
def Pb_X12_wakesBy (u : Mem → Int32 → Int32 → (Int32 → Mem → Prop) → Prop) (M : Mem) (x1 : Int32) (x2 : Int32) (Q1 : Int32 → Mem → Prop) : Prop :=
  ((x1 = 0 → P_X12_ran M 10 (fun M2 => Q1 (x2 + (M2 0 24)) M2)) ∧
    (x1 = 2 → P_X12_ran M 30 (fun M3 => P_X12_above 2 (fun v4 => u M3 v4 x2 (fun v5 M6 => Q1 (v5 * 3) M6)))) ∧
    (¬ x1 = 0 → ¬ x1 = 2 → P_X12_above x1 (fun v7 => u M v7 x2 (fun v8 M9 => Q1 v8 M9))))
set_option maxRecDepth 100000 in
set_option maxHeartbeats 4000000 in
theorem cb_X12_wakesBy {l : Launch} {T : Nat → ClassId} {D : va_G} {ad : Nat → Nat} {u : Mem → Int32 → Int32 → (Int32 → Mem → Prop) → Prop} {M : Mem} {x1 : Int32} {x2 : Int32} {n : Nat} {sz : Nat} {Q1 : Int32 → Mem → Prop} (hu : ∀ (M : Mem) (x1 : Int32) (x2 : Int32) (sz : Nat) (Q1 : Int32 → Mem → Prop), u M x1 x2 Q1 → Met l yX12_wakesBy (Cond.code yX12_wakesBy cX12_wakesBy 3 (some .int) :: TB) (RM (n + 1)) (va_Pc [.ref (ad 0), .int x1, .int x2] (WrP EM T D ad 16 M sz)) (QcW EM T D ad 16 (AA ad 16 sz) Q1) 0 0 (AA ad 16 sz)) (hB : Pb_X12_wakesBy u M x1 x2 Q1) : Met l yX12_wakesBy (Cond.code yX12_wakesBy cX12_wakesBy 3 (some .int) :: TB) (RM (n + 3)) (va_Pc [.ref (ad 0), .int x1, .int x2] (WrP EM T D ad 16 M sz)) (QcW EM T D ad 16 (AA ad 16 sz) Q1) 0 0 (AA ad 16 sz) := by
  refine st_W (by decide) (Nat.le_of_ble_eq_true rfl) (fun p e s m args below meth c ls C hr hlk hsz Z hl => ?_)
  have hl : lv_has ls 3 [(0, .ref (ad 0)), (1, .int x1), (2, .int x2)] := hl
  generalize AA ad 16 sz = A at Z ⊢
  have hx := C.x
  have hb := C.b
  delta Pb_X12_wakesBy at hB
  refine lv_iload_n hx hb dX12_wakesBy_0 rfl (lv_at hl 1 rfl) ?_
  by_cases q1_0 : x1 = 0
  · have hB := hB.1 q1_0
    refine lv_lookup (off := 27) (tgt := 28) hx hb dX12_wakesBy_1 (by decide) (by rw [q1_0]; rfl) (by decide) ?_
    refine lv_aload_n hx hb dX12_wakesBy_28 rfl (lv_at hl 0 rfl) ?_
    refine lv_bipush (v := 10) hx hb dX12_wakesBy_29 (by decide) ?_
    refine v_X12_ran C hl.1 Z tw_7_59 (rmk (by omega) (by omega)) ⟨Nat.le_refl _, Nat.le_refl _⟩ (Nat.le_of_ble_eq_true rfl) dX12_wakesBy_31 hB (fun M2 H locs hB Z => ?_)
    refine lv_iload_n hx hb dX12_wakesBy_34 rfl (lv_at hl 2 rfl) ?_
    refine lv_aload_n hx hb dX12_wakesBy_35 rfl (lv_at hl 0 rfl) ?_
    refine gf_X12_24 C Z.1 tw_5_122 dX12_wakesBy_36 ?_
    refine lv_iadd hx hb dX12_wakesBy_39 ?_
    exact e_iW C hr hlk Z dX12_wakesBy_40 hB
  by_cases q1_1 : x1 = 2
  · have hB := hB.2.1 q1_1
    refine lv_lookup (off := 40) (tgt := 41) hx hb dX12_wakesBy_1 (by decide) (by rw [q1_1]; rfl) (by decide) ?_
    refine lv_aload_n hx hb dX12_wakesBy_41 rfl (lv_at hl 0 rfl) ?_
    refine lv_bipush (v := 30) hx hb dX12_wakesBy_42 (by decide) ?_
    refine v_X12_ran C hl.1 Z tw_7_59 (rmk (by omega) (by omega)) ⟨Nat.le_refl _, Nat.le_refl _⟩ (Nat.le_of_ble_eq_true rfl) dX12_wakesBy_44 hB (fun M3 H locs hB Z => ?_)
    refine lv_aload_n hx hb dX12_wakesBy_47 rfl (lv_at hl 0 rfl) ?_
    refine lv_iconst (v := 2) hx hb dX12_wakesBy_48 (by decide) ?_
    refine v_X12_above C.1 hl.1 tw_6_157 (rmk (by omega) (by omega)) ⟨Nat.le_refl _, Nat.le_refl _⟩ (Nat.le_of_ble_eq_true rfl) dX12_wakesBy_49 hB (fun v4 hB => ?_)
    refine lv_iload_n hx hb dX12_wakesBy_52 rfl (lv_at hl 2 rfl) ?_
    refine vm_X12_wakesBy C hl.1 Z tw_7_55 (rmk (by omega) (by omega)) ⟨Nat.le_refl _, Nat.le_refl _⟩ (Nat.le_of_ble_eq_true rfl) dX12_wakesBy_53 (hu _ _ _ _ _ hB) (fun v5 M6 H locs hB Z => ?_)
    refine lv_iconst (v := 3) hx hb dX12_wakesBy_56 (by decide) ?_
    refine lv_imul hx hb dX12_wakesBy_57 ?_
    exact e_iW C hr hlk Z dX12_wakesBy_58 hB
  have hB := hB.2.2 q1_0 q1_1
  refine lv_lookup (off := 58) (tgt := 59) hx hb dX12_wakesBy_1 (by decide) ((lv_osw (k := 0) q1_0 rfl).trans ((lv_osw (k := 2) q1_1 rfl).trans rfl)) (by decide) ?_
  refine lv_aload_n hx hb dX12_wakesBy_59 rfl (lv_at hl 0 rfl) ?_
  refine lv_iload_n hx hb dX12_wakesBy_60 rfl (lv_at hl 1 rfl) ?_
  refine v_X12_above C.1 hl.1 tw_6_157 (rmk (by omega) (by omega)) ⟨Nat.le_refl _, Nat.le_refl _⟩ (Nat.le_of_ble_eq_true rfl) dX12_wakesBy_61 hB (fun v7 hB => ?_)
  refine lv_iload_n hx hb dX12_wakesBy_64 rfl (lv_at hl 2 rfl) ?_
  refine vm_X12_wakesBy C hl.1 Z tw_7_55 (rmk (by omega) (by omega)) ⟨Nat.le_refl _, Nat.le_refl _⟩ (Nat.le_of_ble_eq_true rfl) dX12_wakesBy_65 (hu _ _ _ _ _ hB) (fun v8 M9 H locs hB Z => ?_)
  exact e_iW C hr hlk Z dX12_wakesBy_68 hB
def P_X12_wakesBy : Nat → Mem → Int32 → Int32 → (Int32 → Mem → Prop) → Prop
  | 0 => fun _ _ _ _ => False
  | n + 1 => Pb_X12_wakesBy (P_X12_wakesBy n)
set_option maxRecDepth 100000 in
set_option maxHeartbeats 4000000 in
theorem c_X12_wakesBy (n : Nat) : ∀ {l : Launch} {T : Nat → ClassId} {D : va_G} {ad : Nat → Nat} {M : Mem} {x1 : Int32} {x2 : Int32} {sz : Nat} {Q1 : Int32 → Mem → Prop}, P_X12_wakesBy n M x1 x2 Q1 → Met l yX12_wakesBy (Cond.code yX12_wakesBy cX12_wakesBy 3 (some .int) :: TB) (RM (2 * n + 1)) (va_Pc [.ref (ad 0), .int x1, .int x2] (WrP EM T D ad 16 M sz)) (QcW EM T D ad 16 (AA ad 16 sz) Q1) 0 0 (AA ad 16 sz) := by
  induction n with
  | zero => intro _ _ _ _ _ _ _ _ _ hB; exact hB.elim
  | succ n ih =>
    intro _ _ _ _ _ _ _ _ _ hB
    have e : 2 * (n + 1) + 1 = 2 * n + 3 := by omega
    rw [e]
    exact cb_X12_wakesBy (n := 2 * n) (u := P_X12_wakesBy n) (fun _ _ _ _ _ h => ih  h)  hB
set_option maxRecDepth 100000 in
set_option maxHeartbeats 4000000 in
theorem v_X12_wakesBy {M : Mem} {x1 : Int32} {x2 : Int32} {Q1 : Int32 → Mem → Prop} (C : Cx T D p s m args c cc nL own) (hls : ls.size = nL) (Z : Zz EM T D ad 16 A H0 M H locs) (hlink : Cond.methodLink own index yX12_wakesBy ∈ TB) (hR : 9 + 1 ≤ R.frames ∧ 8 + (3 + 11) + 48 * 9 ≤ R.locals) (hcs : cells ≤ R.cells ∧ slots ≤ R.slots) (hcat : (rest.map fun v => v.category).sum ≤ 8) (hdg : decode cc pc = .ok (.invokevirtual index, 3)) (hB : P_X12_wakesBy 4 M x1 x2 Q1)
    (kk : ∀ (r : Int32) (M1 : Mem) (H1 : Heap) (locs1 : List Loc), Q1 r M1 → Zz EM T D ad 16 A H0 M1 H1 locs1 → W p l e R s m args below meth c H1 locs1 cells slots QQ (F0 m (pc + 3) ls (.int r :: rest))) : W p l e R s m args below meth c H locs cells slots QQ (F0 m pc ls (.int x2 :: .int x1 :: .ref (ad 0) :: rest)) :=
  k_VW (lv := 9) (ci := 12) (n := 2) (c_X12_wakesBy 4  hB) tw_7_58 tw_7_57 tw_s_66 tw_1_12 ⟨rfl, by decide, by decide, by decide +kernel⟩ rfl rfl C hls Z oM hlink hR hcs hcat rfl hdg kk
set_option maxRecDepth 100000 in
set_option maxHeartbeats 4000000 in
theorem vm_X12_shutsBy {M : Mem} {x1 : Int32} {x2 : Int32} {n : Nat} {Q1 : Int32 → Mem → Prop} (C : Cx T D p s m args c cc nL own) (hls : ls.size = nL) (Z : Zz EM T D ad 16 A H0 M H locs) (hlink : Cond.methodLink own index yX12_shutsBy ∈ TB) (hR : (n + 1) + 1 ≤ R.frames ∧ 8 + (3 + 11) + 48 * (n + 1) ≤ R.locals) (hcs : cells ≤ R.cells ∧ slots ≤ R.slots) (hcat : (rest.map fun v => v.category).sum ≤ 8) (hdg : decode cc pc = .ok (.invokevirtual index, 3)) (hB : Met l yX12_shutsBy (Cond.code yX12_shutsBy cX12_shutsBy 3 (some .int) :: TB) (RM (n + 1)) (va_Pc [.ref (ad 0), .int x1, .int x2] (WrP EM T D ad 16 M H.size)) (QcW EM T D ad 16 (AA ad 16 H.size) Q1) 0 0 (AA ad 16 H.size))
    (kk : ∀ (r : Int32) (M1 : Mem) (H1 : Heap) (locs1 : List Loc), Q1 r M1 → Zz EM T D ad 16 A H0 M1 H1 locs1 → W p l e R s m args below meth c H1 locs1 cells slots QQ (F0 m (pc + 3) ls (.int r :: rest))) : W p l e R s m args below meth c H locs cells slots QQ (F0 m pc ls (.int x2 :: .int x1 :: .ref (ad 0) :: rest)) :=
  k_VW (lv := n + 1) (ci := 12) (n := 2) hB tw_7_70 tw_7_69 tw_s_69 tw_1_12 ⟨rfl, by decide, by decide, by decide +kernel⟩ rfl rfl C hls Z oM hlink hR hcs hcat rfl hdg kk
def Pb_X12_shutsBy (u : Mem → Int32 → Int32 → (Int32 → Mem → Prop) → Prop) (M : Mem) (x1 : Int32) (x2 : Int32) (Q1 : Int32 → Mem → Prop) : Prop :=
  ((x1 = 0 → P_X12_ran M 12 (fun M2 => P_X12_of M2 (M2 0 24) 1 (fun v3 => Q1 (x2 - v3) M2))) ∧
    (x1 = 3 → P_X12_ran M 40 (fun M4 => P_X12_above 3 (fun v5 => u M4 v5 x2 (fun v6 M7 => Q1 (-v6) M7)))) ∧
    (x1 = 6 → P_X12_ran M 70 (fun M8 => P_X12_above 6 (fun v9 => u M8 v9 x2 (fun v10 M11 => Q1 (v10 ^^^ (M11 0 24)) M11)))) ∧
    (¬ x1 = 0 → ¬ x1 = 3 → ¬ x1 = 6 → P_X12_above x1 (fun v12 => u M v12 x2 (fun v13 M14 => Q1 v13 M14))))
set_option maxRecDepth 100000 in
set_option maxHeartbeats 4000000 in
theorem cb_X12_shutsBy {l : Launch} {T : Nat → ClassId} {D : va_G} {ad : Nat → Nat} {u : Mem → Int32 → Int32 → (Int32 → Mem → Prop) → Prop} {M : Mem} {x1 : Int32} {x2 : Int32} {n : Nat} {sz : Nat} {Q1 : Int32 → Mem → Prop} (hu : ∀ (M : Mem) (x1 : Int32) (x2 : Int32) (sz : Nat) (Q1 : Int32 → Mem → Prop), u M x1 x2 Q1 → Met l yX12_shutsBy (Cond.code yX12_shutsBy cX12_shutsBy 3 (some .int) :: TB) (RM (n + 1)) (va_Pc [.ref (ad 0), .int x1, .int x2] (WrP EM T D ad 16 M sz)) (QcW EM T D ad 16 (AA ad 16 sz) Q1) 0 0 (AA ad 16 sz)) (hB : Pb_X12_shutsBy u M x1 x2 Q1) : Met l yX12_shutsBy (Cond.code yX12_shutsBy cX12_shutsBy 3 (some .int) :: TB) (RM (n + 3)) (va_Pc [.ref (ad 0), .int x1, .int x2] (WrP EM T D ad 16 M sz)) (QcW EM T D ad 16 (AA ad 16 sz) Q1) 0 0 (AA ad 16 sz) := by
  refine st_W (by decide) (Nat.le_of_ble_eq_true rfl) (fun p e s m args below meth c ls C hr hlk hsz Z hl => ?_)
  have hl : lv_has ls 3 [(0, .ref (ad 0)), (1, .int x1), (2, .int x2)] := hl
  generalize AA ad 16 sz = A at Z ⊢
  have hx := C.x
  have hb := C.b
  delta Pb_X12_shutsBy at hB
  refine lv_iload_n hx hb dX12_shutsBy_0 rfl (lv_at hl 1 rfl) ?_
  by_cases q1_0 : x1 = 0
  · have hB := hB.1 q1_0
    refine lv_lookup (off := 35) (tgt := 36) hx hb dX12_shutsBy_1 (by decide) (by rw [q1_0]; rfl) (by decide) ?_
    refine lv_aload_n hx hb dX12_shutsBy_36 rfl (lv_at hl 0 rfl) ?_
    refine lv_bipush (v := 12) hx hb dX12_shutsBy_37 (by decide) ?_
    refine v_X12_ran C hl.1 Z tw_7_59 (rmk (by omega) (by omega)) ⟨Nat.le_refl _, Nat.le_refl _⟩ (Nat.le_of_ble_eq_true rfl) dX12_shutsBy_39 hB (fun M2 H locs hB Z => ?_)
    refine lv_iload_n hx hb dX12_shutsBy_42 rfl (lv_at hl 2 rfl) ?_
    refine lv_aload_n hx hb dX12_shutsBy_43 rfl (lv_at hl 0 rfl) ?_
    refine lv_aload_n hx hb dX12_shutsBy_44 rfl (lv_at hl 0 rfl) ?_
    refine gf_X12_24 C Z.1 tw_5_122 dX12_shutsBy_45 ?_
    refine lv_iconst (v := 1) hx hb dX12_shutsBy_48 (by decide) ?_
    refine v_X12_of C hl.1 Z.1 tw_6_133 (rmk (by omega) (by omega)) ⟨Nat.le_refl _, Nat.le_refl _⟩ (Nat.le_of_ble_eq_true rfl) dX12_shutsBy_49 hB (fun v3 hB => ?_)
    refine lv_isub hx hb dX12_shutsBy_52 ?_
    exact e_iW C hr hlk Z dX12_shutsBy_53 hB
  by_cases q1_1 : x1 = 3
  · have hB := hB.2.1 q1_1
    refine lv_lookup (off := 53) (tgt := 54) hx hb dX12_shutsBy_1 (by decide) (by rw [q1_1]; rfl) (by decide) ?_
    refine lv_aload_n hx hb dX12_shutsBy_54 rfl (lv_at hl 0 rfl) ?_
    refine lv_bipush (v := 40) hx hb dX12_shutsBy_55 (by decide) ?_
    refine v_X12_ran C hl.1 Z tw_7_59 (rmk (by omega) (by omega)) ⟨Nat.le_refl _, Nat.le_refl _⟩ (Nat.le_of_ble_eq_true rfl) dX12_shutsBy_57 hB (fun M4 H locs hB Z => ?_)
    refine lv_aload_n hx hb dX12_shutsBy_60 rfl (lv_at hl 0 rfl) ?_
    refine lv_iconst (v := 3) hx hb dX12_shutsBy_61 (by decide) ?_
    refine v_X12_above C.1 hl.1 tw_6_157 (rmk (by omega) (by omega)) ⟨Nat.le_refl _, Nat.le_refl _⟩ (Nat.le_of_ble_eq_true rfl) dX12_shutsBy_62 hB (fun v5 hB => ?_)
    refine lv_iload_n hx hb dX12_shutsBy_65 rfl (lv_at hl 2 rfl) ?_
    refine vm_X12_shutsBy C hl.1 Z tw_7_67 (rmk (by omega) (by omega)) ⟨Nat.le_refl _, Nat.le_refl _⟩ (Nat.le_of_ble_eq_true rfl) dX12_shutsBy_66 (hu _ _ _ _ _ hB) (fun v6 M7 H locs hB Z => ?_)
    refine lv_ineg hx hb dX12_shutsBy_69 ?_
    exact e_iW C hr hlk Z dX12_shutsBy_70 hB
  by_cases q1_2 : x1 = 6
  · have hB := hB.2.2.1 q1_2
    refine lv_lookup (off := 70) (tgt := 71) hx hb dX12_shutsBy_1 (by decide) (by rw [q1_2]; rfl) (by decide) ?_
    refine lv_aload_n hx hb dX12_shutsBy_71 rfl (lv_at hl 0 rfl) ?_
    refine lv_bipush (v := 70) hx hb dX12_shutsBy_72 (by decide) ?_
    refine v_X12_ran C hl.1 Z tw_7_59 (rmk (by omega) (by omega)) ⟨Nat.le_refl _, Nat.le_refl _⟩ (Nat.le_of_ble_eq_true rfl) dX12_shutsBy_74 hB (fun M8 H locs hB Z => ?_)
    refine lv_aload_n hx hb dX12_shutsBy_77 rfl (lv_at hl 0 rfl) ?_
    refine lv_bipush (v := 6) hx hb dX12_shutsBy_78 (by decide) ?_
    refine v_X12_above C.1 hl.1 tw_6_157 (rmk (by omega) (by omega)) ⟨Nat.le_refl _, Nat.le_refl _⟩ (Nat.le_of_ble_eq_true rfl) dX12_shutsBy_80 hB (fun v9 hB => ?_)
    refine lv_iload_n hx hb dX12_shutsBy_83 rfl (lv_at hl 2 rfl) ?_
    refine vm_X12_shutsBy C hl.1 Z tw_7_67 (rmk (by omega) (by omega)) ⟨Nat.le_refl _, Nat.le_refl _⟩ (Nat.le_of_ble_eq_true rfl) dX12_shutsBy_84 (hu _ _ _ _ _ hB) (fun v10 M11 H locs hB Z => ?_)
    refine lv_aload_n hx hb dX12_shutsBy_87 rfl (lv_at hl 0 rfl) ?_
    refine gf_X12_24 C Z.1 tw_5_122 dX12_shutsBy_88 ?_
    refine lv_ixor hx hb dX12_shutsBy_91 ?_
    exact e_iW C hr hlk Z dX12_shutsBy_92 hB
  have hB := hB.2.2.2 q1_0 q1_1 q1_2
  refine lv_lookup (off := 92) (tgt := 93) hx hb dX12_shutsBy_1 (by decide) ((lv_osw (k := 0) q1_0 rfl).trans ((lv_osw (k := 3) q1_1 rfl).trans ((lv_osw (k := 6) q1_2 rfl).trans rfl))) (by decide) ?_
  refine lv_aload_n hx hb dX12_shutsBy_93 rfl (lv_at hl 0 rfl) ?_
  refine lv_iload_n hx hb dX12_shutsBy_94 rfl (lv_at hl 1 rfl) ?_
  refine v_X12_above C.1 hl.1 tw_6_157 (rmk (by omega) (by omega)) ⟨Nat.le_refl _, Nat.le_refl _⟩ (Nat.le_of_ble_eq_true rfl) dX12_shutsBy_95 hB (fun v12 hB => ?_)
  refine lv_iload_n hx hb dX12_shutsBy_98 rfl (lv_at hl 2 rfl) ?_
  refine vm_X12_shutsBy C hl.1 Z tw_7_67 (rmk (by omega) (by omega)) ⟨Nat.le_refl _, Nat.le_refl _⟩ (Nat.le_of_ble_eq_true rfl) dX12_shutsBy_99 (hu _ _ _ _ _ hB) (fun v13 M14 H locs hB Z => ?_)
  exact e_iW C hr hlk Z dX12_shutsBy_102 hB
def P_X12_shutsBy : Nat → Mem → Int32 → Int32 → (Int32 → Mem → Prop) → Prop
  | 0 => fun _ _ _ _ => False
  | n + 1 => Pb_X12_shutsBy (P_X12_shutsBy n)
set_option maxRecDepth 100000 in
set_option maxHeartbeats 4000000 in
theorem c_X12_shutsBy (n : Nat) : ∀ {l : Launch} {T : Nat → ClassId} {D : va_G} {ad : Nat → Nat} {M : Mem} {x1 : Int32} {x2 : Int32} {sz : Nat} {Q1 : Int32 → Mem → Prop}, P_X12_shutsBy n M x1 x2 Q1 → Met l yX12_shutsBy (Cond.code yX12_shutsBy cX12_shutsBy 3 (some .int) :: TB) (RM (2 * n + 1)) (va_Pc [.ref (ad 0), .int x1, .int x2] (WrP EM T D ad 16 M sz)) (QcW EM T D ad 16 (AA ad 16 sz) Q1) 0 0 (AA ad 16 sz) := by
  induction n with
  | zero => intro _ _ _ _ _ _ _ _ _ hB; exact hB.elim
  | succ n ih =>
    intro _ _ _ _ _ _ _ _ _ hB
    have e : 2 * (n + 1) + 1 = 2 * n + 3 := by omega
    rw [e]
    exact cb_X12_shutsBy (n := 2 * n) (u := P_X12_shutsBy n) (fun _ _ _ _ _ h => ih  h)  hB
set_option maxRecDepth 100000 in
set_option maxHeartbeats 4000000 in
theorem v_X12_shutsBy {M : Mem} {x1 : Int32} {x2 : Int32} {Q1 : Int32 → Mem → Prop} (C : Cx T D p s m args c cc nL own) (hls : ls.size = nL) (Z : Zz EM T D ad 16 A H0 M H locs) (hlink : Cond.methodLink own index yX12_shutsBy ∈ TB) (hR : 9 + 1 ≤ R.frames ∧ 8 + (3 + 11) + 48 * 9 ≤ R.locals) (hcs : cells ≤ R.cells ∧ slots ≤ R.slots) (hcat : (rest.map fun v => v.category).sum ≤ 8) (hdg : decode cc pc = .ok (.invokevirtual index, 3)) (hB : P_X12_shutsBy 4 M x1 x2 Q1)
    (kk : ∀ (r : Int32) (M1 : Mem) (H1 : Heap) (locs1 : List Loc), Q1 r M1 → Zz EM T D ad 16 A H0 M1 H1 locs1 → W p l e R s m args below meth c H1 locs1 cells slots QQ (F0 m (pc + 3) ls (.int r :: rest))) : W p l e R s m args below meth c H locs cells slots QQ (F0 m pc ls (.int x2 :: .int x1 :: .ref (ad 0) :: rest)) :=
  k_VW (lv := 9) (ci := 12) (n := 2) (c_X12_shutsBy 4  hB) tw_7_70 tw_7_69 tw_s_69 tw_1_12 ⟨rfl, by decide, by decide, by decide +kernel⟩ rfl rfl C hls Z oM hlink hR hcs hcat rfl hdg kk
set_option maxRecDepth 100000 in
set_option maxHeartbeats 4000000 in
theorem vm_X12_pullsBy {M : Mem} {x1 : Int32} {x2 : Int32} {n : Nat} {Q1 : Int32 → Mem → Prop} (C : Cx T D p s m args c cc nL own) (hls : ls.size = nL) (Z : Zz EM T D ad 16 A H0 M H locs) (hlink : Cond.methodLink own index yX12_pullsBy ∈ TB) (hR : (n + 10) + 1 ≤ R.frames ∧ 8 + (4 + 11) + 48 * (n + 10) ≤ R.locals) (hcs : cells ≤ R.cells ∧ slots ≤ R.slots) (hcat : (rest.map fun v => v.category).sum ≤ 8) (hdg : decode cc pc = .ok (.invokevirtual index, 3)) (hB : Met l yX12_pullsBy (Cond.code yX12_pullsBy cX12_pullsBy 4 (some .int) :: TB) (RM (n + 10)) (va_Pc [.ref (ad 0), .int x1, .int x2] (WrP EM T D ad 16 M H.size)) (QcW EM T D ad 16 (AA ad 16 H.size) Q1) 0 0 (AA ad 16 H.size))
    (kk : ∀ (r : Int32) (M1 : Mem) (H1 : Heap) (locs1 : List Loc), Q1 r M1 → Zz EM T D ad 16 A H0 M1 H1 locs1 → W p l e R s m args below meth c H1 locs1 cells slots QQ (F0 m (pc + 3) ls (.int r :: rest))) : W p l e R s m args below meth c H locs cells slots QQ (F0 m pc ls (.int x2 :: .int x1 :: .ref (ad 0) :: rest)) :=
  k_VW (lv := n + 10) (ci := 12) (n := 2) hB tw_7_66 tw_7_65 tw_s_68 tw_1_12 ⟨rfl, by decide, by decide, by decide +kernel⟩ rfl rfl C hls Z oM hlink hR hcs hcat rfl hdg kk
def B_X12_pullsBy_100 (u : Mem → Int32 → Int32 → (Int32 → Mem → Prop) → Prop) (Q1 : Int32 → Mem → Prop) (x1 : Int32) (x2 : Int32) (M : Mem) : Prop :=
  P_X12_above x1 (fun v17 => u M v17 x2 (fun v18 M19 => Q1 v18 M19))
def Pb_X12_pullsBy (u : Mem → Int32 → Int32 → (Int32 → Mem → Prop) → Prop) (M : Mem) (x1 : Int32) (x2 : Int32) (Q1 : Int32 → Mem → Prop) : Prop :=
  ((x1 = 0 → P_X12_ran M 11 (fun M2 => P_X12_own M2 (fun v3 => P_X12_wakesBy 4 M2 v3 x2 (fun v4 M5 => Q1 (v4 * 2) M5)))) ∧
    (x1 = 1 → P_X12_ran M 20 (fun M6 => P_X12_above 1 (fun v7 => u M6 v7 x2 (fun v8 M9 => P_X12_own M9 (fun v10 => P_X12_shutsBy 4 M9 v10 1 (fun v11 M12 => Q1 (v8 - v11) M12)))))) ∧
    (x1 = 4 → P_X12_ran M 50 (fun M13 => P_X12_above 4 (fun v14 => u M13 v14 (x2 + 1) (fun v15 M16 => Q1 v15 M16)))) ∧
    (¬ x1 = 0 → ¬ x1 = 1 → ¬ x1 = 4 → B_X12_pullsBy_100 u Q1 x1 x2 M))
set_option maxRecDepth 100000 in
set_option maxHeartbeats 4000000 in
theorem w_X12_pullsBy_100 {u : Mem → Int32 → Int32 → (Int32 → Mem → Prop) → Prop} {n : Nat} {M : Mem} {Q1 : Int32 → Mem → Prop} {x1 : Int32} {x2 : Int32} (C : Cx T D p s m args c cX12_pullsBy 4 "OneOfTwoModel") (hr : meth.sig.returnType = (some .int)) (hlk : meth.locks = false) (Z : Zz EM T D ad 16 A s.heap M H locs) (hu : ∀ (M : Mem) (x1 : Int32) (x2 : Int32) (sz : Nat) (Q1 : Int32 → Mem → Prop), u M x1 x2 Q1 → Met l yX12_pullsBy (Cond.code yX12_pullsBy cX12_pullsBy 4 (some .int) :: TB) (RM (n + 10)) (va_Pc [.ref (ad 0), .int x1, .int x2] (WrP EM T D ad 16 M sz)) (QcW EM T D ad 16 (AA ad 16 sz) Q1) 0 0 (AA ad 16 sz)) {ls : Array Slot} (hl : lv_has ls 4 [(0, .ref (ad 0)), (1, .int x1), (2, .int x2)]) (hB : B_X12_pullsBy_100 u Q1 x1 x2 M) : W p l e (RM (n + 12)) s m args below meth c H locs 0 0 (MQ below (QcW EM T D ad 16 A Q1) args s 0 0 A) (F0 m 100 ls []) := by
  have hx := C.x
  have hb := C.b
  delta B_X12_pullsBy_100 at hB
  refine lv_aload_n hx hb dX12_pullsBy_100 rfl (lv_at hl 0 rfl) ?_
  refine lv_iload_n hx hb dX12_pullsBy_101 rfl (lv_at hl 1 rfl) ?_
  refine v_X12_above C.1 hl.1 tw_6_157 (rmk (by omega) (by omega)) ⟨Nat.le_refl _, Nat.le_refl _⟩ (Nat.le_of_ble_eq_true rfl) dX12_pullsBy_102 hB (fun v17 hB => ?_)
  refine lv_iload_n hx hb dX12_pullsBy_105 rfl (lv_at hl 2 rfl) ?_
  refine vm_X12_pullsBy C hl.1 Z tw_7_63 (rmk (by omega) (by omega)) ⟨Nat.le_refl _, Nat.le_refl _⟩ (Nat.le_of_ble_eq_true rfl) dX12_pullsBy_106 (hu _ _ _ _ _ hB) (fun v18 M19 H locs hB Z => ?_)
  exact e_iW C hr hlk Z dX12_pullsBy_109 hB
set_option maxRecDepth 100000 in
set_option maxHeartbeats 4000000 in
theorem cb_X12_pullsBy {l : Launch} {T : Nat → ClassId} {D : va_G} {ad : Nat → Nat} {u : Mem → Int32 → Int32 → (Int32 → Mem → Prop) → Prop} {M : Mem} {x1 : Int32} {x2 : Int32} {n : Nat} {sz : Nat} {Q1 : Int32 → Mem → Prop} (hu : ∀ (M : Mem) (x1 : Int32) (x2 : Int32) (sz : Nat) (Q1 : Int32 → Mem → Prop), u M x1 x2 Q1 → Met l yX12_pullsBy (Cond.code yX12_pullsBy cX12_pullsBy 4 (some .int) :: TB) (RM (n + 10)) (va_Pc [.ref (ad 0), .int x1, .int x2] (WrP EM T D ad 16 M sz)) (QcW EM T D ad 16 (AA ad 16 sz) Q1) 0 0 (AA ad 16 sz)) (hB : Pb_X12_pullsBy u M x1 x2 Q1) : Met l yX12_pullsBy (Cond.code yX12_pullsBy cX12_pullsBy 4 (some .int) :: TB) (RM (n + 12)) (va_Pc [.ref (ad 0), .int x1, .int x2] (WrP EM T D ad 16 M sz)) (QcW EM T D ad 16 (AA ad 16 sz) Q1) 0 0 (AA ad 16 sz) := by
  refine st_W (by decide) (Nat.le_of_ble_eq_true rfl) (fun p e s m args below meth c ls C hr hlk hsz Z hl => ?_)
  have hl : lv_has ls 4 [(0, .ref (ad 0)), (1, .int x1), (2, .int x2)] := hl
  generalize AA ad 16 sz = A at Z ⊢
  have hx := C.x
  have hb := C.b
  delta Pb_X12_pullsBy at hB
  refine lv_iload_n hx hb dX12_pullsBy_0 rfl (lv_at hl 1 rfl) ?_
  by_cases q1_0 : x1 = 0
  · have hB := hB.1 q1_0
    refine lv_tableIn (off := 35) (tgt := 36) hx hb dX12_pullsBy_1 (by rw [q1_0]; decide) (by rw [q1_0]; decide) (by rw [q1_0]; rfl) (by decide) ?_
    refine lv_aload_n hx hb dX12_pullsBy_36 rfl (lv_at hl 0 rfl) ?_
    refine lv_bipush (v := 11) hx hb dX12_pullsBy_37 (by decide) ?_
    refine v_X12_ran C hl.1 Z tw_7_59 (rmk (by omega) (by omega)) ⟨Nat.le_refl _, Nat.le_refl _⟩ (Nat.le_of_ble_eq_true rfl) dX12_pullsBy_39 hB (fun M2 H locs hB Z => ?_)
    refine lv_aload_n hx hb dX12_pullsBy_42 rfl (lv_at hl 0 rfl) ?_
    refine lv_aload_n hx hb dX12_pullsBy_43 rfl (lv_at hl 0 rfl) ?_
    refine v_X12_own C hl.1 Z.1 tw_7_51 (rmk (by omega) (by omega)) ⟨Nat.le_refl _, Nat.le_refl _⟩ (Nat.le_of_ble_eq_true rfl) dX12_pullsBy_44 hB (fun v3 hB => ?_)
    refine lv_iload_n hx hb dX12_pullsBy_47 rfl (lv_at hl 2 rfl) ?_
    refine v_X12_wakesBy C hl.1 Z tw_7_55 (rmk (by omega) (by omega)) ⟨Nat.le_refl _, Nat.le_refl _⟩ (Nat.le_of_ble_eq_true rfl) dX12_pullsBy_48 hB (fun v4 M5 H locs hB Z => ?_)
    refine lv_iconst (v := 2) hx hb dX12_pullsBy_51 (by decide) ?_
    refine lv_imul hx hb dX12_pullsBy_52 ?_
    exact e_iW C hr hlk Z dX12_pullsBy_53 hB
  by_cases q1_1 : x1 = 1
  · have hB := hB.2.1 q1_1
    refine lv_tableIn (off := 53) (tgt := 54) hx hb dX12_pullsBy_1 (by rw [q1_1]; decide) (by rw [q1_1]; decide) (by rw [q1_1]; rfl) (by decide) ?_
    refine lv_aload_n hx hb dX12_pullsBy_54 rfl (lv_at hl 0 rfl) ?_
    refine lv_bipush (v := 20) hx hb dX12_pullsBy_55 (by decide) ?_
    refine v_X12_ran C hl.1 Z tw_7_59 (rmk (by omega) (by omega)) ⟨Nat.le_refl _, Nat.le_refl _⟩ (Nat.le_of_ble_eq_true rfl) dX12_pullsBy_57 hB (fun M6 H locs hB Z => ?_)
    refine lv_aload_n hx hb dX12_pullsBy_60 rfl (lv_at hl 0 rfl) ?_
    refine lv_iconst (v := 1) hx hb dX12_pullsBy_61 (by decide) ?_
    refine v_X12_above C.1 hl.1 tw_6_157 (rmk (by omega) (by omega)) ⟨Nat.le_refl _, Nat.le_refl _⟩ (Nat.le_of_ble_eq_true rfl) dX12_pullsBy_62 hB (fun v7 hB => ?_)
    refine lv_iload_n hx hb dX12_pullsBy_65 rfl (lv_at hl 2 rfl) ?_
    refine vm_X12_pullsBy C hl.1 Z tw_7_63 (rmk (by omega) (by omega)) ⟨Nat.le_refl _, Nat.le_refl _⟩ (Nat.le_of_ble_eq_true rfl) dX12_pullsBy_66 (hu _ _ _ _ _ hB) (fun v8 M9 H locs hB Z => ?_)
    refine lv_istore_n (lv' := [(3, .int v8), (0, .ref (ad 0)), (1, .int x1), (2, .int x2)]) hx hb dX12_pullsBy_69 rfl hl (by decide) rfl (fun ls hl => ?_)
    refine lv_iload_n hx hb dX12_pullsBy_70 rfl (lv_at hl 0 rfl) ?_
    refine lv_aload_n hx hb dX12_pullsBy_71 rfl (lv_at hl 1 rfl) ?_
    refine lv_aload_n hx hb dX12_pullsBy_72 rfl (lv_at hl 1 rfl) ?_
    refine v_X12_own C hl.1 Z.1 tw_7_51 (rmk (by omega) (by omega)) ⟨Nat.le_refl _, Nat.le_refl _⟩ (Nat.le_of_ble_eq_true rfl) dX12_pullsBy_73 hB (fun v10 hB => ?_)
    refine lv_iconst (v := 1) hx hb dX12_pullsBy_76 (by decide) ?_
    refine v_X12_shutsBy C hl.1 Z tw_7_67 (rmk (by omega) (by omega)) ⟨Nat.le_refl _, Nat.le_refl _⟩ (Nat.le_of_ble_eq_true rfl) dX12_pullsBy_77 hB (fun v11 M12 H locs hB Z => ?_)
    refine lv_isub hx hb dX12_pullsBy_80 ?_
    exact e_iW C hr hlk Z dX12_pullsBy_81 hB
  by_cases q1_2 : x1 = 4
  · have hB := hB.2.2.1 q1_2
    refine lv_tableIn (off := 81) (tgt := 82) hx hb dX12_pullsBy_1 (by rw [q1_2]; decide) (by rw [q1_2]; decide) (by rw [q1_2]; rfl) (by decide) ?_
    refine lv_aload_n hx hb dX12_pullsBy_82 rfl (lv_at hl 0 rfl) ?_
    refine lv_bipush (v := 50) hx hb dX12_pullsBy_83 (by decide) ?_
    refine v_X12_ran C hl.1 Z tw_7_59 (rmk (by omega) (by omega)) ⟨Nat.le_refl _, Nat.le_refl _⟩ (Nat.le_of_ble_eq_true rfl) dX12_pullsBy_85 hB (fun M13 H locs hB Z => ?_)
    refine lv_aload_n hx hb dX12_pullsBy_88 rfl (lv_at hl 0 rfl) ?_
    refine lv_iconst (v := 4) hx hb dX12_pullsBy_89 (by decide) ?_
    refine v_X12_above C.1 hl.1 tw_6_157 (rmk (by omega) (by omega)) ⟨Nat.le_refl _, Nat.le_refl _⟩ (Nat.le_of_ble_eq_true rfl) dX12_pullsBy_90 hB (fun v14 hB => ?_)
    refine lv_iload_n hx hb dX12_pullsBy_93 rfl (lv_at hl 2 rfl) ?_
    refine lv_iconst (v := 1) hx hb dX12_pullsBy_94 (by decide) ?_
    refine lv_iadd hx hb dX12_pullsBy_95 ?_
    refine vm_X12_pullsBy C hl.1 Z tw_7_63 (rmk (by omega) (by omega)) ⟨Nat.le_refl _, Nat.le_refl _⟩ (Nat.le_of_ble_eq_true rfl) dX12_pullsBy_96 (hu _ _ _ _ _ hB) (fun v15 M16 H locs hB Z => ?_)
    exact e_iW C hr hlk Z dX12_pullsBy_99 hB
  have hB := hB.2.2.2 q1_0 q1_1 q1_2
  by_cases q1_g2 : x1 = 2
  · refine lv_tableIn (off := 99) (tgt := 100) hx hb dX12_pullsBy_1 (by rw [q1_g2]; decide) (by rw [q1_g2]; decide) (by rw [q1_g2]; rfl) (by decide) ?_
    exact w_X12_pullsBy_100 C hr hlk Z hu (lv_sub hl [0, 1, 2] rfl) hB
  by_cases q1_g3 : x1 = 3
  · refine lv_tableIn (off := 99) (tgt := 100) hx hb dX12_pullsBy_1 (by rw [q1_g3]; decide) (by rw [q1_g3]; decide) (by rw [q1_g3]; rfl) (by decide) ?_
    exact w_X12_pullsBy_100 C hr hlk Z hu (lv_sub hl [0, 1, 2] rfl) hB
  refine lv_tableOut (tgt := 100) hx hb dX12_pullsBy_1 (sw_out 0 4 5 (by decide) (lt_s (lt_s (lt_s (lt_s (lt_s lt_0 q1_0) q1_1) q1_g2) q1_g3) q1_2)) (by decide) ?_
  exact w_X12_pullsBy_100 C hr hlk Z hu (lv_sub hl [0, 1, 2] rfl) hB
def P_X12_pullsBy : Nat → Mem → Int32 → Int32 → (Int32 → Mem → Prop) → Prop
  | 0 => fun _ _ _ _ => False
  | n + 1 => Pb_X12_pullsBy (P_X12_pullsBy n)
set_option maxRecDepth 100000 in
set_option maxHeartbeats 4000000 in
theorem c_X12_pullsBy (n : Nat) : ∀ {l : Launch} {T : Nat → ClassId} {D : va_G} {ad : Nat → Nat} {M : Mem} {x1 : Int32} {x2 : Int32} {sz : Nat} {Q1 : Int32 → Mem → Prop}, P_X12_pullsBy n M x1 x2 Q1 → Met l yX12_pullsBy (Cond.code yX12_pullsBy cX12_pullsBy 4 (some .int) :: TB) (RM (2 * n + 10)) (va_Pc [.ref (ad 0), .int x1, .int x2] (WrP EM T D ad 16 M sz)) (QcW EM T D ad 16 (AA ad 16 sz) Q1) 0 0 (AA ad 16 sz) := by
  induction n with
  | zero => intro _ _ _ _ _ _ _ _ _ hB; exact hB.elim
  | succ n ih =>
    intro _ _ _ _ _ _ _ _ _ hB
    have e : 2 * (n + 1) + 10 = 2 * n + 12 := by omega
    rw [e]
    exact cb_X12_pullsBy (n := 2 * n) (u := P_X12_pullsBy n) (fun _ _ _ _ _ h => ih  h)  hB
set_option maxRecDepth 100000 in
set_option maxHeartbeats 4000000 in
theorem v_X12_pullsBy {M : Mem} {x1 : Int32} {x2 : Int32} {Q1 : Int32 → Mem → Prop} (C : Cx T D p s m args c cc nL own) (hls : ls.size = nL) (Z : Zz EM T D ad 16 A H0 M H locs) (hlink : Cond.methodLink own index yX12_pullsBy ∈ TB) (hR : 18 + 1 ≤ R.frames ∧ 8 + (4 + 11) + 48 * 18 ≤ R.locals) (hcs : cells ≤ R.cells ∧ slots ≤ R.slots) (hcat : (rest.map fun v => v.category).sum ≤ 8) (hdg : decode cc pc = .ok (.invokevirtual index, 3)) (hB : P_X12_pullsBy 4 M x1 x2 Q1)
    (kk : ∀ (r : Int32) (M1 : Mem) (H1 : Heap) (locs1 : List Loc), Q1 r M1 → Zz EM T D ad 16 A H0 M1 H1 locs1 → W p l e R s m args below meth c H1 locs1 cells slots QQ (F0 m (pc + 3) ls (.int r :: rest))) : W p l e R s m args below meth c H locs cells slots QQ (F0 m pc ls (.int x2 :: .int x1 :: .ref (ad 0) :: rest)) :=
  k_VW (lv := 18) (ci := 12) (n := 2) (c_X12_pullsBy 4  hB) tw_7_66 tw_7_65 tw_s_68 tw_1_12 ⟨rfl, by decide, by decide, by decide +kernel⟩ rfl rfl C hls Z oM hlink hR hcs hcat rfl hdg kk
set_option maxRecDepth 100000 in
set_option maxHeartbeats 4000000 in
theorem vm_X12_tellsBy {M : Mem} {x1 : Int32} {x2 : Int32} {n : Nat} {Q1 : Int32 → Mem → Prop} (C : Cx T D p s m args c cc nL own) (hls : ls.size = nL) (Z : Zz EM T D ad 16 A H0 M H locs) (hlink : Cond.methodLink own index yX12_tellsBy ∈ TB) (hR : (n + 20) + 1 ≤ R.frames ∧ 8 + (4 + 11) + 48 * (n + 20) ≤ R.locals) (hcs : cells ≤ R.cells ∧ slots ≤ R.slots) (hcat : (rest.map fun v => v.category).sum ≤ 8) (hdg : decode cc pc = .ok (.invokevirtual index, 3)) (hB : Met l yX12_tellsBy (Cond.code yX12_tellsBy cX12_tellsBy 4 (some .int) :: TB) (RM (n + 20)) (va_Pc [.ref (ad 0), .int x1, .int x2] (WrP EM T D ad 16 M H.size)) (QcW EM T D ad 16 (AA ad 16 H.size) Q1) 0 0 (AA ad 16 H.size))
    (kk : ∀ (r : Int32) (M1 : Mem) (H1 : Heap) (locs1 : List Loc), Q1 r M1 → Zz EM T D ad 16 A H0 M1 H1 locs1 → W p l e R s m args below meth c H1 locs1 cells slots QQ (F0 m (pc + 3) ls (.int r :: rest))) : W p l e R s m args below meth c H locs cells slots QQ (F0 m pc ls (.int x2 :: .int x1 :: .ref (ad 0) :: rest)) :=
  k_VW (lv := n + 20) (ci := 12) (n := 2) hB tw_7_74 tw_7_73 tw_s_70 tw_1_12 ⟨rfl, by decide, by decide, by decide +kernel⟩ rfl rfl C hls Z oM hlink hR hcs hcat rfl hdg kk
def Pb_X12_tellsBy (u : Mem → Int32 → Int32 → (Int32 → Mem → Prop) → Prop) (M : Mem) (x1 : Int32) (x2 : Int32) (Q1 : Int32 → Mem → Prop) : Prop :=
  ((x1 = 0 → P_X12_ran M 13 (fun M2 => P_X12_own M2 (fun v3 => P_X12_pullsBy 4 M2 v3 x2 (fun v4 M5 => P_X12_own M5 (fun v6 => P_X12_shutsBy 4 M5 v6 x2 (fun v7 M8 => Q1 (v4 ^^^ v7) M8)))))) ∧
    (x1 = 5 → P_X12_ran M 60 (fun M9 => P_X12_above 5 (fun v10 => u M9 v10 x2 (fun v11 M12 => P_X12_own M12 (fun v13 => P_X12_wakesBy 4 M12 v13 2 (fun v14 M15 => Q1 (v11 - v14) M15)))))) ∧
    (x1 = 6 → P_X12_ran M 71 (fun M16 => P_X12_own M16 (fun v17 => P_X12_pullsBy 4 M16 v17 x2 (fun v18 M19 => P_X12_above 6 (fun v20 => u M19 v20 x2 (fun v21 M22 => Q1 (v18 - v21) M22)))))) ∧
    (¬ x1 = 0 → ¬ x1 = 5 → ¬ x1 = 6 → P_X12_above x1 (fun v23 => u M v23 x2 (fun v24 M25 => Q1 v24 M25))))
set_option maxRecDepth 100000 in
set_option maxHeartbeats 4000000 in
theorem cb_X12_tellsBy {l : Launch} {T : Nat → ClassId} {D : va_G} {ad : Nat → Nat} {u : Mem → Int32 → Int32 → (Int32 → Mem → Prop) → Prop} {M : Mem} {x1 : Int32} {x2 : Int32} {n : Nat} {sz : Nat} {Q1 : Int32 → Mem → Prop} (hu : ∀ (M : Mem) (x1 : Int32) (x2 : Int32) (sz : Nat) (Q1 : Int32 → Mem → Prop), u M x1 x2 Q1 → Met l yX12_tellsBy (Cond.code yX12_tellsBy cX12_tellsBy 4 (some .int) :: TB) (RM (n + 20)) (va_Pc [.ref (ad 0), .int x1, .int x2] (WrP EM T D ad 16 M sz)) (QcW EM T D ad 16 (AA ad 16 sz) Q1) 0 0 (AA ad 16 sz)) (hB : Pb_X12_tellsBy u M x1 x2 Q1) : Met l yX12_tellsBy (Cond.code yX12_tellsBy cX12_tellsBy 4 (some .int) :: TB) (RM (n + 22)) (va_Pc [.ref (ad 0), .int x1, .int x2] (WrP EM T D ad 16 M sz)) (QcW EM T D ad 16 (AA ad 16 sz) Q1) 0 0 (AA ad 16 sz) := by
  refine st_W (by decide) (Nat.le_of_ble_eq_true rfl) (fun p e s m args below meth c ls C hr hlk hsz Z hl => ?_)
  have hl : lv_has ls 4 [(0, .ref (ad 0)), (1, .int x1), (2, .int x2)] := hl
  generalize AA ad 16 sz = A at Z ⊢
  have hx := C.x
  have hb := C.b
  delta Pb_X12_tellsBy at hB
  refine lv_iload_n hx hb dX12_tellsBy_0 rfl (lv_at hl 1 rfl) ?_
  by_cases q1_0 : x1 = 0
  · have hB := hB.1 q1_0
    refine lv_lookup (off := 35) (tgt := 36) hx hb dX12_tellsBy_1 (by decide) (by rw [q1_0]; rfl) (by decide) ?_
    refine lv_aload_n hx hb dX12_tellsBy_36 rfl (lv_at hl 0 rfl) ?_
    refine lv_bipush (v := 13) hx hb dX12_tellsBy_37 (by decide) ?_
    refine v_X12_ran C hl.1 Z tw_7_59 (rmk (by omega) (by omega)) ⟨Nat.le_refl _, Nat.le_refl _⟩ (Nat.le_of_ble_eq_true rfl) dX12_tellsBy_39 hB (fun M2 H locs hB Z => ?_)
    refine lv_aload_n hx hb dX12_tellsBy_42 rfl (lv_at hl 0 rfl) ?_
    refine lv_aload_n hx hb dX12_tellsBy_43 rfl (lv_at hl 0 rfl) ?_
    refine v_X12_own C hl.1 Z.1 tw_7_51 (rmk (by omega) (by omega)) ⟨Nat.le_refl _, Nat.le_refl _⟩ (Nat.le_of_ble_eq_true rfl) dX12_tellsBy_44 hB (fun v3 hB => ?_)
    refine lv_iload_n hx hb dX12_tellsBy_47 rfl (lv_at hl 2 rfl) ?_
    refine v_X12_pullsBy C hl.1 Z tw_7_63 (rmk (by omega) (by omega)) ⟨Nat.le_refl _, Nat.le_refl _⟩ (Nat.le_of_ble_eq_true rfl) dX12_tellsBy_48 hB (fun v4 M5 H locs hB Z => ?_)
    refine lv_istore_n (lv' := [(3, .int v4), (0, .ref (ad 0)), (1, .int x1), (2, .int x2)]) hx hb dX12_tellsBy_51 rfl hl (by decide) rfl (fun ls hl => ?_)
    refine lv_iload_n hx hb dX12_tellsBy_52 rfl (lv_at hl 0 rfl) ?_
    refine lv_aload_n hx hb dX12_tellsBy_53 rfl (lv_at hl 1 rfl) ?_
    refine lv_aload_n hx hb dX12_tellsBy_54 rfl (lv_at hl 1 rfl) ?_
    refine v_X12_own C hl.1 Z.1 tw_7_51 (rmk (by omega) (by omega)) ⟨Nat.le_refl _, Nat.le_refl _⟩ (Nat.le_of_ble_eq_true rfl) dX12_tellsBy_55 hB (fun v6 hB => ?_)
    refine lv_iload_n hx hb dX12_tellsBy_58 rfl (lv_at hl 3 rfl) ?_
    refine v_X12_shutsBy C hl.1 Z tw_7_67 (rmk (by omega) (by omega)) ⟨Nat.le_refl _, Nat.le_refl _⟩ (Nat.le_of_ble_eq_true rfl) dX12_tellsBy_59 hB (fun v7 M8 H locs hB Z => ?_)
    refine lv_ixor hx hb dX12_tellsBy_62 ?_
    exact e_iW C hr hlk Z dX12_tellsBy_63 hB
  by_cases q1_1 : x1 = 5
  · have hB := hB.2.1 q1_1
    refine lv_lookup (off := 63) (tgt := 64) hx hb dX12_tellsBy_1 (by decide) (by rw [q1_1]; rfl) (by decide) ?_
    refine lv_aload_n hx hb dX12_tellsBy_64 rfl (lv_at hl 0 rfl) ?_
    refine lv_bipush (v := 60) hx hb dX12_tellsBy_65 (by decide) ?_
    refine v_X12_ran C hl.1 Z tw_7_59 (rmk (by omega) (by omega)) ⟨Nat.le_refl _, Nat.le_refl _⟩ (Nat.le_of_ble_eq_true rfl) dX12_tellsBy_67 hB (fun M9 H locs hB Z => ?_)
    refine lv_aload_n hx hb dX12_tellsBy_70 rfl (lv_at hl 0 rfl) ?_
    refine lv_iconst (v := 5) hx hb dX12_tellsBy_71 (by decide) ?_
    refine v_X12_above C.1 hl.1 tw_6_157 (rmk (by omega) (by omega)) ⟨Nat.le_refl _, Nat.le_refl _⟩ (Nat.le_of_ble_eq_true rfl) dX12_tellsBy_72 hB (fun v10 hB => ?_)
    refine lv_iload_n hx hb dX12_tellsBy_75 rfl (lv_at hl 2 rfl) ?_
    refine vm_X12_tellsBy C hl.1 Z tw_7_71 (rmk (by omega) (by omega)) ⟨Nat.le_refl _, Nat.le_refl _⟩ (Nat.le_of_ble_eq_true rfl) dX12_tellsBy_76 (hu _ _ _ _ _ hB) (fun v11 M12 H locs hB Z => ?_)
    refine lv_istore_n (lv' := [(3, .int v11), (0, .ref (ad 0)), (1, .int x1), (2, .int x2)]) hx hb dX12_tellsBy_79 rfl hl (by decide) rfl (fun ls hl => ?_)
    refine lv_iload_n hx hb dX12_tellsBy_80 rfl (lv_at hl 0 rfl) ?_
    refine lv_aload_n hx hb dX12_tellsBy_81 rfl (lv_at hl 1 rfl) ?_
    refine lv_aload_n hx hb dX12_tellsBy_82 rfl (lv_at hl 1 rfl) ?_
    refine v_X12_own C hl.1 Z.1 tw_7_51 (rmk (by omega) (by omega)) ⟨Nat.le_refl _, Nat.le_refl _⟩ (Nat.le_of_ble_eq_true rfl) dX12_tellsBy_83 hB (fun v13 hB => ?_)
    refine lv_iconst (v := 2) hx hb dX12_tellsBy_86 (by decide) ?_
    refine v_X12_wakesBy C hl.1 Z tw_7_55 (rmk (by omega) (by omega)) ⟨Nat.le_refl _, Nat.le_refl _⟩ (Nat.le_of_ble_eq_true rfl) dX12_tellsBy_87 hB (fun v14 M15 H locs hB Z => ?_)
    refine lv_isub hx hb dX12_tellsBy_90 ?_
    exact e_iW C hr hlk Z dX12_tellsBy_91 hB
  by_cases q1_2 : x1 = 6
  · have hB := hB.2.2.1 q1_2
    refine lv_lookup (off := 91) (tgt := 92) hx hb dX12_tellsBy_1 (by decide) (by rw [q1_2]; rfl) (by decide) ?_
    refine lv_aload_n hx hb dX12_tellsBy_92 rfl (lv_at hl 0 rfl) ?_
    refine lv_bipush (v := 71) hx hb dX12_tellsBy_93 (by decide) ?_
    refine v_X12_ran C hl.1 Z tw_7_59 (rmk (by omega) (by omega)) ⟨Nat.le_refl _, Nat.le_refl _⟩ (Nat.le_of_ble_eq_true rfl) dX12_tellsBy_95 hB (fun M16 H locs hB Z => ?_)
    refine lv_aload_n hx hb dX12_tellsBy_98 rfl (lv_at hl 0 rfl) ?_
    refine lv_aload_n hx hb dX12_tellsBy_99 rfl (lv_at hl 0 rfl) ?_
    refine v_X12_own C hl.1 Z.1 tw_7_51 (rmk (by omega) (by omega)) ⟨Nat.le_refl _, Nat.le_refl _⟩ (Nat.le_of_ble_eq_true rfl) dX12_tellsBy_100 hB (fun v17 hB => ?_)
    refine lv_iload_n hx hb dX12_tellsBy_103 rfl (lv_at hl 2 rfl) ?_
    refine v_X12_pullsBy C hl.1 Z tw_7_63 (rmk (by omega) (by omega)) ⟨Nat.le_refl _, Nat.le_refl _⟩ (Nat.le_of_ble_eq_true rfl) dX12_tellsBy_104 hB (fun v18 M19 H locs hB Z => ?_)
    refine lv_istore_n (lv' := [(3, .int v18), (0, .ref (ad 0)), (1, .int x1), (2, .int x2)]) hx hb dX12_tellsBy_107 rfl hl (by decide) rfl (fun ls hl => ?_)
    refine lv_iload_n hx hb dX12_tellsBy_108 rfl (lv_at hl 0 rfl) ?_
    refine lv_aload_n hx hb dX12_tellsBy_109 rfl (lv_at hl 1 rfl) ?_
    refine lv_bipush (v := 6) hx hb dX12_tellsBy_110 (by decide) ?_
    refine v_X12_above C.1 hl.1 tw_6_157 (rmk (by omega) (by omega)) ⟨Nat.le_refl _, Nat.le_refl _⟩ (Nat.le_of_ble_eq_true rfl) dX12_tellsBy_112 hB (fun v20 hB => ?_)
    refine lv_iload_n hx hb dX12_tellsBy_115 rfl (lv_at hl 3 rfl) ?_
    refine vm_X12_tellsBy C hl.1 Z tw_7_71 (rmk (by omega) (by omega)) ⟨Nat.le_refl _, Nat.le_refl _⟩ (Nat.le_of_ble_eq_true rfl) dX12_tellsBy_116 (hu _ _ _ _ _ hB) (fun v21 M22 H locs hB Z => ?_)
    refine lv_isub hx hb dX12_tellsBy_119 ?_
    exact e_iW C hr hlk Z dX12_tellsBy_120 hB
  have hB := hB.2.2.2 q1_0 q1_1 q1_2
  refine lv_lookup (off := 120) (tgt := 121) hx hb dX12_tellsBy_1 (by decide) ((lv_osw (k := 0) q1_0 rfl).trans ((lv_osw (k := 5) q1_1 rfl).trans ((lv_osw (k := 6) q1_2 rfl).trans rfl))) (by decide) ?_
  refine lv_aload_n hx hb dX12_tellsBy_121 rfl (lv_at hl 0 rfl) ?_
  refine lv_iload_n hx hb dX12_tellsBy_122 rfl (lv_at hl 1 rfl) ?_
  refine v_X12_above C.1 hl.1 tw_6_157 (rmk (by omega) (by omega)) ⟨Nat.le_refl _, Nat.le_refl _⟩ (Nat.le_of_ble_eq_true rfl) dX12_tellsBy_123 hB (fun v23 hB => ?_)
  refine lv_iload_n hx hb dX12_tellsBy_126 rfl (lv_at hl 2 rfl) ?_
  refine vm_X12_tellsBy C hl.1 Z tw_7_71 (rmk (by omega) (by omega)) ⟨Nat.le_refl _, Nat.le_refl _⟩ (Nat.le_of_ble_eq_true rfl) dX12_tellsBy_127 (hu _ _ _ _ _ hB) (fun v24 M25 H locs hB Z => ?_)
  exact e_iW C hr hlk Z dX12_tellsBy_130 hB
def P_X12_tellsBy : Nat → Mem → Int32 → Int32 → (Int32 → Mem → Prop) → Prop
  | 0 => fun _ _ _ _ => False
  | n + 1 => Pb_X12_tellsBy (P_X12_tellsBy n)
set_option maxRecDepth 100000 in
set_option maxHeartbeats 4000000 in
theorem c_X12_tellsBy (n : Nat) : ∀ {l : Launch} {T : Nat → ClassId} {D : va_G} {ad : Nat → Nat} {M : Mem} {x1 : Int32} {x2 : Int32} {sz : Nat} {Q1 : Int32 → Mem → Prop}, P_X12_tellsBy n M x1 x2 Q1 → Met l yX12_tellsBy (Cond.code yX12_tellsBy cX12_tellsBy 4 (some .int) :: TB) (RM (2 * n + 20)) (va_Pc [.ref (ad 0), .int x1, .int x2] (WrP EM T D ad 16 M sz)) (QcW EM T D ad 16 (AA ad 16 sz) Q1) 0 0 (AA ad 16 sz) := by
  induction n with
  | zero => intro _ _ _ _ _ _ _ _ _ hB; exact hB.elim
  | succ n ih =>
    intro _ _ _ _ _ _ _ _ _ hB
    have e : 2 * (n + 1) + 20 = 2 * n + 22 := by omega
    rw [e]
    exact cb_X12_tellsBy (n := 2 * n) (u := P_X12_tellsBy n) (fun _ _ _ _ _ h => ih  h)  hB
set_option maxRecDepth 100000 in
set_option maxHeartbeats 4000000 in
theorem v_X12_tellsBy {M : Mem} {x1 : Int32} {x2 : Int32} {Q1 : Int32 → Mem → Prop} (C : Cx T D p s m args c cc nL own) (hls : ls.size = nL) (Z : Zz EM T D ad 16 A H0 M H locs) (hlink : Cond.methodLink own index yX12_tellsBy ∈ TB) (hR : 28 + 1 ≤ R.frames ∧ 8 + (4 + 11) + 48 * 28 ≤ R.locals) (hcs : cells ≤ R.cells ∧ slots ≤ R.slots) (hcat : (rest.map fun v => v.category).sum ≤ 8) (hdg : decode cc pc = .ok (.invokevirtual index, 3)) (hB : P_X12_tellsBy 4 M x1 x2 Q1)
    (kk : ∀ (r : Int32) (M1 : Mem) (H1 : Heap) (locs1 : List Loc), Q1 r M1 → Zz EM T D ad 16 A H0 M1 H1 locs1 → W p l e R s m args below meth c H1 locs1 cells slots QQ (F0 m (pc + 3) ls (.int r :: rest))) : W p l e R s m args below meth c H locs cells slots QQ (F0 m pc ls (.int x2 :: .int x1 :: .ref (ad 0) :: rest)) :=
  k_VW (lv := 28) (ci := 12) (n := 2) (c_X12_tellsBy 4  hB) tw_7_74 tw_7_73 tw_s_70 tw_1_12 ⟨rfl, by decide, by decide, by decide +kernel⟩ rfl rfl C hls Z oM hlink hR hcs hcat rfl hdg kk
def P_X12_voice (M : Mem) (x1 : Int32) (x2 : Int32) (x3 : Int32) (Q1 : Int32 → Mem → Prop) : Prop :=
  P_X12_isLodger M x1 (fun v1 => ((v1 = 0 → P_X12_finds M 1 (fun v3 M4 => Q1 v3 M4)) ∧
    (¬ v1 = 0 → P_X12_in (x2.toInt64) 0 3 (fun v5 => ((¬ v5 = 0 → ∀ M7 : Mem, M7 = sf M 0 23 0 → ∀ M8 : Mem, M8 = sf M7 0 24 x1 → P_X12_own M8 (fun v9 => ((¬ x2 = 0 → ((¬ x2 = 1 → ((¬ x2 = 2 → P_X12_tellsBy 4 M8 v9 x3 (fun v13 M14 => Q1 v13 M14)) ∧
            (x2 = 2 → P_X12_shutsBy 4 M8 v9 x3 (fun v15 M16 => Q1 v15 M16)))) ∧
          (x2 = 1 → P_X12_pullsBy 4 M8 v9 x3 (fun v17 M18 => Q1 v17 M18)))) ∧
        (x2 = 0 → P_X12_wakesBy 4 M8 v9 x3 (fun v19 M20 => Q1 v19 M20))))) ∧
      (v5 = 0 → P_X12_finds M 1 (fun v21 M22 => Q1 v21 M22)))))))
set_option maxRecDepth 100000 in
set_option maxHeartbeats 4000000 in
theorem c_X12_voice {l : Launch} {T : Nat → ClassId} {D : va_G} {ad : Nat → Nat} {M : Mem} {x1 : Int32} {x2 : Int32} {x3 : Int32} {sz : Nat} {Q1 : Int32 → Mem → Prop} (hB : P_X12_voice M x1 x2 x3 Q1) : Met l yX12_voice (Cond.code yX12_voice cX12_voice 5 (some .int) :: TB) (RM 29) (va_Pc [.ref (ad 0), .int x1, .int x2, .int x3] (WrP EM T D ad 16 M sz)) (QcW EM T D ad 16 (AA ad 16 sz) Q1) 0 0 (AA ad 16 sz) := by
  refine st_W (by decide) (Nat.le_of_ble_eq_true rfl) (fun p e s m args below meth c ls C hr hlk hsz Z hl => ?_)
  have hl : lv_has ls 5 [(0, .ref (ad 0)), (1, .int x1), (2, .int x2), (3, .int x3)] := hl
  generalize AA ad 16 sz = A at Z ⊢
  have hx := C.x
  have hb := C.b
  delta P_X12_voice at hB
  refine lv_aload_n hx hb dX12_voice_0 rfl (lv_at hl 0 rfl) ?_
  refine lv_iload_n hx hb dX12_voice_1 rfl (lv_at hl 1 rfl) ?_
  refine v_X12_isLodger C hl.1 Z.1 tw_6_124 ⟨Nat.le_of_ble_eq_true rfl, Nat.le_of_ble_eq_true rfl⟩ ⟨Nat.le_refl _, Nat.le_refl _⟩ (Nat.le_of_ble_eq_true rfl) dX12_voice_2 hB (fun v1 hB => ?_)
  refine lv_if_eq (tgt := 20) hx hb dX12_voice_5 (by decide) (fun q2 => ?_) (fun q2 => ?_)
  · have hB := hB.1 q2
    refine lv_aload_n hx hb dX12_voice_20 rfl (lv_at hl 0 rfl) ?_
    refine lv_iconst (v := 1) hx hb dX12_voice_21 (by decide) ?_
    refine v_X12_finds C hl.1 Z tw_5_194 ⟨Nat.le_of_ble_eq_true rfl, Nat.le_of_ble_eq_true rfl⟩ ⟨Nat.le_refl _, Nat.le_refl _⟩ (Nat.le_of_ble_eq_true rfl) dX12_voice_22 hB (fun v3 M4 H locs hB Z => ?_)
    exact e_iW C hr hlk Z dX12_voice_25 hB
  · have hB := hB.2 q2
    refine lv_iload_n hx hb dX12_voice_8 rfl (lv_at hl 2 rfl) ?_
    refine lv_i2l hx hb dX12_voice_9 rfl ?_
    refine lv_lconst (v := 0) hx hb dX12_voice_10 (by decide) ?_
    refine lv_ldc2 hx hb C.1.2.2.2.1 (C.1.2.2.2.2 _ tw_6_38) dX12_voice_11 ?_
    refine v_X12_in C.1 hl.1 tw_5_191 ⟨Nat.le_of_ble_eq_true rfl, Nat.le_of_ble_eq_true rfl⟩ ⟨Nat.le_refl _, Nat.le_refl _⟩ (Nat.le_of_ble_eq_true rfl) dX12_voice_14 hB (fun v5 hB => ?_)
    refine lv_if_ne (tgt := 26) hx hb dX12_voice_17 (by decide) (fun q6 => ?_) (fun q6 => ?_)
    · have hB := hB.1 q6
      refine lv_aload_n hx hb dX12_voice_26 rfl (lv_at hl 0 rfl) ?_
      refine lv_iconst (v := 0) hx hb dX12_voice_27 (by decide) ?_
      refine pf_X12_23 C Z tw_5_121 dX12_voice_28 (fun M7 H locs eM7 Z => ?_)
      have hB := hB M7 eM7
      refine lv_aload_n hx hb dX12_voice_31 rfl (lv_at hl 0 rfl) ?_
      refine lv_iload_n hx hb dX12_voice_32 rfl (lv_at hl 1 rfl) ?_
      refine pf_X12_24 C Z tw_5_122 dX12_voice_33 (fun M8 H locs eM8 Z => ?_)
      have hB := hB M8 eM8
      refine lv_aload_n hx hb dX12_voice_36 rfl (lv_at hl 0 rfl) ?_
      refine v_X12_own C hl.1 Z.1 tw_7_51 ⟨Nat.le_of_ble_eq_true rfl, Nat.le_of_ble_eq_true rfl⟩ ⟨Nat.le_refl _, Nat.le_refl _⟩ (Nat.le_of_ble_eq_true rfl) dX12_voice_37 hB (fun v9 hB => ?_)
      refine lv_istore (lv' := [(4, .int v9), (0, .ref (ad 0)), (1, .int x1), (2, .int x2), (3, .int x3)]) hx hb dX12_voice_40 hl (by decide) rfl (fun ls hl => ?_)
      refine lv_iload_n hx hb dX12_voice_42 rfl (lv_at hl 3 rfl) ?_
      refine lv_if_ne (tgt := 56) hx hb dX12_voice_43 (by decide) (fun q10 => ?_) (fun q10 => ?_)
      · have hB := hB.1 q10
        refine lv_iload_n hx hb dX12_voice_56 rfl (lv_at hl 3 rfl) ?_
        refine lv_iconst (v := 1) hx hb dX12_voice_57 (by decide) ?_
        refine lv_icmp_ne (tgt := 71) hx hb dX12_voice_58 (by decide) (fun q11 => ?_) (fun q11 => ?_)
        · have hB := hB.1 q11
          refine lv_iload_n hx hb dX12_voice_71 rfl (lv_at hl 3 rfl) ?_
          refine lv_iconst (v := 2) hx hb dX12_voice_72 (by decide) ?_
          refine lv_icmp_ne (tgt := 86) hx hb dX12_voice_73 (by decide) (fun q12 => ?_) (fun q12 => ?_)
          · have hB := hB.1 q12
            refine lv_aload_n hx hb dX12_voice_86 rfl (lv_at hl 1 rfl) ?_
            refine lv_iload hx hb dX12_voice_87 (lv_at hl 0 rfl) ?_
            refine lv_iload_n hx hb dX12_voice_89 rfl (lv_at hl 4 rfl) ?_
            refine v_X12_tellsBy C hl.1 Z tw_7_71 ⟨Nat.le_of_ble_eq_true rfl, Nat.le_of_ble_eq_true rfl⟩ ⟨Nat.le_refl _, Nat.le_refl _⟩ (Nat.le_of_ble_eq_true rfl) dX12_voice_90 hB (fun v13 M14 H locs hB Z => ?_)
            exact e_iW C hr hlk Z dX12_voice_93 hB
          · have hB := hB.2 q12
            refine lv_aload_n hx hb dX12_voice_76 rfl (lv_at hl 1 rfl) ?_
            refine lv_iload hx hb dX12_voice_77 (lv_at hl 0 rfl) ?_
            refine lv_iload_n hx hb dX12_voice_79 rfl (lv_at hl 4 rfl) ?_
            refine v_X12_shutsBy C hl.1 Z tw_7_67 ⟨Nat.le_of_ble_eq_true rfl, Nat.le_of_ble_eq_true rfl⟩ ⟨Nat.le_refl _, Nat.le_refl _⟩ (Nat.le_of_ble_eq_true rfl) dX12_voice_80 hB (fun v15 M16 H locs hB Z => ?_)
            refine lv_goto (tgt := 93) hx hb dX12_voice_83 (by decide) ?_
            exact e_iW C hr hlk Z dX12_voice_93 hB
        · have hB := hB.2 q11
          refine lv_aload_n hx hb dX12_voice_61 rfl (lv_at hl 1 rfl) ?_
          refine lv_iload hx hb dX12_voice_62 (lv_at hl 0 rfl) ?_
          refine lv_iload_n hx hb dX12_voice_64 rfl (lv_at hl 4 rfl) ?_
          refine v_X12_pullsBy C hl.1 Z tw_7_63 ⟨Nat.le_of_ble_eq_true rfl, Nat.le_of_ble_eq_true rfl⟩ ⟨Nat.le_refl _, Nat.le_refl _⟩ (Nat.le_of_ble_eq_true rfl) dX12_voice_65 hB (fun v17 M18 H locs hB Z => ?_)
          refine lv_goto (tgt := 93) hx hb dX12_voice_68 (by decide) ?_
          exact e_iW C hr hlk Z dX12_voice_93 hB
      · have hB := hB.2 q10
        refine lv_aload_n hx hb dX12_voice_46 rfl (lv_at hl 1 rfl) ?_
        refine lv_iload hx hb dX12_voice_47 (lv_at hl 0 rfl) ?_
        refine lv_iload_n hx hb dX12_voice_49 rfl (lv_at hl 4 rfl) ?_
        refine v_X12_wakesBy C hl.1 Z tw_7_55 ⟨Nat.le_of_ble_eq_true rfl, Nat.le_of_ble_eq_true rfl⟩ ⟨Nat.le_refl _, Nat.le_refl _⟩ (Nat.le_of_ble_eq_true rfl) dX12_voice_50 hB (fun v19 M20 H locs hB Z => ?_)
        refine lv_goto (tgt := 93) hx hb dX12_voice_53 (by decide) ?_
        exact e_iW C hr hlk Z dX12_voice_93 hB
    · have hB := hB.2 q6
      refine lv_aload_n hx hb dX12_voice_20 rfl (lv_at hl 0 rfl) ?_
      refine lv_iconst (v := 1) hx hb dX12_voice_21 (by decide) ?_
      refine v_X12_finds C hl.1 Z tw_5_194 ⟨Nat.le_of_ble_eq_true rfl, Nat.le_of_ble_eq_true rfl⟩ ⟨Nat.le_refl _, Nat.le_refl _⟩ (Nat.le_of_ble_eq_true rfl) dX12_voice_22 hB (fun v21 M22 H locs hB Z => ?_)
      exact e_iW C hr hlk Z dX12_voice_25 hB
set_option maxRecDepth 100000 in
set_option maxHeartbeats 4000000 in
theorem v_X12_voice {M : Mem} {x1 : Int32} {x2 : Int32} {x3 : Int32} {Q1 : Int32 → Mem → Prop} (C : Cx T D p s m args c cc nL own) (hls : ls.size = nL) (Z : Zz EM T D ad 16 A H0 M H locs) (hlink : Cond.methodLink own index yX12_voice ∈ TB) (hR : 29 + 1 ≤ R.frames ∧ 8 + (5 + 11) + 48 * 29 ≤ R.locals) (hcs : cells ≤ R.cells ∧ slots ≤ R.slots) (hcat : (rest.map fun v => v.category).sum ≤ 8) (hdg : decode cc pc = .ok (.invokevirtual index, 3)) (hB : P_X12_voice M x1 x2 x3 Q1)
    (kk : ∀ (r : Int32) (M1 : Mem) (H1 : Heap) (locs1 : List Loc), Q1 r M1 → Zz EM T D ad 16 A H0 M1 H1 locs1 → W p l e R s m args below meth c H1 locs1 cells slots QQ (F0 m (pc + 3) ls (.int r :: rest))) : W p l e R s m args below meth c H locs cells slots QQ (F0 m pc ls (.int x3 :: .int x2 :: .int x1 :: .ref (ad 0) :: rest)) :=
  k_VW (ci := 12) (n := 3) (c_X12_voice hB) tw_7_50 tw_7_48 tw_7_49 tw_1_12 ⟨rfl, by decide, by decide, by decide +kernel⟩ rfl rfl C hls Z oM hlink hR hcs hcat rfl hdg kk
def P_X12_trace (M : Mem) (x1 : Int32) (Q1 : Int32 → Mem → Prop) : Prop :=
  P_X12_in (x1.toInt64) 0 (((M 0 23) - 1).toInt64) (fun v1 => ((v1 = 0 → P_X12_finds M 2 (fun v3 M4 => Q1 v3 M4)) ∧
    (¬ v1 = 0 → vp_in x1 40 ∧ Q1 (M 11 x1.toNatClampNeg) M)))
set_option maxRecDepth 100000 in
set_option maxHeartbeats 4000000 in
theorem c_X12_trace {l : Launch} {T : Nat → ClassId} {D : va_G} {ad : Nat → Nat} {M : Mem} {x1 : Int32} {sz : Nat} {Q1 : Int32 → Mem → Prop} (hB : P_X12_trace M x1 Q1) : Met l yX12_trace (Cond.code yX12_trace cX12_trace 2 (some .int) :: TB) (RM 2) (va_Pc [.ref (ad 0), .int x1] (WrP EM T D ad 16 M sz)) (QcW EM T D ad 16 (AA ad 16 sz) Q1) 0 0 (AA ad 16 sz) := by
  refine st_W (by decide) (Nat.le_of_ble_eq_true rfl) (fun p e s m args below meth c ls C hr hlk hsz Z hl => ?_)
  have hl : lv_has ls 2 [(0, .ref (ad 0)), (1, .int x1)] := hl
  generalize AA ad 16 sz = A at Z ⊢
  have hx := C.x
  have hb := C.b
  delta P_X12_trace at hB
  refine lv_iload_n hx hb dX12_trace_0 rfl (lv_at hl 1 rfl) ?_
  refine lv_i2l hx hb dX12_trace_1 rfl ?_
  refine lv_lconst (v := 0) hx hb dX12_trace_2 (by decide) ?_
  refine lv_aload_n hx hb dX12_trace_3 rfl (lv_at hl 0 rfl) ?_
  refine gf_X12_23 C Z.1 tw_5_121 dX12_trace_4 ?_
  refine lv_iconst (v := 1) hx hb dX12_trace_7 (by decide) ?_
  refine lv_isub hx hb dX12_trace_8 ?_
  refine lv_i2l hx hb dX12_trace_9 rfl ?_
  refine v_X12_in C.1 hl.1 tw_5_191 ⟨Nat.le_of_ble_eq_true rfl, Nat.le_of_ble_eq_true rfl⟩ ⟨Nat.le_refl _, Nat.le_refl _⟩ (Nat.le_of_ble_eq_true rfl) dX12_trace_10 hB (fun v1 hB => ?_)
  refine lv_if_eq (tgt := 25) hx hb dX12_trace_13 (by decide) (fun q2 => ?_) (fun q2 => ?_)
  · have hB := hB.1 q2
    refine lv_aload_n hx hb dX12_trace_25 rfl (lv_at hl 0 rfl) ?_
    refine lv_iconst (v := 2) hx hb dX12_trace_26 (by decide) ?_
    refine v_X12_finds C hl.1 Z tw_5_194 ⟨Nat.le_of_ble_eq_true rfl, Nat.le_of_ble_eq_true rfl⟩ ⟨Nat.le_refl _, Nat.le_refl _⟩ (Nat.le_of_ble_eq_true rfl) dX12_trace_27 hB (fun v3 M4 H locs hB Z => ?_)
    exact e_iW C hr hlk Z dX12_trace_30 hB
  · have hB := hB.2 q2
    refine lv_aload_n hx hb dX12_trace_16 rfl (lv_at hl 0 rfl) ?_
    refine gf_X12_22 C Z.1 tw_5_120 dX12_trace_17 ?_
    refine lv_iload_n hx hb dX12_trace_20 rfl (lv_at hl 1 rfl) ?_
    obtain ⟨q5, hB⟩ := hB
    refine a_ld C Z.1 aM_11 q5 dX12_trace_21 ?_
    refine lv_goto (tgt := 30) hx hb dX12_trace_22 (by decide) ?_
    exact e_iW C hr hlk Z dX12_trace_30 hB
set_option maxRecDepth 100000 in
set_option maxHeartbeats 4000000 in
theorem v_X12_trace {M : Mem} {x1 : Int32} {Q1 : Int32 → Mem → Prop} (C : Cx T D p s m args c cc nL own) (hls : ls.size = nL) (Z : Zz EM T D ad 16 A H0 M H locs) (hlink : Cond.methodLink own index yX12_trace ∈ TB) (hR : 2 + 1 ≤ R.frames ∧ 8 + (2 + 11) + 48 * 2 ≤ R.locals) (hcs : cells ≤ R.cells ∧ slots ≤ R.slots) (hcat : (rest.map fun v => v.category).sum ≤ 8) (hdg : decode cc pc = .ok (.invokevirtual index, 3)) (hB : P_X12_trace M x1 Q1)
    (kk : ∀ (r : Int32) (M1 : Mem) (H1 : Heap) (locs1 : List Loc), Q1 r M1 → Zz EM T D ad 16 A H0 M1 H1 locs1 → W p l e R s m args below meth c H1 locs1 cells slots QQ (F0 m (pc + 3) ls (.int r :: rest))) : W p l e R s m args below meth c H locs cells slots QQ (F0 m pc ls (.int x1 :: .ref (ad 0) :: rest)) :=
  k_VW (ci := 12) (n := 1) (c_X12_trace hB) tw_7_78 tw_7_76 tw_7_77 tw_1_12 ⟨rfl, by decide, by decide, by decide +kernel⟩ rfl rfl C hls Z oM hlink hR hcs hcat rfl hdg kk
def B_X12_sheet_90 (Q1 : Int32 → Mem → Prop) (x1 : Int32) (x4 : Int32) (M : Mem) : Prop :=
  ∀ X90 : Int32 → Mem → Prop, (∀ (x4 : Int32) (M : Mem), (((40 ≤ x4 → Q1 1 M) ∧
    (¬ 40 ≤ x4 → vp_in ((40 * x1) + x4) 160 ∧ ∀ M14 : Mem, M14 = sf M 14 ((40 * x1) + x4).toNatClampNeg 0 → ∀ x4_16 : Int32, x4_16 = x4 + 1 → X90 x4_16 M14))) → X90 x4 M) → X90 x4 M
def B_X12_sheet_86 (Q1 : Int32 → Mem → Prop) (x1 : Int32) (s1 : Int32) (s2 : Int32) (M : Mem) : Prop :=
  vp_in s1 4 ∧ ∀ M11 : Mem, M11 = sf M 13 s1.toNatClampNeg s2 → B_X12_sheet_90 Q1 x1 0 M11
def B_X12_sheet_65 (Q1 : Int32 → Mem → Prop) (x1 : Int32) (x2 : Int32) (x3 : Int32) (M : Mem) : Prop :=
  vp_in x1 4 ∧ ∀ M8 : Mem, M8 = sf M 12 x1.toNatClampNeg x2 → ((¬ x2 = 0 → B_X12_sheet_86 Q1 x1 x1 x3 M8) ∧
    (x2 = 0 → B_X12_sheet_86 Q1 x1 x1 0 M8))
def B_X12_sheet_49 (Q1 : Int32 → Mem → Prop) (x1 : Int32) (x2 : Int32) (x3 : Int32) (M : Mem) : Prop :=
  ((x2 = 0 → B_X12_sheet_65 Q1 x1 x2 x3 M) ∧
    (¬ x2 = 0 → ((x3 ≤ 40 → B_X12_sheet_65 Q1 x1 x2 x3 M) ∧
      (¬ x3 ≤ 40 → P_X12_finds M 1 (fun v18 M19 => Q1 v18 M19)))))
def B_X12_sheet_35 (Q1 : Int32 → Mem → Prop) (x1 : Int32) (x2 : Int32) (x3 : Int32) (M : Mem) : Prop :=
  ((x2 = 0 → B_X12_sheet_49 Q1 x1 x2 x3 M) ∧
    (¬ x2 = 0 → ((0 ≤ x3 → B_X12_sheet_49 Q1 x1 x2 x3 M) ∧
      (¬ 0 ≤ x3 → P_X12_finds M 3 (fun v21 M22 => Q1 v21 M22)))))
def P_X12_sheet (M : Mem) (x1 : Int32) (x2 : Int32) (x3 : Int32) (Q1 : Int32 → Mem → Prop) : Prop :=
  P_X12_isSheet x1 (fun v1 => ((v1 = 0 → P_X12_finds M 1 (fun v3 M4 => Q1 v3 M4)) ∧
    (¬ v1 = 0 → ((x2 = 0 → B_X12_sheet_35 Q1 x1 x2 x3 M) ∧
      (¬ x2 = 0 → ((x2 = 8 → B_X12_sheet_35 Q1 x1 x2 x3 M) ∧
        (¬ x2 = 8 → ((x2 = 16 → B_X12_sheet_35 Q1 x1 x2 x3 M) ∧
          (¬ x2 = 16 → ((x2 = 32 → B_X12_sheet_35 Q1 x1 x2 x3 M) ∧
            (¬ x2 = 32 → P_X12_finds M 1 (fun v26 M27 => Q1 v26 M27))))))))))))
set_option maxRecDepth 100000 in
set_option maxHeartbeats 4000000 in
theorem w_X12_sheet_90 {M : Mem} {Q1 : Int32 → Mem → Prop} {x1 : Int32} {x4 : Int32} (C : Cx T D p s m args c cX12_sheet 5 "OneOfTwoModel") (hr : meth.sig.returnType = (some .int)) (hlk : meth.locks = false) (Z : Zz EM T D ad 16 A s.heap M H locs) {ls : Array Slot} (hl : lv_has ls 5 [(0, .ref (ad 0)), (1, .int x1), (4, .int x4)]) (hB : B_X12_sheet_90 Q1 x1 x4 M) : W p l e (RM 3) s m args below meth c H locs 0 0 (MQ below (QcW EM T D ad 16 A Q1) args s 0 0 A) (F0 m 90 ls []) := by
  delta B_X12_sheet_90 at hB
  obtain ⟨X90, hX90, hY90⟩ : ∃ X90 : Int32 → Mem → Prop, (∀ (x4 : Int32) (M : Mem), X90 x4 M → ∀ (H : Heap) (locs : List Loc) (ls : Array Slot), Zz EM T D ad 16 A s.heap M H locs → lv_has ls 5 [(0, .ref (ad 0)), (1, .int x1), (4, .int x4)] → W p l e (RM 3) s m args below meth c H locs 0 0 (MQ below (QcW EM T D ad 16 A Q1) args s 0 0 A) (F0 m 90 ls [])) ∧ (∀ (x4 : Int32) (M : Mem), (∀ (H : Heap) (locs : List Loc) (ls : Array Slot), Zz EM T D ad 16 A s.heap M H locs → lv_has ls 5 [(0, .ref (ad 0)), (1, .int x1), (4, .int x4)] → W p l e (RM 3) s m args below meth c H locs 0 0 (MQ below (QcW EM T D ad 16 A Q1) args s 0 0 A) (F0 m 90 ls [])) → X90 x4 M) := ⟨fun (x4 : Int32) (M : Mem) => ∀ (H : Heap) (locs : List Loc) (ls : Array Slot), Zz EM T D ad 16 A s.heap M H locs → lv_has ls 5 [(0, .ref (ad 0)), (1, .int x1), (4, .int x4)] → W p l e (RM 3) s m args below meth c H locs 0 0 (MQ below (QcW EM T D ad 16 A Q1) args s 0 0 A) (F0 m 90 ls []), fun _ _ h => h, fun _ _ h => h⟩
  refine hX90 _ _ (hB X90 (fun x4 M hB => hY90 _ _ (fun H locs ls Z hl => ?_))) _ _ _ Z hl
  have hx := C.x
  have hb := C.b
  refine lv_iload hx hb dX12_sheet_90 (lv_at hl 2 rfl) ?_
  refine lv_bipush (v := 40) hx hb dX12_sheet_92 (by decide) ?_
  refine lv_icmp_ge (tgt := 116) hx hb dX12_sheet_94 (by decide) (fun q13 => ?_) (fun q13 => ?_)
  · have hB := hB.1 q13
    refine lv_iconst (v := 1) hx hb dX12_sheet_116 (by decide) ?_
    exact e_iW C hr hlk Z dX12_sheet_117 hB
  · have hB := hB.2 q13
    refine lv_aload_n hx hb dX12_sheet_97 rfl (lv_at hl 0 rfl) ?_
    refine gf_X12_27 C Z.1 tw_5_125 dX12_sheet_98 ?_
    refine lv_bipush (v := 40) hx hb dX12_sheet_101 (by decide) ?_
    refine lv_iload_n hx hb dX12_sheet_103 rfl (lv_at hl 1 rfl) ?_
    refine lv_imul hx hb dX12_sheet_104 ?_
    refine lv_iload hx hb dX12_sheet_105 (lv_at hl 2 rfl) ?_
    refine lv_iadd hx hb dX12_sheet_107 ?_
    refine lv_iconst (v := 0) hx hb dX12_sheet_108 (by decide) ?_
    obtain ⟨q15, hB⟩ := hB
    refine a_st C Z aM_14 q15 dX12_sheet_109 (fun M14 H locs eM14 Z => ?_)
    have hB := hB M14 eM14
    obtain ⟨x4_16, ex4_16⟩ : ∃ y : Int32, y = x4 + 1 := ⟨_, rfl⟩
    have hB := hB x4_16 ex4_16
    refine lv_iinc (v := x4_16) (lv' := [(4, .int x4_16), (0, .ref (ad 0)), (1, .int x1)]) hx hb dX12_sheet_110 hl (k := 2) rfl (by rw [ex4_16]; rfl) (by decide) rfl (fun ls hl => ?_)
    refine lv_goto (tgt := 90) hx hb dX12_sheet_113 (by decide) ?_
    exact hX90 _ _ hB _ _ _ Z (lv_sub hl [1, 2, 0] rfl)
set_option maxRecDepth 100000 in
set_option maxHeartbeats 4000000 in
theorem w_X12_sheet_86 {M : Mem} {Q1 : Int32 → Mem → Prop} {x1 : Int32} {s1 : Int32} {s2 : Int32} (C : Cx T D p s m args c cX12_sheet 5 "OneOfTwoModel") (hr : meth.sig.returnType = (some .int)) (hlk : meth.locks = false) (Z : Zz EM T D ad 16 A s.heap M H locs) {ls : Array Slot} (hl : lv_has ls 5 [(0, .ref (ad 0)), (1, .int x1)]) (hB : B_X12_sheet_86 Q1 x1 s1 s2 M) : W p l e (RM 3) s m args below meth c H locs 0 0 (MQ below (QcW EM T D ad 16 A Q1) args s 0 0 A) (F0 m 86 ls [.int s2, .int s1, .ref (ad 13)]) := by
  have hx := C.x
  have hb := C.b
  delta B_X12_sheet_86 at hB
  obtain ⟨q12, hB⟩ := hB
  refine a_st C Z aM_13 q12 dX12_sheet_86 (fun M11 H locs eM11 Z => ?_)
  have hB := hB M11 eM11
  refine lv_iconst (v := 0) hx hb dX12_sheet_87 (by decide) ?_
  refine lv_istore (lv' := [(4, .int 0), (0, .ref (ad 0)), (1, .int x1)]) hx hb dX12_sheet_88 hl (by decide) rfl (fun ls hl => ?_)
  exact w_X12_sheet_90 C hr hlk Z (lv_sub hl [1, 2, 0] rfl) hB
set_option maxRecDepth 100000 in
set_option maxHeartbeats 4000000 in
theorem w_X12_sheet_65 {M : Mem} {Q1 : Int32 → Mem → Prop} {x1 : Int32} {x2 : Int32} {x3 : Int32} (C : Cx T D p s m args c cX12_sheet 5 "OneOfTwoModel") (hr : meth.sig.returnType = (some .int)) (hlk : meth.locks = false) (Z : Zz EM T D ad 16 A s.heap M H locs) {ls : Array Slot} (hl : lv_has ls 5 [(0, .ref (ad 0)), (1, .int x1), (2, .int x2), (3, .int x3)]) (hB : B_X12_sheet_65 Q1 x1 x2 x3 M) : W p l e (RM 3) s m args below meth c H locs 0 0 (MQ below (QcW EM T D ad 16 A Q1) args s 0 0 A) (F0 m 65 ls []) := by
  have hx := C.x
  have hb := C.b
  delta B_X12_sheet_65 at hB
  refine lv_aload_n hx hb dX12_sheet_65 rfl (lv_at hl 0 rfl) ?_
  refine gf_X12_25 C Z.1 tw_5_123 dX12_sheet_66 ?_
  refine lv_iload_n hx hb dX12_sheet_69 rfl (lv_at hl 1 rfl) ?_
  refine lv_iload_n hx hb dX12_sheet_70 rfl (lv_at hl 2 rfl) ?_
  obtain ⟨q9, hB⟩ := hB
  refine a_st C Z aM_12 q9 dX12_sheet_71 (fun M8 H locs eM8 Z => ?_)
  have hB := hB M8 eM8
  refine lv_aload_n hx hb dX12_sheet_72 rfl (lv_at hl 0 rfl) ?_
  refine gf_X12_26 C Z.1 tw_5_124 dX12_sheet_73 ?_
  refine lv_iload_n hx hb dX12_sheet_76 rfl (lv_at hl 1 rfl) ?_
  refine lv_iload_n hx hb dX12_sheet_77 rfl (lv_at hl 2 rfl) ?_
  refine lv_if_ne (tgt := 85) hx hb dX12_sheet_78 (by decide) (fun q10 => ?_) (fun q10 => ?_)
  · have hB := hB.1 q10
    refine lv_iload_n hx hb dX12_sheet_85 rfl (lv_at hl 3 rfl) ?_
    exact w_X12_sheet_86 C hr hlk Z (lv_sub hl [0, 1] rfl) hB
  · have hB := hB.2 q10
    refine lv_iconst (v := 0) hx hb dX12_sheet_81 (by decide) ?_
    refine lv_goto (tgt := 86) hx hb dX12_sheet_82 (by decide) ?_
    exact w_X12_sheet_86 C hr hlk Z (lv_sub hl [0, 1] rfl) hB
set_option maxRecDepth 100000 in
set_option maxHeartbeats 4000000 in
theorem w_X12_sheet_49 {M : Mem} {Q1 : Int32 → Mem → Prop} {x1 : Int32} {x2 : Int32} {x3 : Int32} (C : Cx T D p s m args c cX12_sheet 5 "OneOfTwoModel") (hr : meth.sig.returnType = (some .int)) (hlk : meth.locks = false) (Z : Zz EM T D ad 16 A s.heap M H locs) {ls : Array Slot} (hl : lv_has ls 5 [(0, .ref (ad 0)), (1, .int x1), (2, .int x2), (3, .int x3)]) (hB : B_X12_sheet_49 Q1 x1 x2 x3 M) : W p l e (RM 3) s m args below meth c H locs 0 0 (MQ below (QcW EM T D ad 16 A Q1) args s 0 0 A) (F0 m 49 ls []) := by
  have hx := C.x
  have hb := C.b
  delta B_X12_sheet_49 at hB
  refine lv_iload_n hx hb dX12_sheet_49 rfl (lv_at hl 2 rfl) ?_
  refine lv_if_eq (tgt := 65) hx hb dX12_sheet_50 (by decide) (fun q7 => ?_) (fun q7 => ?_)
  · have hB := hB.1 q7
    exact w_X12_sheet_65 C hr hlk Z (lv_sub hl [0, 1, 2, 3] rfl) hB
  · have hB := hB.2 q7
    refine lv_iload_n hx hb dX12_sheet_53 rfl (lv_at hl 3 rfl) ?_
    refine lv_bipush (v := 40) hx hb dX12_sheet_54 (by decide) ?_
    refine lv_icmp_le (tgt := 65) hx hb dX12_sheet_56 (by decide) (fun q17 => ?_) (fun q17 => ?_)
    · have hB := hB.1 q17
      exact w_X12_sheet_65 C hr hlk Z (lv_sub hl [0, 1, 2, 3] rfl) hB
    · have hB := hB.2 q17
      refine lv_aload_n hx hb dX12_sheet_59 rfl (lv_at hl 0 rfl) ?_
      refine lv_iconst (v := 1) hx hb dX12_sheet_60 (by decide) ?_
      refine v_X12_finds C hl.1 Z tw_5_194 ⟨Nat.le_of_ble_eq_true rfl, Nat.le_of_ble_eq_true rfl⟩ ⟨Nat.le_refl _, Nat.le_refl _⟩ (Nat.le_of_ble_eq_true rfl) dX12_sheet_61 hB (fun v18 M19 H locs hB Z => ?_)
      exact e_iW C hr hlk Z dX12_sheet_64 hB
set_option maxRecDepth 100000 in
set_option maxHeartbeats 4000000 in
theorem w_X12_sheet_35 {M : Mem} {Q1 : Int32 → Mem → Prop} {x1 : Int32} {x2 : Int32} {x3 : Int32} (C : Cx T D p s m args c cX12_sheet 5 "OneOfTwoModel") (hr : meth.sig.returnType = (some .int)) (hlk : meth.locks = false) (Z : Zz EM T D ad 16 A s.heap M H locs) {ls : Array Slot} (hl : lv_has ls 5 [(0, .ref (ad 0)), (1, .int x1), (2, .int x2), (3, .int x3)]) (hB : B_X12_sheet_35 Q1 x1 x2 x3 M) : W p l e (RM 3) s m args below meth c H locs 0 0 (MQ below (QcW EM T D ad 16 A Q1) args s 0 0 A) (F0 m 35 ls []) := by
  have hx := C.x
  have hb := C.b
  delta B_X12_sheet_35 at hB
  refine lv_iload_n hx hb dX12_sheet_35 rfl (lv_at hl 2 rfl) ?_
  refine lv_if_eq (tgt := 49) hx hb dX12_sheet_36 (by decide) (fun q6 => ?_) (fun q6 => ?_)
  · have hB := hB.1 q6
    exact w_X12_sheet_49 C hr hlk Z (lv_sub hl [0, 1, 2, 3] rfl) hB
  · have hB := hB.2 q6
    refine lv_iload_n hx hb dX12_sheet_39 rfl (lv_at hl 3 rfl) ?_
    refine lv_if_ge (tgt := 49) hx hb dX12_sheet_40 (by decide) (fun q20 => ?_) (fun q20 => ?_)
    · have hB := hB.1 q20
      exact w_X12_sheet_49 C hr hlk Z (lv_sub hl [0, 1, 2, 3] rfl) hB
    · have hB := hB.2 q20
      refine lv_aload_n hx hb dX12_sheet_43 rfl (lv_at hl 0 rfl) ?_
      refine lv_iconst (v := 3) hx hb dX12_sheet_44 (by decide) ?_
      refine v_X12_finds C hl.1 Z tw_5_194 ⟨Nat.le_of_ble_eq_true rfl, Nat.le_of_ble_eq_true rfl⟩ ⟨Nat.le_refl _, Nat.le_refl _⟩ (Nat.le_of_ble_eq_true rfl) dX12_sheet_45 hB (fun v21 M22 H locs hB Z => ?_)
      exact e_iW C hr hlk Z dX12_sheet_48 hB
set_option maxRecDepth 100000 in
set_option maxHeartbeats 4000000 in
theorem c_X12_sheet {l : Launch} {T : Nat → ClassId} {D : va_G} {ad : Nat → Nat} {M : Mem} {x1 : Int32} {x2 : Int32} {x3 : Int32} {sz : Nat} {Q1 : Int32 → Mem → Prop} (hB : P_X12_sheet M x1 x2 x3 Q1) : Met l yX12_sheet (Cond.code yX12_sheet cX12_sheet 5 (some .int) :: TB) (RM 3) (va_Pc [.ref (ad 0), .int x1, .int x2, .int x3] (WrP EM T D ad 16 M sz)) (QcW EM T D ad 16 (AA ad 16 sz) Q1) 0 0 (AA ad 16 sz) := by
  refine st_W (by decide) (Nat.le_of_ble_eq_true rfl) (fun p e s m args below meth c ls C hr hlk hsz Z hl => ?_)
  have hl : lv_has ls 5 [(0, .ref (ad 0)), (1, .int x1), (2, .int x2), (3, .int x3)] := hl
  generalize AA ad 16 sz = A at Z ⊢
  have hx := C.x
  have hb := C.b
  delta P_X12_sheet at hB
  refine lv_iload_n hx hb dX12_sheet_0 rfl (lv_at hl 1 rfl) ?_
  refine v_X12_isSheet C.1 hl.1 tw_7_40 ⟨Nat.le_of_ble_eq_true rfl, Nat.le_of_ble_eq_true rfl⟩ ⟨Nat.le_refl _, Nat.le_refl _⟩ (Nat.le_of_ble_eq_true rfl) dX12_sheet_1 hB (fun v1 hB => ?_)
  refine lv_if_eq (tgt := 29) hx hb dX12_sheet_4 (by decide) (fun q2 => ?_) (fun q2 => ?_)
  · have hB := hB.1 q2
    refine lv_aload_n hx hb dX12_sheet_29 rfl (lv_at hl 0 rfl) ?_
    refine lv_iconst (v := 1) hx hb dX12_sheet_30 (by decide) ?_
    refine v_X12_finds C hl.1 Z tw_5_194 ⟨Nat.le_of_ble_eq_true rfl, Nat.le_of_ble_eq_true rfl⟩ ⟨Nat.le_refl _, Nat.le_refl _⟩ (Nat.le_of_ble_eq_true rfl) dX12_sheet_31 hB (fun v3 M4 H locs hB Z => ?_)
    exact e_iW C hr hlk Z dX12_sheet_34 hB
  · have hB := hB.2 q2
    refine lv_iload_n hx hb dX12_sheet_7 rfl (lv_at hl 2 rfl) ?_
    refine lv_if_eq (tgt := 35) hx hb dX12_sheet_8 (by decide) (fun q5 => ?_) (fun q5 => ?_)
    · have hB := hB.1 q5
      exact w_X12_sheet_35 C hr hlk Z (lv_sub hl [0, 1, 2, 3] rfl) hB
    · have hB := hB.2 q5
      refine lv_iload_n hx hb dX12_sheet_11 rfl (lv_at hl 2 rfl) ?_
      refine lv_bipush (v := 8) hx hb dX12_sheet_12 (by decide) ?_
      refine lv_icmp_eq (tgt := 35) hx hb dX12_sheet_14 (by decide) (fun q23 => ?_) (fun q23 => ?_)
      · have hB := hB.1 q23
        exact w_X12_sheet_35 C hr hlk Z (lv_sub hl [0, 1, 2, 3] rfl) hB
      · have hB := hB.2 q23
        refine lv_iload_n hx hb dX12_sheet_17 rfl (lv_at hl 2 rfl) ?_
        refine lv_bipush (v := 16) hx hb dX12_sheet_18 (by decide) ?_
        refine lv_icmp_eq (tgt := 35) hx hb dX12_sheet_20 (by decide) (fun q24 => ?_) (fun q24 => ?_)
        · have hB := hB.1 q24
          exact w_X12_sheet_35 C hr hlk Z (lv_sub hl [0, 1, 2, 3] rfl) hB
        · have hB := hB.2 q24
          refine lv_iload_n hx hb dX12_sheet_23 rfl (lv_at hl 2 rfl) ?_
          refine lv_bipush (v := 32) hx hb dX12_sheet_24 (by decide) ?_
          refine lv_icmp_eq (tgt := 35) hx hb dX12_sheet_26 (by decide) (fun q25 => ?_) (fun q25 => ?_)
          · have hB := hB.1 q25
            exact w_X12_sheet_35 C hr hlk Z (lv_sub hl [0, 1, 2, 3] rfl) hB
          · have hB := hB.2 q25
            refine lv_aload_n hx hb dX12_sheet_29 rfl (lv_at hl 0 rfl) ?_
            refine lv_iconst (v := 1) hx hb dX12_sheet_30 (by decide) ?_
            refine v_X12_finds C hl.1 Z tw_5_194 ⟨Nat.le_of_ble_eq_true rfl, Nat.le_of_ble_eq_true rfl⟩ ⟨Nat.le_refl _, Nat.le_refl _⟩ (Nat.le_of_ble_eq_true rfl) dX12_sheet_31 hB (fun v26 M27 H locs hB Z => ?_)
            exact e_iW C hr hlk Z dX12_sheet_34 hB
set_option maxRecDepth 100000 in
set_option maxHeartbeats 4000000 in
theorem v_X12_sheet {M : Mem} {x1 : Int32} {x2 : Int32} {x3 : Int32} {Q1 : Int32 → Mem → Prop} (C : Cx T D p s m args c cc nL own) (hls : ls.size = nL) (Z : Zz EM T D ad 16 A H0 M H locs) (hlink : Cond.methodLink own index yX12_sheet ∈ TB) (hR : 3 + 1 ≤ R.frames ∧ 8 + (5 + 11) + 48 * 3 ≤ R.locals) (hcs : cells ≤ R.cells ∧ slots ≤ R.slots) (hcat : (rest.map fun v => v.category).sum ≤ 8) (hdg : decode cc pc = .ok (.invokevirtual index, 3)) (hB : P_X12_sheet M x1 x2 x3 Q1)
    (kk : ∀ (r : Int32) (M1 : Mem) (H1 : Heap) (locs1 : List Loc), Q1 r M1 → Zz EM T D ad 16 A H0 M1 H1 locs1 → W p l e R s m args below meth c H1 locs1 cells slots QQ (F0 m (pc + 3) ls (.int r :: rest))) : W p l e R s m args below meth c H locs cells slots QQ (F0 m pc ls (.int x3 :: .int x2 :: .int x1 :: .ref (ad 0) :: rest)) :=
  k_VW (ci := 12) (n := 3) (c_X12_sheet hB) tw_7_82 tw_7_80 tw_7_81 tw_1_12 ⟨rfl, by decide, by decide, by decide +kernel⟩ rfl rfl C hls Z oM hlink hR hcs hcat rfl hdg kk
def P_X12_put (M : Mem) (x1 : Int32) (x2 : Int32) (x3 : Int32) (Q1 : Int32 → Mem → Prop) : Prop :=
  P_X12_isSheet x1 (fun v1 => ((¬ v1 = 0 → vp_in x1 4 ∧ ((¬ (M 12 x1.toNatClampNeg) = 0 → vp_in x1 4 ∧ P_X12_in (x2.toInt64) 0 (((M 13 x1.toNatClampNeg) - 1).toInt64) (fun v6 => ((¬ v6 = 0 → vp_in x1 4 ∧ ((¬ (M 12 x1.toNatClampNeg) = 8 → vp_in x1 4 ∧ ((¬ (M 12 x1.toNatClampNeg) = 16 → vp_in ((40 * x1) + x2) 160 ∧ ∀ M12 : Mem, M12 = sf M 14 ((40 * x1) + x2).toNatClampNeg x3 → Q1 1 M12) ∧
            ((M 12 x1.toNatClampNeg) = 16 → vp_in ((40 * x1) + x2) 160 ∧ ∀ M14 : Mem, M14 = sf M 14 ((40 * x1) + x2).toNatClampNeg (x3.toInt16.toInt32) → Q1 1 M14))) ∧
          ((M 12 x1.toNatClampNeg) = 8 → vp_in ((40 * x1) + x2) 160 ∧ ∀ M16 : Mem, M16 = sf M 14 ((40 * x1) + x2).toNatClampNeg (x3.toInt8.toInt32) → Q1 1 M16))) ∧
        (v6 = 0 → P_X12_finds M 1 (fun v18 M19 => Q1 v18 M19))))) ∧
      ((M 12 x1.toNatClampNeg) = 0 → P_X12_finds M 2 (fun v20 M21 => Q1 v20 M21)))) ∧
    (v1 = 0 → P_X12_finds M 1 (fun v22 M23 => Q1 v22 M23))))
set_option maxRecDepth 100000 in
set_option maxHeartbeats 4000000 in
theorem c_X12_put {l : Launch} {T : Nat → ClassId} {D : va_G} {ad : Nat → Nat} {M : Mem} {x1 : Int32} {x2 : Int32} {x3 : Int32} {sz : Nat} {Q1 : Int32 → Mem → Prop} (hB : P_X12_put M x1 x2 x3 Q1) : Met l yX12_put (Cond.code yX12_put cX12_put 4 (some .int) :: TB) (RM 3) (va_Pc [.ref (ad 0), .int x1, .int x2, .int x3] (WrP EM T D ad 16 M sz)) (QcW EM T D ad 16 (AA ad 16 sz) Q1) 0 0 (AA ad 16 sz) := by
  refine st_W (by decide) (Nat.le_of_ble_eq_true rfl) (fun p e s m args below meth c ls C hr hlk hsz Z hl => ?_)
  have hl : lv_has ls 4 [(0, .ref (ad 0)), (1, .int x1), (2, .int x2), (3, .int x3)] := hl
  generalize AA ad 16 sz = A at Z ⊢
  have hx := C.x
  have hb := C.b
  delta P_X12_put at hB
  refine lv_iload_n hx hb dX12_put_0 rfl (lv_at hl 1 rfl) ?_
  refine v_X12_isSheet C.1 hl.1 tw_7_40 ⟨Nat.le_of_ble_eq_true rfl, Nat.le_of_ble_eq_true rfl⟩ ⟨Nat.le_refl _, Nat.le_refl _⟩ (Nat.le_of_ble_eq_true rfl) dX12_put_1 hB (fun v1 hB => ?_)
  refine lv_if_ne (tgt := 13) hx hb dX12_put_4 (by decide) (fun q2 => ?_) (fun q2 => ?_)
  · have hB := hB.1 q2
    refine lv_aload_n hx hb dX12_put_13 rfl (lv_at hl 0 rfl) ?_
    refine gf_X12_25 C Z.1 tw_5_123 dX12_put_14 ?_
    refine lv_iload_n hx hb dX12_put_17 rfl (lv_at hl 1 rfl) ?_
    obtain ⟨q3, hB⟩ := hB
    refine a_ld C Z.1 aM_12 q3 dX12_put_18 ?_
    refine lv_if_ne (tgt := 28) hx hb dX12_put_19 (by decide) (fun q4 => ?_) (fun q4 => ?_)
    · have hB := hB.1 q4
      refine lv_iload_n hx hb dX12_put_28 rfl (lv_at hl 2 rfl) ?_
      refine lv_i2l hx hb dX12_put_29 rfl ?_
      refine lv_lconst (v := 0) hx hb dX12_put_30 (by decide) ?_
      refine lv_aload_n hx hb dX12_put_31 rfl (lv_at hl 0 rfl) ?_
      refine gf_X12_26 C Z.1 tw_5_124 dX12_put_32 ?_
      refine lv_iload_n hx hb dX12_put_35 rfl (lv_at hl 1 rfl) ?_
      obtain ⟨q5, hB⟩ := hB
      refine a_ld C Z.1 aM_13 q5 dX12_put_36 ?_
      refine lv_iconst (v := 1) hx hb dX12_put_37 (by decide) ?_
      refine lv_isub hx hb dX12_put_38 ?_
      refine lv_i2l hx hb dX12_put_39 rfl ?_
      refine v_X12_in C.1 hl.1 tw_5_191 ⟨Nat.le_of_ble_eq_true rfl, Nat.le_of_ble_eq_true rfl⟩ ⟨Nat.le_refl _, Nat.le_refl _⟩ (Nat.le_of_ble_eq_true rfl) dX12_put_40 hB (fun v6 hB => ?_)
      refine lv_if_ne (tgt := 52) hx hb dX12_put_43 (by decide) (fun q7 => ?_) (fun q7 => ?_)
      · have hB := hB.1 q7
        refine lv_aload_n hx hb dX12_put_52 rfl (lv_at hl 0 rfl) ?_
        refine gf_X12_27 C Z.1 tw_5_125 dX12_put_53 ?_
        refine lv_bipush (v := 40) hx hb dX12_put_56 (by decide) ?_
        refine lv_iload_n hx hb dX12_put_58 rfl (lv_at hl 1 rfl) ?_
        refine lv_imul hx hb dX12_put_59 ?_
        refine lv_iload_n hx hb dX12_put_60 rfl (lv_at hl 2 rfl) ?_
        refine lv_iadd hx hb dX12_put_61 ?_
        refine lv_aload_n hx hb dX12_put_62 rfl (lv_at hl 0 rfl) ?_
        refine gf_X12_25 C Z.1 tw_5_123 dX12_put_63 ?_
        refine lv_iload_n hx hb dX12_put_66 rfl (lv_at hl 1 rfl) ?_
        obtain ⟨q8, hB⟩ := hB
        refine a_ld C Z.1 aM_12 q8 dX12_put_67 ?_
        refine lv_bipush (v := 8) hx hb dX12_put_68 (by decide) ?_
        refine lv_icmp_ne (tgt := 78) hx hb dX12_put_70 (by decide) (fun q9 => ?_) (fun q9 => ?_)
        · have hB := hB.1 q9
          refine lv_aload_n hx hb dX12_put_78 rfl (lv_at hl 0 rfl) ?_
          refine gf_X12_25 C Z.1 tw_5_123 dX12_put_79 ?_
          refine lv_iload_n hx hb dX12_put_82 rfl (lv_at hl 1 rfl) ?_
          obtain ⟨q10, hB⟩ := hB
          refine a_ld C Z.1 aM_12 q10 dX12_put_83 ?_
          refine lv_bipush (v := 16) hx hb dX12_put_84 (by decide) ?_
          refine lv_icmp_ne (tgt := 94) hx hb dX12_put_86 (by decide) (fun q11 => ?_) (fun q11 => ?_)
          · have hB := hB.1 q11
            refine lv_iload_n hx hb dX12_put_94 rfl (lv_at hl 3 rfl) ?_
            obtain ⟨q13, hB⟩ := hB
            refine a_st C Z aM_14 q13 dX12_put_95 (fun M12 H locs eM12 Z => ?_)
            have hB := hB M12 eM12
            refine lv_iconst (v := 1) hx hb dX12_put_96 (by decide) ?_
            exact e_iW C hr hlk Z dX12_put_97 hB
          · have hB := hB.2 q11
            refine lv_iload_n hx hb dX12_put_89 rfl (lv_at hl 3 rfl) ?_
            refine lv_i2s hx hb dX12_put_90 rfl ?_
            refine lv_goto (tgt := 95) hx hb dX12_put_91 (by decide) ?_
            obtain ⟨q15, hB⟩ := hB
            refine a_st C Z aM_14 q15 dX12_put_95 (fun M14 H locs eM14 Z => ?_)
            have hB := hB M14 eM14
            refine lv_iconst (v := 1) hx hb dX12_put_96 (by decide) ?_
            exact e_iW C hr hlk Z dX12_put_97 hB
        · have hB := hB.2 q9
          refine lv_iload_n hx hb dX12_put_73 rfl (lv_at hl 3 rfl) ?_
          refine lv_i2b hx hb dX12_put_74 rfl ?_
          refine lv_goto (tgt := 95) hx hb dX12_put_75 (by decide) ?_
          obtain ⟨q17, hB⟩ := hB
          refine a_st C Z aM_14 q17 dX12_put_95 (fun M16 H locs eM16 Z => ?_)
          have hB := hB M16 eM16
          refine lv_iconst (v := 1) hx hb dX12_put_96 (by decide) ?_
          exact e_iW C hr hlk Z dX12_put_97 hB
      · have hB := hB.2 q7
        refine lv_aload_n hx hb dX12_put_46 rfl (lv_at hl 0 rfl) ?_
        refine lv_iconst (v := 1) hx hb dX12_put_47 (by decide) ?_
        refine v_X12_finds C hl.1 Z tw_5_194 ⟨Nat.le_of_ble_eq_true rfl, Nat.le_of_ble_eq_true rfl⟩ ⟨Nat.le_refl _, Nat.le_refl _⟩ (Nat.le_of_ble_eq_true rfl) dX12_put_48 hB (fun v18 M19 H locs hB Z => ?_)
        exact e_iW C hr hlk Z dX12_put_51 hB
    · have hB := hB.2 q4
      refine lv_aload_n hx hb dX12_put_22 rfl (lv_at hl 0 rfl) ?_
      refine lv_iconst (v := 2) hx hb dX12_put_23 (by decide) ?_
      refine v_X12_finds C hl.1 Z tw_5_194 ⟨Nat.le_of_ble_eq_true rfl, Nat.le_of_ble_eq_true rfl⟩ ⟨Nat.le_refl _, Nat.le_refl _⟩ (Nat.le_of_ble_eq_true rfl) dX12_put_24 hB (fun v20 M21 H locs hB Z => ?_)
      exact e_iW C hr hlk Z dX12_put_27 hB
  · have hB := hB.2 q2
    refine lv_aload_n hx hb dX12_put_7 rfl (lv_at hl 0 rfl) ?_
    refine lv_iconst (v := 1) hx hb dX12_put_8 (by decide) ?_
    refine v_X12_finds C hl.1 Z tw_5_194 ⟨Nat.le_of_ble_eq_true rfl, Nat.le_of_ble_eq_true rfl⟩ ⟨Nat.le_refl _, Nat.le_refl _⟩ (Nat.le_of_ble_eq_true rfl) dX12_put_9 hB (fun v22 M23 H locs hB Z => ?_)
    exact e_iW C hr hlk Z dX12_put_12 hB
set_option maxRecDepth 100000 in
set_option maxHeartbeats 4000000 in
theorem v_X12_put {M : Mem} {x1 : Int32} {x2 : Int32} {x3 : Int32} {Q1 : Int32 → Mem → Prop} (C : Cx T D p s m args c cc nL own) (hls : ls.size = nL) (Z : Zz EM T D ad 16 A H0 M H locs) (hlink : Cond.methodLink own index yX12_put ∈ TB) (hR : 3 + 1 ≤ R.frames ∧ 8 + (4 + 11) + 48 * 3 ≤ R.locals) (hcs : cells ≤ R.cells ∧ slots ≤ R.slots) (hcat : (rest.map fun v => v.category).sum ≤ 8) (hdg : decode cc pc = .ok (.invokevirtual index, 3)) (hB : P_X12_put M x1 x2 x3 Q1)
    (kk : ∀ (r : Int32) (M1 : Mem) (H1 : Heap) (locs1 : List Loc), Q1 r M1 → Zz EM T D ad 16 A H0 M1 H1 locs1 → W p l e R s m args below meth c H1 locs1 cells slots QQ (F0 m (pc + 3) ls (.int r :: rest))) : W p l e R s m args below meth c H locs cells slots QQ (F0 m pc ls (.int x3 :: .int x2 :: .int x1 :: .ref (ad 0) :: rest)) :=
  k_VW (ci := 12) (n := 3) (c_X12_put hB) tw_7_86 tw_7_84 tw_7_85 tw_1_12 ⟨rfl, by decide, by decide, by decide +kernel⟩ rfl rfl C hls Z oM hlink hR hcs hcat rfl hdg kk
def B_X12_move_152 (Q1 : Int32 → Mem → Prop) (x3 : Int32) (x4 : Int32) (x5 : Int32) (x6 : Int32) (M : Mem) : Prop :=
  ∀ X152 : Int32 → Mem → Prop, (∀ (x6 : Int32) (M : Mem), (((x5 ≤ x6 → Q1 x5 M) ∧
    (¬ x5 ≤ x6 → vp_in x6 40 ∧ vp_in (((40 * x3) + x4) + x6) 160 ∧ ∀ M34 : Mem, M34 = sf M 14 (((40 * x3) + x4) + x6).toNatClampNeg (M 15 x6.toNatClampNeg) → ∀ x6_36 : Int32, x6_36 = x6 + 1 → X152 x6_36 M34))) → X152 x6 M) → X152 x6 M
def B_X12_move_115 (Q1 : Int32 → Mem → Prop) (x1 : Int32) (x2 : Int32) (x3 : Int32) (x4 : Int32) (x5 : Int32) (x6 : Int32) (M : Mem) : Prop :=
  ∀ X115 : Int32 → Mem → Prop, (∀ (x6 : Int32) (M : Mem), (((x5 ≤ x6 → B_X12_move_152 Q1 x3 x4 x5 0 M) ∧
    (¬ x5 ≤ x6 → vp_in (((40 * x1) + x2) + x6) 160 ∧ vp_in x6 40 ∧ ∀ M38 : Mem, M38 = sf M 15 x6.toNatClampNeg (M 14 (((40 * x1) + x2) + x6).toNatClampNeg) → ∀ x6_40 : Int32, x6_40 = x6 + 1 → X115 x6_40 M38))) → X115 x6 M) → X115 x6 M
def P_X12_move (M : Mem) (x1 : Int32) (x2 : Int32) (x3 : Int32) (x4 : Int32) (x5 : Int32) (Q1 : Int32 → Mem → Prop) : Prop :=
  P_X12_isSheet x1 (fun v1 => ((v1 = 0 → P_X12_finds M 1 (fun v3 M4 => Q1 v3 M4)) ∧
    (¬ v1 = 0 → P_X12_isSheet x3 (fun v5 => ((¬ v5 = 0 → vp_in x1 4 ∧ (((M 12 x1.toNatClampNeg) = 0 → P_X12_finds M 2 (fun v9 M10 => Q1 v9 M10)) ∧
        (¬ (M 12 x1.toNatClampNeg) = 0 → vp_in x3 4 ∧ ((¬ (M 12 x3.toNatClampNeg) = 0 → vp_in x1 4 ∧ vp_in x3 4 ∧ (((M 12 x1.toNatClampNeg) = (M 12 x3.toNatClampNeg) → ((x5 < 0 → P_X12_finds M 1 (fun v17 M18 => Q1 v17 M18)) ∧
              (¬ x5 < 0 → ((x2 < 0 → P_X12_finds M 1 (fun v20 M21 => Q1 v20 M21)) ∧
                (¬ x2 < 0 → ((x4 < 0 → P_X12_finds M 1 (fun v23 M24 => Q1 v23 M24)) ∧
                  (¬ x4 < 0 → vp_in x1 4 ∧ ((((M 13 x1.toNatClampNeg) - x2) < x5 → P_X12_finds M 1 (fun v27 M28 => Q1 v27 M28)) ∧
                    (¬ ((M 13 x1.toNatClampNeg) - x2) < x5 → vp_in x3 4 ∧ ((x5 ≤ ((M 13 x3.toNatClampNeg) - x4) → B_X12_move_115 Q1 x1 x2 x3 x4 x5 0 M) ∧
                      (¬ x5 ≤ ((M 13 x3.toNatClampNeg) - x4) → P_X12_finds M 1 (fun v41 M42 => Q1 v41 M42)))))))))))) ∧
            (¬ (M 12 x1.toNatClampNeg) = (M 12 x3.toNatClampNeg) → P_X12_finds M 5 (fun v43 M44 => Q1 v43 M44)))) ∧
          ((M 12 x3.toNatClampNeg) = 0 → P_X12_finds M 2 (fun v45 M46 => Q1 v45 M46)))))) ∧
      (v5 = 0 → P_X12_finds M 1 (fun v47 M48 => Q1 v47 M48)))))))
set_option maxRecDepth 100000 in
set_option maxHeartbeats 4000000 in
theorem w_X12_move_152 {M : Mem} {Q1 : Int32 → Mem → Prop} {x3 : Int32} {x4 : Int32} {x5 : Int32} {x6 : Int32} (C : Cx T D p s m args c cX12_move 7 "OneOfTwoModel") (hr : meth.sig.returnType = (some .int)) (hlk : meth.locks = false) (Z : Zz EM T D ad 16 A s.heap M H locs) {ls : Array Slot} (hl : lv_has ls 7 [(0, .ref (ad 0)), (3, .int x3), (4, .int x4), (5, .int x5), (6, .int x6)]) (hB : B_X12_move_152 Q1 x3 x4 x5 x6 M) : W p l e (RM 3) s m args below meth c H locs 0 0 (MQ below (QcW EM T D ad 16 A Q1) args s 0 0 A) (F0 m 152 ls []) := by
  delta B_X12_move_152 at hB
  obtain ⟨X152, hX152, hY152⟩ : ∃ X152 : Int32 → Mem → Prop, (∀ (x6 : Int32) (M : Mem), X152 x6 M → ∀ (H : Heap) (locs : List Loc) (ls : Array Slot), Zz EM T D ad 16 A s.heap M H locs → lv_has ls 7 [(0, .ref (ad 0)), (3, .int x3), (4, .int x4), (5, .int x5), (6, .int x6)] → W p l e (RM 3) s m args below meth c H locs 0 0 (MQ below (QcW EM T D ad 16 A Q1) args s 0 0 A) (F0 m 152 ls [])) ∧ (∀ (x6 : Int32) (M : Mem), (∀ (H : Heap) (locs : List Loc) (ls : Array Slot), Zz EM T D ad 16 A s.heap M H locs → lv_has ls 7 [(0, .ref (ad 0)), (3, .int x3), (4, .int x4), (5, .int x5), (6, .int x6)] → W p l e (RM 3) s m args below meth c H locs 0 0 (MQ below (QcW EM T D ad 16 A Q1) args s 0 0 A) (F0 m 152 ls [])) → X152 x6 M) := ⟨fun (x6 : Int32) (M : Mem) => ∀ (H : Heap) (locs : List Loc) (ls : Array Slot), Zz EM T D ad 16 A s.heap M H locs → lv_has ls 7 [(0, .ref (ad 0)), (3, .int x3), (4, .int x4), (5, .int x5), (6, .int x6)] → W p l e (RM 3) s m args below meth c H locs 0 0 (MQ below (QcW EM T D ad 16 A Q1) args s 0 0 A) (F0 m 152 ls []), fun _ _ h => h, fun _ _ h => h⟩
  refine hX152 _ _ (hB X152 (fun x6 M hB => hY152 _ _ (fun H locs ls Z hl => ?_))) _ _ _ Z hl
  have hx := C.x
  have hb := C.b
  refine lv_iload hx hb dX12_move_152 (lv_at hl 4 rfl) ?_
  refine lv_iload hx hb dX12_move_154 (lv_at hl 3 rfl) ?_
  refine lv_icmp_ge (tgt := 187) hx hb dX12_move_156 (by decide) (fun q32 => ?_) (fun q32 => ?_)
  · have hB := hB.1 q32
    refine lv_iload hx hb dX12_move_187 (lv_at hl 3 rfl) ?_
    exact e_iW C hr hlk Z dX12_move_189 hB
  · have hB := hB.2 q32
    refine lv_aload_n hx hb dX12_move_159 rfl (lv_at hl 0 rfl) ?_
    refine gf_X12_27 C Z.1 tw_5_125 dX12_move_160 ?_
    refine lv_bipush (v := 40) hx hb dX12_move_163 (by decide) ?_
    refine lv_iload_n hx hb dX12_move_165 rfl (lv_at hl 1 rfl) ?_
    refine lv_imul hx hb dX12_move_166 ?_
    refine lv_iload hx hb dX12_move_167 (lv_at hl 2 rfl) ?_
    refine lv_iadd hx hb dX12_move_169 ?_
    refine lv_iload hx hb dX12_move_170 (lv_at hl 4 rfl) ?_
    refine lv_iadd hx hb dX12_move_172 ?_
    refine lv_aload_n hx hb dX12_move_173 rfl (lv_at hl 0 rfl) ?_
    refine gf_X12_28 C Z.1 tw_5_126 dX12_move_174 ?_
    refine lv_iload hx hb dX12_move_177 (lv_at hl 4 rfl) ?_
    obtain ⟨q33, hB⟩ := hB
    refine a_ld C Z.1 aM_15 q33 dX12_move_179 ?_
    obtain ⟨q35, hB⟩ := hB
    refine a_st C Z aM_14 q35 dX12_move_180 (fun M34 H locs eM34 Z => ?_)
    have hB := hB M34 eM34
    obtain ⟨x6_36, ex6_36⟩ : ∃ y : Int32, y = x6 + 1 := ⟨_, rfl⟩
    have hB := hB x6_36 ex6_36
    refine lv_iinc (v := x6_36) (lv' := [(6, .int x6_36), (0, .ref (ad 0)), (3, .int x3), (4, .int x4), (5, .int x5)]) hx hb dX12_move_181 hl (k := 4) rfl (by rw [ex6_36]; rfl) (by decide) rfl (fun ls hl => ?_)
    refine lv_goto (tgt := 152) hx hb dX12_move_184 (by decide) ?_
    exact hX152 _ _ hB _ _ _ Z (lv_sub hl [1, 2, 3, 4, 0] rfl)
set_option maxRecDepth 100000 in
set_option maxHeartbeats 4000000 in
theorem w_X12_move_115 {M : Mem} {Q1 : Int32 → Mem → Prop} {x1 : Int32} {x2 : Int32} {x3 : Int32} {x4 : Int32} {x5 : Int32} {x6 : Int32} (C : Cx T D p s m args c cX12_move 7 "OneOfTwoModel") (hr : meth.sig.returnType = (some .int)) (hlk : meth.locks = false) (Z : Zz EM T D ad 16 A s.heap M H locs) {ls : Array Slot} (hl : lv_has ls 7 [(0, .ref (ad 0)), (1, .int x1), (2, .int x2), (3, .int x3), (4, .int x4), (5, .int x5), (6, .int x6)]) (hB : B_X12_move_115 Q1 x1 x2 x3 x4 x5 x6 M) : W p l e (RM 3) s m args below meth c H locs 0 0 (MQ below (QcW EM T D ad 16 A Q1) args s 0 0 A) (F0 m 115 ls []) := by
  delta B_X12_move_115 at hB
  obtain ⟨X115, hX115, hY115⟩ : ∃ X115 : Int32 → Mem → Prop, (∀ (x6 : Int32) (M : Mem), X115 x6 M → ∀ (H : Heap) (locs : List Loc) (ls : Array Slot), Zz EM T D ad 16 A s.heap M H locs → lv_has ls 7 [(0, .ref (ad 0)), (1, .int x1), (2, .int x2), (3, .int x3), (4, .int x4), (5, .int x5), (6, .int x6)] → W p l e (RM 3) s m args below meth c H locs 0 0 (MQ below (QcW EM T D ad 16 A Q1) args s 0 0 A) (F0 m 115 ls [])) ∧ (∀ (x6 : Int32) (M : Mem), (∀ (H : Heap) (locs : List Loc) (ls : Array Slot), Zz EM T D ad 16 A s.heap M H locs → lv_has ls 7 [(0, .ref (ad 0)), (1, .int x1), (2, .int x2), (3, .int x3), (4, .int x4), (5, .int x5), (6, .int x6)] → W p l e (RM 3) s m args below meth c H locs 0 0 (MQ below (QcW EM T D ad 16 A Q1) args s 0 0 A) (F0 m 115 ls [])) → X115 x6 M) := ⟨fun (x6 : Int32) (M : Mem) => ∀ (H : Heap) (locs : List Loc) (ls : Array Slot), Zz EM T D ad 16 A s.heap M H locs → lv_has ls 7 [(0, .ref (ad 0)), (1, .int x1), (2, .int x2), (3, .int x3), (4, .int x4), (5, .int x5), (6, .int x6)] → W p l e (RM 3) s m args below meth c H locs 0 0 (MQ below (QcW EM T D ad 16 A Q1) args s 0 0 A) (F0 m 115 ls []), fun _ _ h => h, fun _ _ h => h⟩
  refine hX115 _ _ (hB X115 (fun x6 M hB => hY115 _ _ (fun H locs ls Z hl => ?_))) _ _ _ Z hl
  have hx := C.x
  have hb := C.b
  refine lv_iload hx hb dX12_move_115 (lv_at hl 6 rfl) ?_
  refine lv_iload hx hb dX12_move_117 (lv_at hl 5 rfl) ?_
  refine lv_icmp_ge (tgt := 149) hx hb dX12_move_119 (by decide) (fun q31 => ?_) (fun q31 => ?_)
  · have hB := hB.1 q31
    refine lv_iconst (v := 0) hx hb dX12_move_149 (by decide) ?_
    refine lv_istore (lv' := [(6, .int 0), (0, .ref (ad 0)), (1, .int x1), (2, .int x2), (3, .int x3), (4, .int x4), (5, .int x5)]) hx hb dX12_move_150 hl (by decide) rfl (fun ls hl => ?_)
    exact w_X12_move_152 C hr hlk Z (lv_sub hl [1, 4, 5, 6, 0] rfl) hB
  · have hB := hB.2 q31
    refine lv_aload_n hx hb dX12_move_122 rfl (lv_at hl 0 rfl) ?_
    refine gf_X12_28 C Z.1 tw_5_126 dX12_move_123 ?_
    refine lv_iload hx hb dX12_move_126 (lv_at hl 6 rfl) ?_
    refine lv_aload_n hx hb dX12_move_128 rfl (lv_at hl 0 rfl) ?_
    refine gf_X12_27 C Z.1 tw_5_125 dX12_move_129 ?_
    refine lv_bipush (v := 40) hx hb dX12_move_132 (by decide) ?_
    refine lv_iload_n hx hb dX12_move_134 rfl (lv_at hl 1 rfl) ?_
    refine lv_imul hx hb dX12_move_135 ?_
    refine lv_iload_n hx hb dX12_move_136 rfl (lv_at hl 2 rfl) ?_
    refine lv_iadd hx hb dX12_move_137 ?_
    refine lv_iload hx hb dX12_move_138 (lv_at hl 6 rfl) ?_
    refine lv_iadd hx hb dX12_move_140 ?_
    obtain ⟨q37, hB⟩ := hB
    refine a_ld C Z.1 aM_14 q37 dX12_move_141 ?_
    obtain ⟨q39, hB⟩ := hB
    refine a_st C Z aM_15 q39 dX12_move_142 (fun M38 H locs eM38 Z => ?_)
    have hB := hB M38 eM38
    obtain ⟨x6_40, ex6_40⟩ : ∃ y : Int32, y = x6 + 1 := ⟨_, rfl⟩
    have hB := hB x6_40 ex6_40
    refine lv_iinc (v := x6_40) (lv' := [(6, .int x6_40), (0, .ref (ad 0)), (1, .int x1), (2, .int x2), (3, .int x3), (4, .int x4), (5, .int x5)]) hx hb dX12_move_143 hl (k := 6) rfl (by rw [ex6_40]; rfl) (by decide) rfl (fun ls hl => ?_)
    refine lv_goto (tgt := 115) hx hb dX12_move_146 (by decide) ?_
    exact hX115 _ _ hB _ _ _ Z (lv_sub hl [1, 2, 3, 4, 5, 6, 0] rfl)
set_option maxRecDepth 100000 in
set_option maxHeartbeats 4000000 in
theorem c_X12_move {l : Launch} {T : Nat → ClassId} {D : va_G} {ad : Nat → Nat} {M : Mem} {x1 : Int32} {x2 : Int32} {x3 : Int32} {x4 : Int32} {x5 : Int32} {sz : Nat} {Q1 : Int32 → Mem → Prop} (hB : P_X12_move M x1 x2 x3 x4 x5 Q1) : Met l yX12_move (Cond.code yX12_move cX12_move 7 (some .int) :: TB) (RM 3) (va_Pc [.ref (ad 0), .int x1, .int x2, .int x3, .int x4, .int x5] (WrP EM T D ad 16 M sz)) (QcW EM T D ad 16 (AA ad 16 sz) Q1) 0 0 (AA ad 16 sz) := by
  refine st_W (by decide) (Nat.le_of_ble_eq_true rfl) (fun p e s m args below meth c ls C hr hlk hsz Z hl => ?_)
  have hl : lv_has ls 7 [(0, .ref (ad 0)), (1, .int x1), (2, .int x2), (3, .int x3), (4, .int x4), (5, .int x5)] := hl
  generalize AA ad 16 sz = A at Z ⊢
  have hx := C.x
  have hb := C.b
  delta P_X12_move at hB
  refine lv_iload_n hx hb dX12_move_0 rfl (lv_at hl 1 rfl) ?_
  refine v_X12_isSheet C.1 hl.1 tw_7_40 ⟨Nat.le_of_ble_eq_true rfl, Nat.le_of_ble_eq_true rfl⟩ ⟨Nat.le_refl _, Nat.le_refl _⟩ (Nat.le_of_ble_eq_true rfl) dX12_move_1 hB (fun v1 hB => ?_)
  refine lv_if_eq (tgt := 14) hx hb dX12_move_4 (by decide) (fun q2 => ?_) (fun q2 => ?_)
  · have hB := hB.1 q2
    refine lv_aload_n hx hb dX12_move_14 rfl (lv_at hl 0 rfl) ?_
    refine lv_iconst (v := 1) hx hb dX12_move_15 (by decide) ?_
    refine v_X12_finds C hl.1 Z tw_5_194 ⟨Nat.le_of_ble_eq_true rfl, Nat.le_of_ble_eq_true rfl⟩ ⟨Nat.le_refl _, Nat.le_refl _⟩ (Nat.le_of_ble_eq_true rfl) dX12_move_16 hB (fun v3 M4 H locs hB Z => ?_)
    exact e_iW C hr hlk Z dX12_move_19 hB
  · have hB := hB.2 q2
    refine lv_iload_n hx hb dX12_move_7 rfl (lv_at hl 3 rfl) ?_
    refine v_X12_isSheet C.1 hl.1 tw_7_40 ⟨Nat.le_of_ble_eq_true rfl, Nat.le_of_ble_eq_true rfl⟩ ⟨Nat.le_refl _, Nat.le_refl _⟩ (Nat.le_of_ble_eq_true rfl) dX12_move_8 hB (fun v5 hB => ?_)
    refine lv_if_ne (tgt := 20) hx hb dX12_move_11 (by decide) (fun q6 => ?_) (fun q6 => ?_)
    · have hB := hB.1 q6
      refine lv_aload_n hx hb dX12_move_20 rfl (lv_at hl 0 rfl) ?_
      refine gf_X12_25 C Z.1 tw_5_123 dX12_move_21 ?_
      refine lv_iload_n hx hb dX12_move_24 rfl (lv_at hl 1 rfl) ?_
      obtain ⟨q7, hB⟩ := hB
      refine a_ld C Z.1 aM_12 q7 dX12_move_25 ?_
      refine lv_if_eq (tgt := 38) hx hb dX12_move_26 (by decide) (fun q8 => ?_) (fun q8 => ?_)
      · have hB := hB.1 q8
        refine lv_aload_n hx hb dX12_move_38 rfl (lv_at hl 0 rfl) ?_
        refine lv_iconst (v := 2) hx hb dX12_move_39 (by decide) ?_
        refine v_X12_finds C hl.1 Z tw_5_194 ⟨Nat.le_of_ble_eq_true rfl, Nat.le_of_ble_eq_true rfl⟩ ⟨Nat.le_refl _, Nat.le_refl _⟩ (Nat.le_of_ble_eq_true rfl) dX12_move_40 hB (fun v9 M10 H locs hB Z => ?_)
        exact e_iW C hr hlk Z dX12_move_43 hB
      · have hB := hB.2 q8
        refine lv_aload_n hx hb dX12_move_29 rfl (lv_at hl 0 rfl) ?_
        refine gf_X12_25 C Z.1 tw_5_123 dX12_move_30 ?_
        refine lv_iload_n hx hb dX12_move_33 rfl (lv_at hl 3 rfl) ?_
        obtain ⟨q11, hB⟩ := hB
        refine a_ld C Z.1 aM_12 q11 dX12_move_34 ?_
        refine lv_if_ne (tgt := 44) hx hb dX12_move_35 (by decide) (fun q12 => ?_) (fun q12 => ?_)
        · have hB := hB.1 q12
          refine lv_aload_n hx hb dX12_move_44 rfl (lv_at hl 0 rfl) ?_
          refine gf_X12_25 C Z.1 tw_5_123 dX12_move_45 ?_
          refine lv_iload_n hx hb dX12_move_48 rfl (lv_at hl 1 rfl) ?_
          obtain ⟨q13, hB⟩ := hB
          refine a_ld C Z.1 aM_12 q13 dX12_move_49 ?_
          refine lv_aload_n hx hb dX12_move_50 rfl (lv_at hl 0 rfl) ?_
          refine gf_X12_25 C Z.1 tw_5_123 dX12_move_51 ?_
          refine lv_iload_n hx hb dX12_move_54 rfl (lv_at hl 3 rfl) ?_
          obtain ⟨q14, hB⟩ := hB
          refine a_ld C Z.1 aM_12 q14 dX12_move_55 ?_
          refine lv_icmp_eq (tgt := 65) hx hb dX12_move_56 (by decide) (fun q15 => ?_) (fun q15 => ?_)
          · have hB := hB.1 q15
            refine lv_iload hx hb dX12_move_65 (lv_at hl 5 rfl) ?_
            refine lv_if_lt (tgt := 106) hx hb dX12_move_67 (by decide) (fun q16 => ?_) (fun q16 => ?_)
            · have hB := hB.1 q16
              refine lv_aload_n hx hb dX12_move_106 rfl (lv_at hl 0 rfl) ?_
              refine lv_iconst (v := 1) hx hb dX12_move_107 (by decide) ?_
              refine v_X12_finds C hl.1 Z tw_5_194 ⟨Nat.le_of_ble_eq_true rfl, Nat.le_of_ble_eq_true rfl⟩ ⟨Nat.le_refl _, Nat.le_refl _⟩ (Nat.le_of_ble_eq_true rfl) dX12_move_108 hB (fun v17 M18 H locs hB Z => ?_)
              exact e_iW C hr hlk Z dX12_move_111 hB
            · have hB := hB.2 q16
              refine lv_iload_n hx hb dX12_move_70 rfl (lv_at hl 2 rfl) ?_
              refine lv_if_lt (tgt := 106) hx hb dX12_move_71 (by decide) (fun q19 => ?_) (fun q19 => ?_)
              · have hB := hB.1 q19
                refine lv_aload_n hx hb dX12_move_106 rfl (lv_at hl 0 rfl) ?_
                refine lv_iconst (v := 1) hx hb dX12_move_107 (by decide) ?_
                refine v_X12_finds C hl.1 Z tw_5_194 ⟨Nat.le_of_ble_eq_true rfl, Nat.le_of_ble_eq_true rfl⟩ ⟨Nat.le_refl _, Nat.le_refl _⟩ (Nat.le_of_ble_eq_true rfl) dX12_move_108 hB (fun v20 M21 H locs hB Z => ?_)
                exact e_iW C hr hlk Z dX12_move_111 hB
              · have hB := hB.2 q19
                refine lv_iload hx hb dX12_move_74 (lv_at hl 4 rfl) ?_
                refine lv_if_lt (tgt := 106) hx hb dX12_move_76 (by decide) (fun q22 => ?_) (fun q22 => ?_)
                · have hB := hB.1 q22
                  refine lv_aload_n hx hb dX12_move_106 rfl (lv_at hl 0 rfl) ?_
                  refine lv_iconst (v := 1) hx hb dX12_move_107 (by decide) ?_
                  refine v_X12_finds C hl.1 Z tw_5_194 ⟨Nat.le_of_ble_eq_true rfl, Nat.le_of_ble_eq_true rfl⟩ ⟨Nat.le_refl _, Nat.le_refl _⟩ (Nat.le_of_ble_eq_true rfl) dX12_move_108 hB (fun v23 M24 H locs hB Z => ?_)
                  exact e_iW C hr hlk Z dX12_move_111 hB
                · have hB := hB.2 q22
                  refine lv_iload hx hb dX12_move_79 (lv_at hl 5 rfl) ?_
                  refine lv_aload_n hx hb dX12_move_81 rfl (lv_at hl 0 rfl) ?_
                  refine gf_X12_26 C Z.1 tw_5_124 dX12_move_82 ?_
                  refine lv_iload_n hx hb dX12_move_85 rfl (lv_at hl 1 rfl) ?_
                  obtain ⟨q25, hB⟩ := hB
                  refine a_ld C Z.1 aM_13 q25 dX12_move_86 ?_
                  refine lv_iload_n hx hb dX12_move_87 rfl (lv_at hl 2 rfl) ?_
                  refine lv_isub hx hb dX12_move_88 ?_
                  refine lv_icmp_gt (tgt := 106) hx hb dX12_move_89 (by decide) (fun q26 => ?_) (fun q26 => ?_)
                  · have hB := hB.1 q26
                    refine lv_aload_n hx hb dX12_move_106 rfl (lv_at hl 0 rfl) ?_
                    refine lv_iconst (v := 1) hx hb dX12_move_107 (by decide) ?_
                    refine v_X12_finds C hl.1 Z tw_5_194 ⟨Nat.le_of_ble_eq_true rfl, Nat.le_of_ble_eq_true rfl⟩ ⟨Nat.le_refl _, Nat.le_refl _⟩ (Nat.le_of_ble_eq_true rfl) dX12_move_108 hB (fun v27 M28 H locs hB Z => ?_)
                    exact e_iW C hr hlk Z dX12_move_111 hB
                  · have hB := hB.2 q26
                    refine lv_iload hx hb dX12_move_92 (lv_at hl 5 rfl) ?_
                    refine lv_aload_n hx hb dX12_move_94 rfl (lv_at hl 0 rfl) ?_
                    refine gf_X12_26 C Z.1 tw_5_124 dX12_move_95 ?_
                    refine lv_iload_n hx hb dX12_move_98 rfl (lv_at hl 3 rfl) ?_
                    obtain ⟨q29, hB⟩ := hB
                    refine a_ld C Z.1 aM_13 q29 dX12_move_99 ?_
                    refine lv_iload hx hb dX12_move_100 (lv_at hl 4 rfl) ?_
                    refine lv_isub hx hb dX12_move_102 ?_
                    refine lv_icmp_le (tgt := 112) hx hb dX12_move_103 (by decide) (fun q30 => ?_) (fun q30 => ?_)
                    · have hB := hB.1 q30
                      refine lv_iconst (v := 0) hx hb dX12_move_112 (by decide) ?_
                      refine lv_istore (lv' := [(6, .int 0), (0, .ref (ad 0)), (1, .int x1), (2, .int x2), (3, .int x3), (4, .int x4), (5, .int x5)]) hx hb dX12_move_113 hl (by decide) rfl (fun ls hl => ?_)
                      exact w_X12_move_115 C hr hlk Z (lv_sub hl [1, 2, 3, 4, 5, 6, 0] rfl) hB
                    · have hB := hB.2 q30
                      refine lv_aload_n hx hb dX12_move_106 rfl (lv_at hl 0 rfl) ?_
                      refine lv_iconst (v := 1) hx hb dX12_move_107 (by decide) ?_
                      refine v_X12_finds C hl.1 Z tw_5_194 ⟨Nat.le_of_ble_eq_true rfl, Nat.le_of_ble_eq_true rfl⟩ ⟨Nat.le_refl _, Nat.le_refl _⟩ (Nat.le_of_ble_eq_true rfl) dX12_move_108 hB (fun v41 M42 H locs hB Z => ?_)
                      exact e_iW C hr hlk Z dX12_move_111 hB
          · have hB := hB.2 q15
            refine lv_aload_n hx hb dX12_move_59 rfl (lv_at hl 0 rfl) ?_
            refine lv_iconst (v := 5) hx hb dX12_move_60 (by decide) ?_
            refine v_X12_finds C hl.1 Z tw_5_194 ⟨Nat.le_of_ble_eq_true rfl, Nat.le_of_ble_eq_true rfl⟩ ⟨Nat.le_refl _, Nat.le_refl _⟩ (Nat.le_of_ble_eq_true rfl) dX12_move_61 hB (fun v43 M44 H locs hB Z => ?_)
            exact e_iW C hr hlk Z dX12_move_64 hB
        · have hB := hB.2 q12
          refine lv_aload_n hx hb dX12_move_38 rfl (lv_at hl 0 rfl) ?_
          refine lv_iconst (v := 2) hx hb dX12_move_39 (by decide) ?_
          refine v_X12_finds C hl.1 Z tw_5_194 ⟨Nat.le_of_ble_eq_true rfl, Nat.le_of_ble_eq_true rfl⟩ ⟨Nat.le_refl _, Nat.le_refl _⟩ (Nat.le_of_ble_eq_true rfl) dX12_move_40 hB (fun v45 M46 H locs hB Z => ?_)
          exact e_iW C hr hlk Z dX12_move_43 hB
    · have hB := hB.2 q6
      refine lv_aload_n hx hb dX12_move_14 rfl (lv_at hl 0 rfl) ?_
      refine lv_iconst (v := 1) hx hb dX12_move_15 (by decide) ?_
      refine v_X12_finds C hl.1 Z tw_5_194 ⟨Nat.le_of_ble_eq_true rfl, Nat.le_of_ble_eq_true rfl⟩ ⟨Nat.le_refl _, Nat.le_refl _⟩ (Nat.le_of_ble_eq_true rfl) dX12_move_16 hB (fun v47 M48 H locs hB Z => ?_)
      exact e_iW C hr hlk Z dX12_move_19 hB
set_option maxRecDepth 100000 in
set_option maxHeartbeats 4000000 in
theorem v_X12_move {M : Mem} {x1 : Int32} {x2 : Int32} {x3 : Int32} {x4 : Int32} {x5 : Int32} {Q1 : Int32 → Mem → Prop} (C : Cx T D p s m args c cc nL own) (hls : ls.size = nL) (Z : Zz EM T D ad 16 A H0 M H locs) (hlink : Cond.methodLink own index yX12_move ∈ TB) (hR : 3 + 1 ≤ R.frames ∧ 8 + (7 + 11) + 48 * 3 ≤ R.locals) (hcs : cells ≤ R.cells ∧ slots ≤ R.slots) (hcat : (rest.map fun v => v.category).sum ≤ 8) (hdg : decode cc pc = .ok (.invokevirtual index, 3)) (hB : P_X12_move M x1 x2 x3 x4 x5 Q1)
    (kk : ∀ (r : Int32) (M1 : Mem) (H1 : Heap) (locs1 : List Loc), Q1 r M1 → Zz EM T D ad 16 A H0 M1 H1 locs1 → W p l e R s m args below meth c H1 locs1 cells slots QQ (F0 m (pc + 3) ls (.int r :: rest))) : W p l e R s m args below meth c H locs cells slots QQ (F0 m pc ls (.int x5 :: .int x4 :: .int x3 :: .int x2 :: .int x1 :: .ref (ad 0) :: rest)) :=
  k_VW (ci := 12) (n := 5) (c_X12_move hB) tw_7_90 tw_7_88 tw_7_89 tw_1_12 ⟨rfl, by decide, by decide, by decide +kernel⟩ rfl rfl C hls Z oM hlink hR hcs hcat rfl hdg kk
def B_X12_judge_76 (Q1 : Int32 → Mem → Prop) (x1 : Int32) (x2 : Int32) (M : Mem) : Prop :=
  vp_in x1 4 ∧ ((¬ x2 = (M 13 x1.toNatClampNeg) → Q1 x2 M) ∧
    (x2 = (M 13 x1.toNatClampNeg) → ((¬ x2 = (M 1 0) → Q1 x2 M) ∧
      (x2 = (M 1 0) → Q1 (-1) M))))
def B_X12_judge_30 (Q1 : Int32 → Mem → Prop) (x1 : Int32) (x2 : Int32) (M : Mem) : Prop :=
  ∀ X30 : Int32 → Mem → Prop, (∀ (x2 : Int32) (M : Mem), (vp_in x1 4 ∧ (((M 13 x1.toNatClampNeg) ≤ x2 → B_X12_judge_76 Q1 x1 x2 M) ∧
    (¬ (M 13 x1.toNatClampNeg) ≤ x2 → (((M 1 0) ≤ x2 → B_X12_judge_76 Q1 x1 x2 M) ∧
      (¬ (M 1 0) ≤ x2 → vp_in ((40 * x1) + x2) 160 ∧ P_X12_its M x2 1 (fun v12 => ((¬ (M 14 ((40 * x1) + x2).toNatClampNeg) = v12 → B_X12_judge_76 Q1 x1 x2 M) ∧
        ((M 14 ((40 * x1) + x2).toNatClampNeg) = v12 → ∀ x2_14 : Int32, x2_14 = x2 + 1 → X30 x2_14 M)))))))) → X30 x2 M) → X30 x2 M
def P_X12_judge (M : Mem) (x1 : Int32) (Q1 : Int32 → Mem → Prop) : Prop :=
  P_X12_isSheet x1 (fun v1 => ((¬ v1 = 0 → vp_in x1 4 ∧ ((¬ (M 12 x1.toNatClampNeg) = 0 → B_X12_judge_30 Q1 x1 0 M) ∧
      ((M 12 x1.toNatClampNeg) = 0 → P_X12_finds M 2 (fun v15 M16 => Q1 v15 M16)))) ∧
    (v1 = 0 → P_X12_finds M 1 (fun v17 M18 => Q1 v17 M18))))
set_option maxRecDepth 100000 in
set_option maxHeartbeats 4000000 in
theorem w_X12_judge_76 {M : Mem} {Q1 : Int32 → Mem → Prop} {x1 : Int32} {x2 : Int32} (C : Cx T D p s m args c cX12_judge 3 "OneOfTwoModel") (hr : meth.sig.returnType = (some .int)) (hlk : meth.locks = false) (Z : Zz EM T D ad 16 A s.heap M H locs) {ls : Array Slot} (hl : lv_has ls 3 [(0, .ref (ad 0)), (1, .int x1), (2, .int x2)]) (hB : B_X12_judge_76 Q1 x1 x2 M) : W p l e (RM 3) s m args below meth c H locs 0 0 (MQ below (QcW EM T D ad 16 A Q1) args s 0 0 A) (F0 m 76 ls []) := by
  have hx := C.x
  have hb := C.b
  delta B_X12_judge_76 at hB
  refine lv_iload_n hx hb dX12_judge_76 rfl (lv_at hl 2 rfl) ?_
  refine lv_aload_n hx hb dX12_judge_77 rfl (lv_at hl 0 rfl) ?_
  refine gf_X12_26 C Z.1 tw_5_124 dX12_judge_78 ?_
  refine lv_iload_n hx hb dX12_judge_81 rfl (lv_at hl 1 rfl) ?_
  obtain ⟨q7, hB⟩ := hB
  refine a_ld C Z.1 aM_13 q7 dX12_judge_82 ?_
  refine lv_icmp_ne (tgt := 100) hx hb dX12_judge_83 (by decide) (fun q8 => ?_) (fun q8 => ?_)
  · have hB := hB.1 q8
    refine lv_iload_n hx hb dX12_judge_100 rfl (lv_at hl 2 rfl) ?_
    exact e_iW C hr hlk Z dX12_judge_101 hB
  · have hB := hB.2 q8
    refine lv_iload_n hx hb dX12_judge_86 rfl (lv_at hl 2 rfl) ?_
    refine lv_aload_n hx hb dX12_judge_87 rfl (lv_at hl 0 rfl) ?_
    refine gf_X12_0 C Z.1 tw_5_98 dX12_judge_88 ?_
    refine lv_iconst (v := 0) hx hb dX12_judge_91 (by decide) ?_
    refine a_ldc C Z.1 aM_1 (vin rfl) (j := 0) rfl dX12_judge_92 ?_
    refine lv_icmp_ne (tgt := 100) hx hb dX12_judge_93 (by decide) (fun q9 => ?_) (fun q9 => ?_)
    · have hB := hB.1 q9
      refine lv_iload_n hx hb dX12_judge_100 rfl (lv_at hl 2 rfl) ?_
      exact e_iW C hr hlk Z dX12_judge_101 hB
    · have hB := hB.2 q9
      refine lv_iconst (v := (-1)) hx hb dX12_judge_96 (by decide) ?_
      refine lv_goto (tgt := 101) hx hb dX12_judge_97 (by decide) ?_
      exact e_iW C hr hlk Z dX12_judge_101 hB
set_option maxRecDepth 100000 in
set_option maxHeartbeats 4000000 in
theorem w_X12_judge_30 {M : Mem} {Q1 : Int32 → Mem → Prop} {x1 : Int32} {x2 : Int32} (C : Cx T D p s m args c cX12_judge 3 "OneOfTwoModel") (hr : meth.sig.returnType = (some .int)) (hlk : meth.locks = false) (Z : Zz EM T D ad 16 A s.heap M H locs) {ls : Array Slot} (hl : lv_has ls 3 [(0, .ref (ad 0)), (1, .int x1), (2, .int x2)]) (hB : B_X12_judge_30 Q1 x1 x2 M) : W p l e (RM 3) s m args below meth c H locs 0 0 (MQ below (QcW EM T D ad 16 A Q1) args s 0 0 A) (F0 m 30 ls []) := by
  delta B_X12_judge_30 at hB
  obtain ⟨X30, hX30, hY30⟩ : ∃ X30 : Int32 → Mem → Prop, (∀ (x2 : Int32) (M : Mem), X30 x2 M → ∀ (H : Heap) (locs : List Loc) (ls : Array Slot), Zz EM T D ad 16 A s.heap M H locs → lv_has ls 3 [(0, .ref (ad 0)), (1, .int x1), (2, .int x2)] → W p l e (RM 3) s m args below meth c H locs 0 0 (MQ below (QcW EM T D ad 16 A Q1) args s 0 0 A) (F0 m 30 ls [])) ∧ (∀ (x2 : Int32) (M : Mem), (∀ (H : Heap) (locs : List Loc) (ls : Array Slot), Zz EM T D ad 16 A s.heap M H locs → lv_has ls 3 [(0, .ref (ad 0)), (1, .int x1), (2, .int x2)] → W p l e (RM 3) s m args below meth c H locs 0 0 (MQ below (QcW EM T D ad 16 A Q1) args s 0 0 A) (F0 m 30 ls [])) → X30 x2 M) := ⟨fun (x2 : Int32) (M : Mem) => ∀ (H : Heap) (locs : List Loc) (ls : Array Slot), Zz EM T D ad 16 A s.heap M H locs → lv_has ls 3 [(0, .ref (ad 0)), (1, .int x1), (2, .int x2)] → W p l e (RM 3) s m args below meth c H locs 0 0 (MQ below (QcW EM T D ad 16 A Q1) args s 0 0 A) (F0 m 30 ls []), fun _ _ h => h, fun _ _ h => h⟩
  refine hX30 _ _ (hB X30 (fun x2 M hB => hY30 _ _ (fun H locs ls Z hl => ?_))) _ _ _ Z hl
  have hx := C.x
  have hb := C.b
  refine lv_iload_n hx hb dX12_judge_30 rfl (lv_at hl 2 rfl) ?_
  refine lv_aload_n hx hb dX12_judge_31 rfl (lv_at hl 0 rfl) ?_
  refine gf_X12_26 C Z.1 tw_5_124 dX12_judge_32 ?_
  refine lv_iload_n hx hb dX12_judge_35 rfl (lv_at hl 1 rfl) ?_
  obtain ⟨q5, hB⟩ := hB
  refine a_ld C Z.1 aM_13 q5 dX12_judge_36 ?_
  refine lv_icmp_ge (tgt := 76) hx hb dX12_judge_37 (by decide) (fun q6 => ?_) (fun q6 => ?_)
  · have hB := hB.1 q6
    exact w_X12_judge_76 C hr hlk Z (lv_sub hl [0, 1, 2] rfl) hB
  · have hB := hB.2 q6
    refine lv_iload_n hx hb dX12_judge_40 rfl (lv_at hl 2 rfl) ?_
    refine lv_aload_n hx hb dX12_judge_41 rfl (lv_at hl 0 rfl) ?_
    refine gf_X12_0 C Z.1 tw_5_98 dX12_judge_42 ?_
    refine lv_iconst (v := 0) hx hb dX12_judge_45 (by decide) ?_
    refine a_ldc C Z.1 aM_1 (vin rfl) (j := 0) rfl dX12_judge_46 ?_
    refine lv_icmp_ge (tgt := 76) hx hb dX12_judge_47 (by decide) (fun q10 => ?_) (fun q10 => ?_)
    · have hB := hB.1 q10
      exact w_X12_judge_76 C hr hlk Z (lv_sub hl [0, 1, 2] rfl) hB
    · have hB := hB.2 q10
      refine lv_aload_n hx hb dX12_judge_50 rfl (lv_at hl 0 rfl) ?_
      refine gf_X12_27 C Z.1 tw_5_125 dX12_judge_51 ?_
      refine lv_bipush (v := 40) hx hb dX12_judge_54 (by decide) ?_
      refine lv_iload_n hx hb dX12_judge_56 rfl (lv_at hl 1 rfl) ?_
      refine lv_imul hx hb dX12_judge_57 ?_
      refine lv_iload_n hx hb dX12_judge_58 rfl (lv_at hl 2 rfl) ?_
      refine lv_iadd hx hb dX12_judge_59 ?_
      obtain ⟨q11, hB⟩ := hB
      refine a_ld C Z.1 aM_14 q11 dX12_judge_60 ?_
      refine lv_aload_n hx hb dX12_judge_61 rfl (lv_at hl 0 rfl) ?_
      refine lv_iload_n hx hb dX12_judge_62 rfl (lv_at hl 2 rfl) ?_
      refine lv_iconst (v := 1) hx hb dX12_judge_63 (by decide) ?_
      refine v_X12_its C hl.1 Z.1 tw_6_39 ⟨Nat.le_of_ble_eq_true rfl, Nat.le_of_ble_eq_true rfl⟩ ⟨Nat.le_refl _, Nat.le_refl _⟩ (Nat.le_of_ble_eq_true rfl) dX12_judge_64 hB (fun v12 hB => ?_)
      refine lv_icmp_ne (tgt := 76) hx hb dX12_judge_67 (by decide) (fun q13 => ?_) (fun q13 => ?_)
      · have hB := hB.1 q13
        exact w_X12_judge_76 C hr hlk Z (lv_sub hl [0, 1, 2] rfl) hB
      · have hB := hB.2 q13
        obtain ⟨x2_14, ex2_14⟩ : ∃ y : Int32, y = x2 + 1 := ⟨_, rfl⟩
        have hB := hB x2_14 ex2_14
        refine lv_iinc (v := x2_14) (lv' := [(2, .int x2_14), (0, .ref (ad 0)), (1, .int x1)]) hx hb dX12_judge_70 hl (k := 2) rfl (by rw [ex2_14]; rfl) (by decide) rfl (fun ls hl => ?_)
        refine lv_goto (tgt := 30) hx hb dX12_judge_73 (by decide) ?_
        exact hX30 _ _ hB _ _ _ Z (lv_sub hl [1, 2, 0] rfl)
set_option maxRecDepth 100000 in
set_option maxHeartbeats 4000000 in
theorem c_X12_judge {l : Launch} {T : Nat → ClassId} {D : va_G} {ad : Nat → Nat} {M : Mem} {x1 : Int32} {sz : Nat} {Q1 : Int32 → Mem → Prop} (hB : P_X12_judge M x1 Q1) : Met l yX12_judge (Cond.code yX12_judge cX12_judge 3 (some .int) :: TB) (RM 3) (va_Pc [.ref (ad 0), .int x1] (WrP EM T D ad 16 M sz)) (QcW EM T D ad 16 (AA ad 16 sz) Q1) 0 0 (AA ad 16 sz) := by
  refine st_W (by decide) (Nat.le_of_ble_eq_true rfl) (fun p e s m args below meth c ls C hr hlk hsz Z hl => ?_)
  have hl : lv_has ls 3 [(0, .ref (ad 0)), (1, .int x1)] := hl
  generalize AA ad 16 sz = A at Z ⊢
  have hx := C.x
  have hb := C.b
  delta P_X12_judge at hB
  refine lv_iload_n hx hb dX12_judge_0 rfl (lv_at hl 1 rfl) ?_
  refine v_X12_isSheet C.1 hl.1 tw_7_40 ⟨Nat.le_of_ble_eq_true rfl, Nat.le_of_ble_eq_true rfl⟩ ⟨Nat.le_refl _, Nat.le_refl _⟩ (Nat.le_of_ble_eq_true rfl) dX12_judge_1 hB (fun v1 hB => ?_)
  refine lv_if_ne (tgt := 13) hx hb dX12_judge_4 (by decide) (fun q2 => ?_) (fun q2 => ?_)
  · have hB := hB.1 q2
    refine lv_aload_n hx hb dX12_judge_13 rfl (lv_at hl 0 rfl) ?_
    refine gf_X12_25 C Z.1 tw_5_123 dX12_judge_14 ?_
    refine lv_iload_n hx hb dX12_judge_17 rfl (lv_at hl 1 rfl) ?_
    obtain ⟨q3, hB⟩ := hB
    refine a_ld C Z.1 aM_12 q3 dX12_judge_18 ?_
    refine lv_if_ne (tgt := 28) hx hb dX12_judge_19 (by decide) (fun q4 => ?_) (fun q4 => ?_)
    · have hB := hB.1 q4
      refine lv_iconst (v := 0) hx hb dX12_judge_28 (by decide) ?_
      refine lv_istore_n (lv' := [(2, .int 0), (0, .ref (ad 0)), (1, .int x1)]) hx hb dX12_judge_29 rfl hl (by decide) rfl (fun ls hl => ?_)
      exact w_X12_judge_30 C hr hlk Z (lv_sub hl [1, 2, 0] rfl) hB
    · have hB := hB.2 q4
      refine lv_aload_n hx hb dX12_judge_22 rfl (lv_at hl 0 rfl) ?_
      refine lv_iconst (v := 2) hx hb dX12_judge_23 (by decide) ?_
      refine v_X12_finds C hl.1 Z tw_5_194 ⟨Nat.le_of_ble_eq_true rfl, Nat.le_of_ble_eq_true rfl⟩ ⟨Nat.le_refl _, Nat.le_refl _⟩ (Nat.le_of_ble_eq_true rfl) dX12_judge_24 hB (fun v15 M16 H locs hB Z => ?_)
      exact e_iW C hr hlk Z dX12_judge_27 hB
  · have hB := hB.2 q2
    refine lv_aload_n hx hb dX12_judge_7 rfl (lv_at hl 0 rfl) ?_
    refine lv_iconst (v := 1) hx hb dX12_judge_8 (by decide) ?_
    refine v_X12_finds C hl.1 Z tw_5_194 ⟨Nat.le_of_ble_eq_true rfl, Nat.le_of_ble_eq_true rfl⟩ ⟨Nat.le_refl _, Nat.le_refl _⟩ (Nat.le_of_ble_eq_true rfl) dX12_judge_9 hB (fun v17 M18 H locs hB Z => ?_)
    exact e_iW C hr hlk Z dX12_judge_12 hB
set_option maxRecDepth 100000 in
set_option maxHeartbeats 4000000 in
theorem v_X12_judge {M : Mem} {x1 : Int32} {Q1 : Int32 → Mem → Prop} (C : Cx T D p s m args c cc nL own) (hls : ls.size = nL) (Z : Zz EM T D ad 16 A H0 M H locs) (hlink : Cond.methodLink own index yX12_judge ∈ TB) (hR : 3 + 1 ≤ R.frames ∧ 8 + (3 + 11) + 48 * 3 ≤ R.locals) (hcs : cells ≤ R.cells ∧ slots ≤ R.slots) (hcat : (rest.map fun v => v.category).sum ≤ 8) (hdg : decode cc pc = .ok (.invokevirtual index, 3)) (hB : P_X12_judge M x1 Q1)
    (kk : ∀ (r : Int32) (M1 : Mem) (H1 : Heap) (locs1 : List Loc), Q1 r M1 → Zz EM T D ad 16 A H0 M1 H1 locs1 → W p l e R s m args below meth c H1 locs1 cells slots QQ (F0 m (pc + 3) ls (.int r :: rest))) : W p l e R s m args below meth c H locs cells slots QQ (F0 m pc ls (.int x1 :: .ref (ad 0) :: rest)) :=
  k_VW (ci := 12) (n := 1) (c_X12_judge hB) tw_7_94 tw_7_92 tw_7_93 tw_1_12 ⟨rfl, by decide, by decide, by decide +kernel⟩ rfl rfl C hls Z oM hlink hR hcs hcat rfl hdg kk
def B_X12_image_2 (Q1 : Int32 → Mem → Prop) (x1 : Int32) (M : Mem) : Prop :=
  ∀ X2 : Int32 → Mem → Prop, (∀ (x1 : Int32) (M : Mem), (((264 ≤ x1 → ∀ v2 : Int32, v2 = (M 0 3) + 1 → ∀ M3 : Mem, M3 = sf M 0 3 v2 → Q1 (M3 0 3) M3) ∧
    (¬ 264 ≤ x1 → vp_in x1 264 ∧ vp_in x1 264 ∧ ∀ M5 : Mem, M5 = sf M 2 x1.toNatClampNeg (M 1 x1.toNatClampNeg) → ∀ x1_7 : Int32, x1_7 = x1 + 1 → X2 x1_7 M5))) → X2 x1 M) → X2 x1 M
def P_X12_image (M : Mem) (Q1 : Int32 → Mem → Prop) : Prop :=
  B_X12_image_2 Q1 0 M
set_option maxRecDepth 100000 in
set_option maxHeartbeats 4000000 in
theorem w_X12_image_2 {M : Mem} {Q1 : Int32 → Mem → Prop} {x1 : Int32} (C : Cx T D p s m args c cX12_image 2 "OneOfTwoModel") (hr : meth.sig.returnType = (some .int)) (hlk : meth.locks = false) (Z : Zz EM T D ad 16 A s.heap M H locs) {ls : Array Slot} (hl : lv_has ls 2 [(0, .ref (ad 0)), (1, .int x1)]) (hB : B_X12_image_2 Q1 x1 M) : W p l e (RM 1) s m args below meth c H locs 0 0 (MQ below (QcW EM T D ad 16 A Q1) args s 0 0 A) (F0 m 2 ls []) := by
  delta B_X12_image_2 at hB
  obtain ⟨X2, hX2, hY2⟩ : ∃ X2 : Int32 → Mem → Prop, (∀ (x1 : Int32) (M : Mem), X2 x1 M → ∀ (H : Heap) (locs : List Loc) (ls : Array Slot), Zz EM T D ad 16 A s.heap M H locs → lv_has ls 2 [(0, .ref (ad 0)), (1, .int x1)] → W p l e (RM 1) s m args below meth c H locs 0 0 (MQ below (QcW EM T D ad 16 A Q1) args s 0 0 A) (F0 m 2 ls [])) ∧ (∀ (x1 : Int32) (M : Mem), (∀ (H : Heap) (locs : List Loc) (ls : Array Slot), Zz EM T D ad 16 A s.heap M H locs → lv_has ls 2 [(0, .ref (ad 0)), (1, .int x1)] → W p l e (RM 1) s m args below meth c H locs 0 0 (MQ below (QcW EM T D ad 16 A Q1) args s 0 0 A) (F0 m 2 ls [])) → X2 x1 M) := ⟨fun (x1 : Int32) (M : Mem) => ∀ (H : Heap) (locs : List Loc) (ls : Array Slot), Zz EM T D ad 16 A s.heap M H locs → lv_has ls 2 [(0, .ref (ad 0)), (1, .int x1)] → W p l e (RM 1) s m args below meth c H locs 0 0 (MQ below (QcW EM T D ad 16 A Q1) args s 0 0 A) (F0 m 2 ls []), fun _ _ h => h, fun _ _ h => h⟩
  refine hX2 _ _ (hB X2 (fun x1 M hB => hY2 _ _ (fun H locs ls Z hl => ?_))) _ _ _ Z hl
  have hx := C.x
  have hb := C.b
  refine lv_iload_n hx hb dX12_image_2 rfl (lv_at hl 1 rfl) ?_
  refine lv_sipush (v := 264) hx hb dX12_image_3 (by decide) ?_
  refine lv_icmp_ge (tgt := 27) hx hb dX12_image_6 (by decide) (fun q1 => ?_) (fun q1 => ?_)
  · have hB := hB.1 q1
    refine lv_aload_n hx hb dX12_image_27 rfl (lv_at hl 0 rfl) ?_
    refine lv_dup hx hb dX12_image_28 rfl ?_
    refine gf_X12_3 C Z.1 tw_5_101 dX12_image_29 ?_
    refine lv_iconst (v := 1) hx hb dX12_image_32 (by decide) ?_
    refine lv_iadd hx hb dX12_image_33 ?_
    refine lv_topi (fun v2 ev2 => ?_)
    have hB := hB v2 ev2
    refine pf_X12_3 C Z tw_5_101 dX12_image_34 (fun M3 H locs eM3 Z => ?_)
    have hB := hB M3 eM3
    refine lv_aload_n hx hb dX12_image_37 rfl (lv_at hl 0 rfl) ?_
    refine gf_X12_3 C Z.1 tw_5_101 dX12_image_38 ?_
    exact e_iW C hr hlk Z dX12_image_41 hB
  · have hB := hB.2 q1
    refine lv_aload_n hx hb dX12_image_9 rfl (lv_at hl 0 rfl) ?_
    refine gf_X12_1 C Z.1 tw_5_99 dX12_image_10 ?_
    refine lv_iload_n hx hb dX12_image_13 rfl (lv_at hl 1 rfl) ?_
    refine lv_aload_n hx hb dX12_image_14 rfl (lv_at hl 0 rfl) ?_
    refine gf_X12_0 C Z.1 tw_5_98 dX12_image_15 ?_
    refine lv_iload_n hx hb dX12_image_18 rfl (lv_at hl 1 rfl) ?_
    obtain ⟨q4, hB⟩ := hB
    refine a_ld C Z.1 aM_1 q4 dX12_image_19 ?_
    obtain ⟨q6, hB⟩ := hB
    refine a_st C Z aM_2 q6 dX12_image_20 (fun M5 H locs eM5 Z => ?_)
    have hB := hB M5 eM5
    obtain ⟨x1_7, ex1_7⟩ : ∃ y : Int32, y = x1 + 1 := ⟨_, rfl⟩
    have hB := hB x1_7 ex1_7
    refine lv_iinc (v := x1_7) (lv' := [(1, .int x1_7), (0, .ref (ad 0))]) hx hb dX12_image_21 hl (k := 1) rfl (by rw [ex1_7]; rfl) (by decide) rfl (fun ls hl => ?_)
    refine lv_goto (tgt := 2) hx hb dX12_image_24 (by decide) ?_
    exact hX2 _ _ hB _ _ _ Z (lv_sub hl [1, 0] rfl)
set_option maxRecDepth 100000 in
set_option maxHeartbeats 4000000 in
theorem c_X12_image {l : Launch} {T : Nat → ClassId} {D : va_G} {ad : Nat → Nat} {M : Mem} {sz : Nat} {Q1 : Int32 → Mem → Prop} (hB : P_X12_image M Q1) : Met l yX12_image (Cond.code yX12_image cX12_image 2 (some .int) :: TB) (RM 1) (va_Pc [.ref (ad 0)] (WrP EM T D ad 16 M sz)) (QcW EM T D ad 16 (AA ad 16 sz) Q1) 0 0 (AA ad 16 sz) := by
  refine st_W (by decide) (Nat.le_of_ble_eq_true rfl) (fun p e s m args below meth c ls C hr hlk hsz Z hl => ?_)
  have hl : lv_has ls 2 [(0, .ref (ad 0))] := hl
  generalize AA ad 16 sz = A at Z ⊢
  have hx := C.x
  have hb := C.b
  delta P_X12_image at hB
  refine lv_iconst (v := 0) hx hb dX12_image_0 (by decide) ?_
  refine lv_istore_n (lv' := [(1, .int 0), (0, .ref (ad 0))]) hx hb dX12_image_1 rfl hl (by decide) rfl (fun ls hl => ?_)
  exact w_X12_image_2 C hr hlk Z (lv_sub hl [1, 0] rfl) hB
set_option maxRecDepth 100000 in
set_option maxHeartbeats 4000000 in
theorem v_X12_image {M : Mem} {Q1 : Int32 → Mem → Prop} (C : Cx T D p s m args c cc nL own) (hls : ls.size = nL) (Z : Zz EM T D ad 16 A H0 M H locs) (hlink : Cond.methodLink own index yX12_image ∈ TB) (hR : 1 + 1 ≤ R.frames ∧ 8 + (2 + 11) + 48 * 1 ≤ R.locals) (hcs : cells ≤ R.cells ∧ slots ≤ R.slots) (hcat : (rest.map fun v => v.category).sum ≤ 8) (hdg : decode cc pc = .ok (.invokevirtual index, 3)) (hB : P_X12_image M Q1)
    (kk : ∀ (r : Int32) (M1 : Mem) (H1 : Heap) (locs1 : List Loc), Q1 r M1 → Zz EM T D ad 16 A H0 M1 H1 locs1 → W p l e R s m args below meth c H1 locs1 cells slots QQ (F0 m (pc + 3) ls (.int r :: rest))) : W p l e R s m args below meth c H locs cells slots QQ (F0 m pc ls (.ref (ad 0) :: rest)) :=
  k_VW (ci := 12) (n := 0) (c_X12_image hB) tw_7_98 tw_7_96 tw_7_97 tw_1_12 ⟨rfl, by decide, by decide, by decide +kernel⟩ rfl rfl C hls Z oM hlink hR hcs hcat rfl hdg kk
def B_X12_restore_15 (Q1 : Int32 → Mem → Prop) (x1 : Int32) (M : Mem) : Prop :=
  ∀ X15 : Int32 → Mem → Prop, (∀ (x1 : Int32) (M : Mem), (((264 ≤ x1 → Q1 (M 1 3) M) ∧
    (¬ 264 ≤ x1 → vp_in x1 264 ∧ vp_in x1 264 ∧ ∀ M4 : Mem, M4 = sf M 1 x1.toNatClampNeg (M 2 x1.toNatClampNeg) → ∀ x1_6 : Int32, x1_6 = x1 + 1 → X15 x1_6 M4))) → X15 x1 M) → X15 x1 M
def P_X12_restore (M : Mem) (Q1 : Int32 → Mem → Prop) : Prop :=
  ((¬ (M 0 3) = 0 → B_X12_restore_15 Q1 0 M) ∧
    ((M 0 3) = 0 → P_X12_finds M 2 (fun v7 M8 => Q1 v7 M8)))
set_option maxRecDepth 100000 in
set_option maxHeartbeats 4000000 in
theorem w_X12_restore_15 {M : Mem} {Q1 : Int32 → Mem → Prop} {x1 : Int32} (C : Cx T D p s m args c cX12_restore 2 "OneOfTwoModel") (hr : meth.sig.returnType = (some .int)) (hlk : meth.locks = false) (Z : Zz EM T D ad 16 A s.heap M H locs) {ls : Array Slot} (hl : lv_has ls 2 [(0, .ref (ad 0)), (1, .int x1)]) (hB : B_X12_restore_15 Q1 x1 M) : W p l e (RM 2) s m args below meth c H locs 0 0 (MQ below (QcW EM T D ad 16 A Q1) args s 0 0 A) (F0 m 15 ls []) := by
  delta B_X12_restore_15 at hB
  obtain ⟨X15, hX15, hY15⟩ : ∃ X15 : Int32 → Mem → Prop, (∀ (x1 : Int32) (M : Mem), X15 x1 M → ∀ (H : Heap) (locs : List Loc) (ls : Array Slot), Zz EM T D ad 16 A s.heap M H locs → lv_has ls 2 [(0, .ref (ad 0)), (1, .int x1)] → W p l e (RM 2) s m args below meth c H locs 0 0 (MQ below (QcW EM T D ad 16 A Q1) args s 0 0 A) (F0 m 15 ls [])) ∧ (∀ (x1 : Int32) (M : Mem), (∀ (H : Heap) (locs : List Loc) (ls : Array Slot), Zz EM T D ad 16 A s.heap M H locs → lv_has ls 2 [(0, .ref (ad 0)), (1, .int x1)] → W p l e (RM 2) s m args below meth c H locs 0 0 (MQ below (QcW EM T D ad 16 A Q1) args s 0 0 A) (F0 m 15 ls [])) → X15 x1 M) := ⟨fun (x1 : Int32) (M : Mem) => ∀ (H : Heap) (locs : List Loc) (ls : Array Slot), Zz EM T D ad 16 A s.heap M H locs → lv_has ls 2 [(0, .ref (ad 0)), (1, .int x1)] → W p l e (RM 2) s m args below meth c H locs 0 0 (MQ below (QcW EM T D ad 16 A Q1) args s 0 0 A) (F0 m 15 ls []), fun _ _ h => h, fun _ _ h => h⟩
  refine hX15 _ _ (hB X15 (fun x1 M hB => hY15 _ _ (fun H locs ls Z hl => ?_))) _ _ _ Z hl
  have hx := C.x
  have hb := C.b
  refine lv_iload_n hx hb dX12_restore_15 rfl (lv_at hl 1 rfl) ?_
  refine lv_sipush (v := 264) hx hb dX12_restore_16 (by decide) ?_
  refine lv_icmp_ge (tgt := 40) hx hb dX12_restore_19 (by decide) (fun q2 => ?_) (fun q2 => ?_)
  · have hB := hB.1 q2
    refine lv_aload_n hx hb dX12_restore_40 rfl (lv_at hl 0 rfl) ?_
    refine gf_X12_0 C Z.1 tw_5_98 dX12_restore_41 ?_
    refine lv_iconst (v := 3) hx hb dX12_restore_44 (by decide) ?_
    refine a_ldc C Z.1 aM_1 (vin rfl) (j := 3) rfl dX12_restore_45 ?_
    exact e_iW C hr hlk Z dX12_restore_46 hB
  · have hB := hB.2 q2
    refine lv_aload_n hx hb dX12_restore_22 rfl (lv_at hl 0 rfl) ?_
    refine gf_X12_0 C Z.1 tw_5_98 dX12_restore_23 ?_
    refine lv_iload_n hx hb dX12_restore_26 rfl (lv_at hl 1 rfl) ?_
    refine lv_aload_n hx hb dX12_restore_27 rfl (lv_at hl 0 rfl) ?_
    refine gf_X12_1 C Z.1 tw_5_99 dX12_restore_28 ?_
    refine lv_iload_n hx hb dX12_restore_31 rfl (lv_at hl 1 rfl) ?_
    obtain ⟨q3, hB⟩ := hB
    refine a_ld C Z.1 aM_2 q3 dX12_restore_32 ?_
    obtain ⟨q5, hB⟩ := hB
    refine a_st C Z aM_1 q5 dX12_restore_33 (fun M4 H locs eM4 Z => ?_)
    have hB := hB M4 eM4
    obtain ⟨x1_6, ex1_6⟩ : ∃ y : Int32, y = x1 + 1 := ⟨_, rfl⟩
    have hB := hB x1_6 ex1_6
    refine lv_iinc (v := x1_6) (lv' := [(1, .int x1_6), (0, .ref (ad 0))]) hx hb dX12_restore_34 hl (k := 1) rfl (by rw [ex1_6]; rfl) (by decide) rfl (fun ls hl => ?_)
    refine lv_goto (tgt := 15) hx hb dX12_restore_37 (by decide) ?_
    exact hX15 _ _ hB _ _ _ Z (lv_sub hl [1, 0] rfl)
set_option maxRecDepth 100000 in
set_option maxHeartbeats 4000000 in
theorem c_X12_restore {l : Launch} {T : Nat → ClassId} {D : va_G} {ad : Nat → Nat} {M : Mem} {sz : Nat} {Q1 : Int32 → Mem → Prop} (hB : P_X12_restore M Q1) : Met l yX12_restore (Cond.code yX12_restore cX12_restore 2 (some .int) :: TB) (RM 2) (va_Pc [.ref (ad 0)] (WrP EM T D ad 16 M sz)) (QcW EM T D ad 16 (AA ad 16 sz) Q1) 0 0 (AA ad 16 sz) := by
  refine st_W (by decide) (Nat.le_of_ble_eq_true rfl) (fun p e s m args below meth c ls C hr hlk hsz Z hl => ?_)
  have hl : lv_has ls 2 [(0, .ref (ad 0))] := hl
  generalize AA ad 16 sz = A at Z ⊢
  have hx := C.x
  have hb := C.b
  delta P_X12_restore at hB
  refine lv_aload_n hx hb dX12_restore_0 rfl (lv_at hl 0 rfl) ?_
  refine gf_X12_3 C Z.1 tw_5_101 dX12_restore_1 ?_
  refine lv_if_ne (tgt := 13) hx hb dX12_restore_4 (by decide) (fun q1 => ?_) (fun q1 => ?_)
  · have hB := hB.1 q1
    refine lv_iconst (v := 0) hx hb dX12_restore_13 (by decide) ?_
    refine lv_istore_n (lv' := [(1, .int 0), (0, .ref (ad 0))]) hx hb dX12_restore_14 rfl hl (by decide) rfl (fun ls hl => ?_)
    exact w_X12_restore_15 C hr hlk Z (lv_sub hl [1, 0] rfl) hB
  · have hB := hB.2 q1
    refine lv_aload_n hx hb dX12_restore_7 rfl (lv_at hl 0 rfl) ?_
    refine lv_iconst (v := 2) hx hb dX12_restore_8 (by decide) ?_
    refine v_X12_finds C hl.1 Z tw_5_194 ⟨Nat.le_of_ble_eq_true rfl, Nat.le_of_ble_eq_true rfl⟩ ⟨Nat.le_refl _, Nat.le_refl _⟩ (Nat.le_of_ble_eq_true rfl) dX12_restore_9 hB (fun v7 M8 H locs hB Z => ?_)
    exact e_iW C hr hlk Z dX12_restore_12 hB
set_option maxRecDepth 100000 in
set_option maxHeartbeats 4000000 in
theorem v_X12_restore {M : Mem} {Q1 : Int32 → Mem → Prop} (C : Cx T D p s m args c cc nL own) (hls : ls.size = nL) (Z : Zz EM T D ad 16 A H0 M H locs) (hlink : Cond.methodLink own index yX12_restore ∈ TB) (hR : 2 + 1 ≤ R.frames ∧ 8 + (2 + 11) + 48 * 2 ≤ R.locals) (hcs : cells ≤ R.cells ∧ slots ≤ R.slots) (hcat : (rest.map fun v => v.category).sum ≤ 8) (hdg : decode cc pc = .ok (.invokevirtual index, 3)) (hB : P_X12_restore M Q1)
    (kk : ∀ (r : Int32) (M1 : Mem) (H1 : Heap) (locs1 : List Loc), Q1 r M1 → Zz EM T D ad 16 A H0 M1 H1 locs1 → W p l e R s m args below meth c H1 locs1 cells slots QQ (F0 m (pc + 3) ls (.int r :: rest))) : W p l e R s m args below meth c H locs cells slots QQ (F0 m pc ls (.ref (ad 0) :: rest)) :=
  k_VW (ci := 12) (n := 0) (c_X12_restore hB) tw_7_102 tw_7_100 tw_7_101 tw_1_12 ⟨rfl, by decide, by decide, by decide +kernel⟩ rfl rfl C hls Z oM hlink hR hcs hcat rfl hdg kk
def P_X12_tell (M : Mem) (x1 : Int32) (Q1 : Int32 → Mem → Prop) : Prop :=
  ((¬ (M 1 10) = 20 → vp_in (92 + (M 1 10)) 264 ∧ ∀ M2 : Mem, M2 = sf M 1 (92 + (M 1 10)).toNatClampNeg x1 → ∀ M4 : Mem, M4 = sf M2 1 10 ((M2 1 10) + 1) → Q1 (M4 1 10) M4) ∧
    ((M 1 10) = 20 → P_X12_finds M 4 (fun v5 M6 => Q1 v5 M6)))
set_option maxRecDepth 100000 in
set_option maxHeartbeats 4000000 in
theorem c_X12_tell {l : Launch} {T : Nat → ClassId} {D : va_G} {ad : Nat → Nat} {M : Mem} {x1 : Int32} {sz : Nat} {Q1 : Int32 → Mem → Prop} (hB : P_X12_tell M x1 Q1) : Met l yX12_tell (Cond.code yX12_tell cX12_tell 2 (some .int) :: TB) (RM 2) (va_Pc [.ref (ad 0), .int x1] (WrP EM T D ad 16 M sz)) (QcW EM T D ad 16 (AA ad 16 sz) Q1) 0 0 (AA ad 16 sz) := by
  refine st_W (by decide) (Nat.le_of_ble_eq_true rfl) (fun p e s m args below meth c ls C hr hlk hsz Z hl => ?_)
  have hl : lv_has ls 2 [(0, .ref (ad 0)), (1, .int x1)] := hl
  generalize AA ad 16 sz = A at Z ⊢
  have hx := C.x
  have hb := C.b
  delta P_X12_tell at hB
  refine lv_aload_n hx hb dX12_tell_0 rfl (lv_at hl 0 rfl) ?_
  refine gf_X12_0 C Z.1 tw_5_98 dX12_tell_1 ?_
  refine lv_bipush (v := 10) hx hb dX12_tell_4 (by decide) ?_
  refine a_ldc C Z.1 aM_1 (vin rfl) (j := 10) rfl dX12_tell_6 ?_
  refine lv_bipush (v := 20) hx hb dX12_tell_7 (by decide) ?_
  refine lv_icmp_ne (tgt := 18) hx hb dX12_tell_9 (by decide) (fun q1 => ?_) (fun q1 => ?_)
  · have hB := hB.1 q1
    refine lv_aload_n hx hb dX12_tell_18 rfl (lv_at hl 0 rfl) ?_
    refine gf_X12_0 C Z.1 tw_5_98 dX12_tell_19 ?_
    refine lv_bipush (v := 92) hx hb dX12_tell_22 (by decide) ?_
    refine lv_aload_n hx hb dX12_tell_24 rfl (lv_at hl 0 rfl) ?_
    refine gf_X12_0 C Z.1 tw_5_98 dX12_tell_25 ?_
    refine lv_bipush (v := 10) hx hb dX12_tell_28 (by decide) ?_
    refine a_ldc C Z.1 aM_1 (vin rfl) (j := 10) rfl dX12_tell_30 ?_
    refine lv_iadd hx hb dX12_tell_31 ?_
    refine lv_iload_n hx hb dX12_tell_32 rfl (lv_at hl 1 rfl) ?_
    obtain ⟨q3, hB⟩ := hB
    refine a_st C Z aM_1 q3 dX12_tell_33 (fun M2 H locs eM2 Z => ?_)
    have hB := hB M2 eM2
    refine lv_aload_n hx hb dX12_tell_34 rfl (lv_at hl 0 rfl) ?_
    refine gf_X12_0 C Z.1 tw_5_98 dX12_tell_35 ?_
    refine lv_bipush (v := 10) hx hb dX12_tell_38 (by decide) ?_
    refine lv_dup2_11 hx hb dX12_tell_40 rfl rfl ?_
    refine a_ldc C Z.1 aM_1 (vin rfl) (j := 10) rfl dX12_tell_41 ?_
    refine lv_iconst (v := 1) hx hb dX12_tell_42 (by decide) ?_
    refine lv_iadd hx hb dX12_tell_43 ?_
    refine a_stc C Z aM_1 (vin rfl) rfl dX12_tell_44 (fun M4 H locs eM4 Z => ?_)
    have hB := hB M4 eM4
    refine lv_aload_n hx hb dX12_tell_45 rfl (lv_at hl 0 rfl) ?_
    refine gf_X12_0 C Z.1 tw_5_98 dX12_tell_46 ?_
    refine lv_bipush (v := 10) hx hb dX12_tell_49 (by decide) ?_
    refine a_ldc C Z.1 aM_1 (vin rfl) (j := 10) rfl dX12_tell_51 ?_
    exact e_iW C hr hlk Z dX12_tell_52 hB
  · have hB := hB.2 q1
    refine lv_aload_n hx hb dX12_tell_12 rfl (lv_at hl 0 rfl) ?_
    refine lv_iconst (v := 4) hx hb dX12_tell_13 (by decide) ?_
    refine v_X12_finds C hl.1 Z tw_5_194 ⟨Nat.le_of_ble_eq_true rfl, Nat.le_of_ble_eq_true rfl⟩ ⟨Nat.le_refl _, Nat.le_refl _⟩ (Nat.le_of_ble_eq_true rfl) dX12_tell_14 hB (fun v5 M6 H locs hB Z => ?_)
    exact e_iW C hr hlk Z dX12_tell_17 hB
set_option maxRecDepth 100000 in
set_option maxHeartbeats 4000000 in
theorem v_X12_tell {M : Mem} {x1 : Int32} {Q1 : Int32 → Mem → Prop} (C : Cx T D p s m args c cc nL own) (hls : ls.size = nL) (Z : Zz EM T D ad 16 A H0 M H locs) (hlink : Cond.methodLink own index yX12_tell ∈ TB) (hR : 2 + 1 ≤ R.frames ∧ 8 + (2 + 11) + 48 * 2 ≤ R.locals) (hcs : cells ≤ R.cells ∧ slots ≤ R.slots) (hcat : (rest.map fun v => v.category).sum ≤ 8) (hdg : decode cc pc = .ok (.invokevirtual index, 3)) (hB : P_X12_tell M x1 Q1)
    (kk : ∀ (r : Int32) (M1 : Mem) (H1 : Heap) (locs1 : List Loc), Q1 r M1 → Zz EM T D ad 16 A H0 M1 H1 locs1 → W p l e R s m args below meth c H1 locs1 cells slots QQ (F0 m (pc + 3) ls (.int r :: rest))) : W p l e R s m args below meth c H locs cells slots QQ (F0 m pc ls (.int x1 :: .ref (ad 0) :: rest)) :=
  k_VW (ci := 12) (n := 1) (c_X12_tell hB) tw_7_106 tw_7_104 tw_7_105 tw_1_12 ⟨rfl, by decide, by decide, by decide +kernel⟩ rfl rfl C hls Z oM hlink hR hcs hcat rfl hdg kk
def B_X12_check_18 (Q1 : Int32 → Mem → Prop) (x1 : Int32) (x2 : Int32) (M : Mem) : Prop :=
  ∀ X18 : Int32 → Mem → Prop, (∀ (x2 : Int32) (M : Mem), (((x1 ≤ x2 → Q1 0 M) ∧
    (¬ x1 ≤ x2 → ((9 ≤ x2 → Q1 (1 + x2) M) ∧
      (¬ 9 ≤ x2 → vp_in (92 + x2) 264 ∧ P_X12_airOf M x2 (fun v6 M7 => (((M 1 (92 + x2).toNatClampNeg) = v6 → ∀ x2_9 : Int32, x2_9 = x2 + 1 → X18 x2_9 M7) ∧
        (¬ (M 1 (92 + x2).toNatClampNeg) = v6 → Q1 (1 + x2) M7)))))))) → X18 x2 M) → X18 x2 M
def P_X12_check (M : Mem) (Q1 : Int32 → Mem → Prop) : Prop :=
  ∀ x1_1 : Int32, x1_1 = M 1 10 → ∀ M2 : Mem, M2 = sf M 1 10 0 → B_X12_check_18 Q1 x1_1 0 M2
set_option maxRecDepth 100000 in
set_option maxHeartbeats 4000000 in
theorem w_X12_check_18 {M : Mem} {Q1 : Int32 → Mem → Prop} {x1 : Int32} {x2 : Int32} (C : Cx T D p s m args c cX12_check 3 "OneOfTwoModel") (hr : meth.sig.returnType = (some .int)) (hlk : meth.locks = false) (Z : Zz EM T D ad 16 A s.heap M H locs) {ls : Array Slot} (hl : lv_has ls 3 [(0, .ref (ad 0)), (1, .int x1), (2, .int x2)]) (hB : B_X12_check_18 Q1 x1 x2 M) : W p l e (RM 53) s m args below meth c H locs 0 0 (MQ below (QcW EM T D ad 16 A Q1) args s 0 0 A) (F0 m 18 ls []) := by
  delta B_X12_check_18 at hB
  obtain ⟨X18, hX18, hY18⟩ : ∃ X18 : Int32 → Mem → Prop, (∀ (x2 : Int32) (M : Mem), X18 x2 M → ∀ (H : Heap) (locs : List Loc) (ls : Array Slot), Zz EM T D ad 16 A s.heap M H locs → lv_has ls 3 [(0, .ref (ad 0)), (1, .int x1), (2, .int x2)] → W p l e (RM 53) s m args below meth c H locs 0 0 (MQ below (QcW EM T D ad 16 A Q1) args s 0 0 A) (F0 m 18 ls [])) ∧ (∀ (x2 : Int32) (M : Mem), (∀ (H : Heap) (locs : List Loc) (ls : Array Slot), Zz EM T D ad 16 A s.heap M H locs → lv_has ls 3 [(0, .ref (ad 0)), (1, .int x1), (2, .int x2)] → W p l e (RM 53) s m args below meth c H locs 0 0 (MQ below (QcW EM T D ad 16 A Q1) args s 0 0 A) (F0 m 18 ls [])) → X18 x2 M) := ⟨fun (x2 : Int32) (M : Mem) => ∀ (H : Heap) (locs : List Loc) (ls : Array Slot), Zz EM T D ad 16 A s.heap M H locs → lv_has ls 3 [(0, .ref (ad 0)), (1, .int x1), (2, .int x2)] → W p l e (RM 53) s m args below meth c H locs 0 0 (MQ below (QcW EM T D ad 16 A Q1) args s 0 0 A) (F0 m 18 ls []), fun _ _ h => h, fun _ _ h => h⟩
  refine hX18 _ _ (hB X18 (fun x2 M hB => hY18 _ _ (fun H locs ls Z hl => ?_))) _ _ _ Z hl
  have hx := C.x
  have hb := C.b
  refine lv_iload_n hx hb dX12_check_18 rfl (lv_at hl 2 rfl) ?_
  refine lv_iload_n hx hb dX12_check_19 rfl (lv_at hl 1 rfl) ?_
  refine lv_icmp_ge (tgt := 56) hx hb dX12_check_20 (by decide) (fun q3 => ?_) (fun q3 => ?_)
  · have hB := hB.1 q3
    refine lv_iconst (v := 0) hx hb dX12_check_56 (by decide) ?_
    exact e_iW C hr hlk Z dX12_check_57 hB
  · have hB := hB.2 q3
    refine lv_iload_n hx hb dX12_check_23 rfl (lv_at hl 2 rfl) ?_
    refine lv_bipush (v := 9) hx hb dX12_check_24 (by decide) ?_
    refine lv_icmp_ge (tgt := 46) hx hb dX12_check_26 (by decide) (fun q4 => ?_) (fun q4 => ?_)
    · have hB := hB.1 q4
      refine lv_iconst (v := 1) hx hb dX12_check_46 (by decide) ?_
      refine lv_iload_n hx hb dX12_check_47 rfl (lv_at hl 2 rfl) ?_
      refine lv_iadd hx hb dX12_check_48 ?_
      exact e_iW C hr hlk Z dX12_check_49 hB
    · have hB := hB.2 q4
      refine lv_aload_n hx hb dX12_check_29 rfl (lv_at hl 0 rfl) ?_
      refine gf_X12_0 C Z.1 tw_5_98 dX12_check_30 ?_
      refine lv_bipush (v := 92) hx hb dX12_check_33 (by decide) ?_
      refine lv_iload_n hx hb dX12_check_35 rfl (lv_at hl 2 rfl) ?_
      refine lv_iadd hx hb dX12_check_36 ?_
      obtain ⟨q5, hB⟩ := hB
      refine a_ld C Z.1 aM_1 q5 dX12_check_37 ?_
      refine lv_aload_n hx hb dX12_check_38 rfl (lv_at hl 0 rfl) ?_
      refine lv_iload_n hx hb dX12_check_39 rfl (lv_at hl 2 rfl) ?_
      refine v_X12_airOf C hl.1 Z tw_6_103 ⟨Nat.le_of_ble_eq_true rfl, Nat.le_of_ble_eq_true rfl⟩ ⟨Nat.le_refl _, Nat.le_refl _⟩ (Nat.le_of_ble_eq_true rfl) dX12_check_40 hB (fun v6 M7 H locs hB Z => ?_)
      refine lv_icmp_eq (tgt := 50) hx hb dX12_check_43 (by decide) (fun q8 => ?_) (fun q8 => ?_)
      · have hB := hB.1 q8
        obtain ⟨x2_9, ex2_9⟩ : ∃ y : Int32, y = x2 + 1 := ⟨_, rfl⟩
        have hB := hB x2_9 ex2_9
        refine lv_iinc (v := x2_9) (lv' := [(2, .int x2_9), (0, .ref (ad 0)), (1, .int x1)]) hx hb dX12_check_50 hl (k := 2) rfl (by rw [ex2_9]; rfl) (by decide) rfl (fun ls hl => ?_)
        refine lv_goto (tgt := 18) hx hb dX12_check_53 (by decide) ?_
        exact hX18 _ _ hB _ _ _ Z (lv_sub hl [1, 2, 0] rfl)
      · have hB := hB.2 q8
        refine lv_iconst (v := 1) hx hb dX12_check_46 (by decide) ?_
        refine lv_iload_n hx hb dX12_check_47 rfl (lv_at hl 2 rfl) ?_
        refine lv_iadd hx hb dX12_check_48 ?_
        exact e_iW C hr hlk Z dX12_check_49 hB
set_option maxRecDepth 100000 in
set_option maxHeartbeats 4000000 in
theorem c_X12_check {l : Launch} {T : Nat → ClassId} {D : va_G} {ad : Nat → Nat} {M : Mem} {sz : Nat} {Q1 : Int32 → Mem → Prop} (hB : P_X12_check M Q1) : Met l yX12_check (Cond.code yX12_check cX12_check 3 (some .int) :: TB) (RM 53) (va_Pc [.ref (ad 0)] (WrP EM T D ad 16 M sz)) (QcW EM T D ad 16 (AA ad 16 sz) Q1) 0 0 (AA ad 16 sz) := by
  refine st_W (by decide) (Nat.le_of_ble_eq_true rfl) (fun p e s m args below meth c ls C hr hlk hsz Z hl => ?_)
  have hl : lv_has ls 3 [(0, .ref (ad 0))] := hl
  generalize AA ad 16 sz = A at Z ⊢
  have hx := C.x
  have hb := C.b
  delta P_X12_check at hB
  refine lv_aload_n hx hb dX12_check_0 rfl (lv_at hl 0 rfl) ?_
  refine gf_X12_0 C Z.1 tw_5_98 dX12_check_1 ?_
  refine lv_bipush (v := 10) hx hb dX12_check_4 (by decide) ?_
  refine a_ldc C Z.1 aM_1 (vin rfl) (j := 10) rfl dX12_check_6 ?_
  refine lv_topi (fun x1_1 ex1_1 => ?_)
  have hB := hB x1_1 ex1_1
  refine lv_istore_n (lv' := [(1, .int x1_1), (0, .ref (ad 0))]) hx hb dX12_check_7 rfl hl (by decide) rfl (fun ls hl => ?_)
  refine lv_aload_n hx hb dX12_check_8 rfl (lv_at hl 1 rfl) ?_
  refine gf_X12_0 C Z.1 tw_5_98 dX12_check_9 ?_
  refine lv_bipush (v := 10) hx hb dX12_check_12 (by decide) ?_
  refine lv_iconst (v := 0) hx hb dX12_check_14 (by decide) ?_
  refine a_stc C Z aM_1 (vin rfl) rfl dX12_check_15 (fun M2 H locs eM2 Z => ?_)
  have hB := hB M2 eM2
  refine lv_iconst (v := 0) hx hb dX12_check_16 (by decide) ?_
  refine lv_istore_n (lv' := [(2, .int 0), (1, .int x1_1), (0, .ref (ad 0))]) hx hb dX12_check_17 rfl hl (by decide) rfl (fun ls hl => ?_)
  exact w_X12_check_18 C hr hlk Z (lv_sub hl [2, 1, 0] rfl) hB
set_option maxRecDepth 100000 in
set_option maxHeartbeats 4000000 in
theorem v_X12_check {M : Mem} {Q1 : Int32 → Mem → Prop} (C : Cx T D p s m args c cc nL own) (hls : ls.size = nL) (Z : Zz EM T D ad 16 A H0 M H locs) (hlink : Cond.methodLink own index yX12_check ∈ TB) (hR : 53 + 1 ≤ R.frames ∧ 8 + (3 + 11) + 48 * 53 ≤ R.locals) (hcs : cells ≤ R.cells ∧ slots ≤ R.slots) (hcat : (rest.map fun v => v.category).sum ≤ 8) (hdg : decode cc pc = .ok (.invokevirtual index, 3)) (hB : P_X12_check M Q1)
    (kk : ∀ (r : Int32) (M1 : Mem) (H1 : Heap) (locs1 : List Loc), Q1 r M1 → Zz EM T D ad 16 A H0 M1 H1 locs1 → W p l e R s m args below meth c H1 locs1 cells slots QQ (F0 m (pc + 3) ls (.int r :: rest))) : W p l e R s m args below meth c H locs cells slots QQ (F0 m pc ls (.ref (ad 0) :: rest)) :=
  k_VW (ci := 12) (n := 0) (c_X12_check hB) tw_7_110 tw_7_108 tw_7_109 tw_1_12 ⟨rfl, by decide, by decide, by decide +kernel⟩ rfl rfl C hls Z oM hlink hR hcs hcat rfl hdg kk
def B_X12_openOfAll_4 (M : Mem) (Q1 : Int32 → Prop) (x1 : Int32) (x2 : Int32) : Prop :=
  ∀ X4 : Int32 → Int32 → Prop, (∀ (x1 : Int32) (x2 : Int32), ((((M 1 0) ≤ x2 → Q1 x1) ∧
    (¬ (M 1 0) ≤ x2 → P_X12_its M x2 1 (fun v2 => ∀ x1_3 : Int32, x1_3 = x1 + v2 → ∀ x2_4 : Int32, x2_4 = x2 + 1 → X4 x1_3 x2_4)))) → X4 x1 x2) → X4 x1 x2
def P_X12_openOfAll (M : Mem) (Q1 : Int32 → Prop) : Prop :=
  B_X12_openOfAll_4 M Q1 0 0
set_option maxRecDepth 100000 in
set_option maxHeartbeats 4000000 in
theorem w_X12_openOfAll_4 {M : Mem} {Q1 : Int32 → Prop} {x1 : Int32} {x2 : Int32} (C : Cx T D p s m args c cX12_openOfAll 3 "OneOfTwoModel") (hr : meth.sig.returnType = (some .int)) (hlk : meth.locks = false) (hP : Pw EM T D ad 16 M s.heap) {ls : Array Slot} (hl : lv_has ls 3 [(0, .ref (ad 0)), (1, .int x1), (2, .int x2)]) (hB : B_X12_openOfAll_4 M Q1 x1 x2) : W p l e (RM 2) s m args below meth c s.heap [] 0 0 (MQ below (QcR Q1) args s 0 0 (fun _ => False)) (F0 m 4 ls []) := by
  delta B_X12_openOfAll_4 at hB
  obtain ⟨X4, hX4, hY4⟩ : ∃ X4 : Int32 → Int32 → Prop, (∀ (x1 : Int32) (x2 : Int32), X4 x1 x2 → ∀ (ls : Array Slot), lv_has ls 3 [(0, .ref (ad 0)), (1, .int x1), (2, .int x2)] → W p l e (RM 2) s m args below meth c s.heap [] 0 0 (MQ below (QcR Q1) args s 0 0 (fun _ => False)) (F0 m 4 ls [])) ∧ (∀ (x1 : Int32) (x2 : Int32), (∀ (ls : Array Slot), lv_has ls 3 [(0, .ref (ad 0)), (1, .int x1), (2, .int x2)] → W p l e (RM 2) s m args below meth c s.heap [] 0 0 (MQ below (QcR Q1) args s 0 0 (fun _ => False)) (F0 m 4 ls [])) → X4 x1 x2) := ⟨fun (x1 : Int32) (x2 : Int32) => ∀ (ls : Array Slot), lv_has ls 3 [(0, .ref (ad 0)), (1, .int x1), (2, .int x2)] → W p l e (RM 2) s m args below meth c s.heap [] 0 0 (MQ below (QcR Q1) args s 0 0 (fun _ => False)) (F0 m 4 ls []), fun _ _ h => h, fun _ _ h => h⟩
  refine hX4 _ _ (hB X4 (fun x1 x2 hB => hY4 _ _ (fun ls hl => ?_))) _ hl
  have hx := C.x
  have hb := C.b
  refine lv_iload_n hx hb dX12_openOfAll_4 rfl (lv_at hl 2 rfl) ?_
  refine lv_aload_n hx hb dX12_openOfAll_5 rfl (lv_at hl 0 rfl) ?_
  refine gf_X12_0 C hP tw_5_98 dX12_openOfAll_6 ?_
  refine lv_iconst (v := 0) hx hb dX12_openOfAll_9 (by decide) ?_
  refine a_ldc C hP aM_1 (vin rfl) (j := 0) rfl dX12_openOfAll_10 ?_
  refine lv_icmp_ge (tgt := 29) hx hb dX12_openOfAll_11 (by decide) (fun q1 => ?_) (fun q1 => ?_)
  · have hB := hB.1 q1
    refine lv_iload_n hx hb dX12_openOfAll_29 rfl (lv_at hl 1 rfl) ?_
    exact e_iR C.1 hr hlk dX12_openOfAll_30 hB
  · have hB := hB.2 q1
    refine lv_iload_n hx hb dX12_openOfAll_14 rfl (lv_at hl 1 rfl) ?_
    refine lv_aload_n hx hb dX12_openOfAll_15 rfl (lv_at hl 0 rfl) ?_
    refine lv_iload_n hx hb dX12_openOfAll_16 rfl (lv_at hl 2 rfl) ?_
    refine lv_iconst (v := 1) hx hb dX12_openOfAll_17 (by decide) ?_
    refine v_X12_its C hl.1 hP tw_6_39 ⟨Nat.le_of_ble_eq_true rfl, Nat.le_of_ble_eq_true rfl⟩ ⟨Nat.le_refl _, Nat.le_refl _⟩ (Nat.le_of_ble_eq_true rfl) dX12_openOfAll_18 hB (fun v2 hB => ?_)
    refine lv_iadd hx hb dX12_openOfAll_21 ?_
    refine lv_topi (fun x1_3 ex1_3 => ?_)
    have hB := hB x1_3 ex1_3
    refine lv_istore_n (lv' := [(1, .int x1_3), (0, .ref (ad 0)), (2, .int x2)]) hx hb dX12_openOfAll_22 rfl hl (by decide) rfl (fun ls hl => ?_)
    obtain ⟨x2_4, ex2_4⟩ : ∃ y : Int32, y = x2 + 1 := ⟨_, rfl⟩
    have hB := hB x2_4 ex2_4
    refine lv_iinc (v := x2_4) (lv' := [(2, .int x2_4), (1, .int x1_3), (0, .ref (ad 0))]) hx hb dX12_openOfAll_23 hl (k := 2) rfl (by rw [ex2_4]; rfl) (by decide) rfl (fun ls hl => ?_)
    refine lv_goto (tgt := 4) hx hb dX12_openOfAll_26 (by decide) ?_
    exact hX4 _ _ hB _ (lv_sub hl [2, 1, 0] rfl)
set_option maxRecDepth 100000 in
set_option maxHeartbeats 4000000 in
theorem c_X12_openOfAll {l : Launch} {T : Nat → ClassId} {D : va_G} {ad : Nat → Nat} {M : Mem} {Q1 : Int32 → Prop} (hB : P_X12_openOfAll M Q1) : Met l yX12_openOfAll (Cond.code yX12_openOfAll cX12_openOfAll 3 (some .int) :: TB) (RM 2) (va_Pc [.ref (ad 0)] (RdP EM T D ad 16 M)) (QcR Q1) 0 0 (fun _ => False) := by
  refine st_R (by decide) (Nat.le_of_ble_eq_true rfl) (fun p e s m args below meth c ls C hr hlk hP hl => ?_)
  have hl : lv_has ls 3 [(0, .ref (ad 0))] := hl
  have hx := C.x
  have hb := C.b
  delta P_X12_openOfAll at hB
  refine lv_iconst (v := 0) hx hb dX12_openOfAll_0 (by decide) ?_
  refine lv_istore_n (lv' := [(1, .int 0), (0, .ref (ad 0))]) hx hb dX12_openOfAll_1 rfl hl (by decide) rfl (fun ls hl => ?_)
  refine lv_iconst (v := 0) hx hb dX12_openOfAll_2 (by decide) ?_
  refine lv_istore_n (lv' := [(2, .int 0), (1, .int 0), (0, .ref (ad 0))]) hx hb dX12_openOfAll_3 rfl hl (by decide) rfl (fun ls hl => ?_)
  exact w_X12_openOfAll_4 C hr hlk hP (lv_sub hl [2, 1, 0] rfl) hB
set_option maxRecDepth 100000 in
set_option maxHeartbeats 4000000 in
theorem v_X12_openOfAll {M : Mem} {Q1 : Int32 → Prop} (C : Cx T D p s m args c cc nL own) (hls : ls.size = nL) (hP : Pw EM T D ad 16 M H) (hlink : Cond.methodLink own index yX12_openOfAll ∈ TB) (hR : 2 + 1 ≤ R.frames ∧ 8 + (3 + 11) + 48 * 2 ≤ R.locals) (hcs : cells ≤ R.cells ∧ slots ≤ R.slots) (hcat : (rest.map fun v => v.category).sum ≤ 8) (hdg : decode cc pc = .ok (.invokevirtual index, 3)) (hB : P_X12_openOfAll M Q1)
    (kk : ∀ r : Int32, Q1 r → W p l e R s m args below meth c H locs cells slots QQ (F0 m (pc + 3) ls (.int r :: rest))) : W p l e R s m args below meth c H locs cells slots QQ (F0 m pc ls (.ref (ad 0) :: rest)) :=
  k_V (ci := 12) (n := 0) (c_X12_openOfAll hB) tw_7_118 tw_7_117 tw_s_71 tw_1_12 ⟨rfl, by decide, by decide, by decide +kernel⟩ rfl rfl C hls hP oM hlink hR hcs hcat rfl hdg kk
def P_X12_count (M : Mem) (x1 : Int32) (Q1 : Int32 → Mem → Prop) : Prop :=
  ((x1 = 0 → Q1 (M 1 0) M) ∧
    (x1 = 1 → Q1 (M 1 1) M) ∧
    (x1 = 2 → Q1 (M 1 2) M) ∧
    (x1 = 3 → Q1 (M 1 3) M) ∧
    (x1 = 4 → Q1 (M 1 4) M) ∧
    (x1 = 5 → Q1 (M 1 5) M) ∧
    (x1 = 6 → P_X12_isLocked M (fun v2 => ((v2 = 0 → Q1 0 M) ∧
      (¬ v2 = 0 → Q1 1 M)))) ∧
    (x1 = 7 → P_X12_openOfAll M (fun v4 => Q1 v4 M)) ∧
    (x1 = 8 → Q1 (M 1 9) M) ∧
    (x1 = 9 → Q1 (M 1 10) M) ∧
    (x1 = 10 → Q1 (M 0 23) M) ∧
    (x1 = 11 → Q1 (M 1 8) M) ∧
    (¬ x1 = 0 → ¬ x1 = 1 → ¬ x1 = 2 → ¬ x1 = 3 → ¬ x1 = 4 → ¬ x1 = 5 → ¬ x1 = 6 → ¬ x1 = 7 → ¬ x1 = 8 → ¬ x1 = 9 → ¬ x1 = 10 → ¬ x1 = 11 → P_X12_finds M 1 (fun v5 M6 => Q1 v5 M6)))
set_option maxRecDepth 100000 in
set_option maxHeartbeats 4000000 in
theorem c_X12_count {l : Launch} {T : Nat → ClassId} {D : va_G} {ad : Nat → Nat} {M : Mem} {x1 : Int32} {sz : Nat} {Q1 : Int32 → Mem → Prop} (hB : P_X12_count M x1 Q1) : Met l yX12_count (Cond.code yX12_count cX12_count 2 (some .int) :: TB) (RM 3) (va_Pc [.ref (ad 0), .int x1] (WrP EM T D ad 16 M sz)) (QcW EM T D ad 16 (AA ad 16 sz) Q1) 0 0 (AA ad 16 sz) := by
  refine st_W (by decide) (Nat.le_of_ble_eq_true rfl) (fun p e s m args below meth c ls C hr hlk hsz Z hl => ?_)
  have hl : lv_has ls 2 [(0, .ref (ad 0)), (1, .int x1)] := hl
  generalize AA ad 16 sz = A at Z ⊢
  have hx := C.x
  have hb := C.b
  delta P_X12_count at hB
  refine lv_iload_n hx hb dX12_count_0 rfl (lv_at hl 1 rfl) ?_
  by_cases q1_0 : x1 = 0
  · have hB := hB.1 q1_0
    refine lv_tableIn (off := 63) (tgt := 64) hx hb dX12_count_1 (by rw [q1_0]; decide) (by rw [q1_0]; decide) (by rw [q1_0]; rfl) (by decide) ?_
    refine lv_aload_n hx hb dX12_count_64 rfl (lv_at hl 0 rfl) ?_
    refine gf_X12_0 C Z.1 tw_5_98 dX12_count_65 ?_
    refine lv_iconst (v := 0) hx hb dX12_count_68 (by decide) ?_
    refine a_ldc C Z.1 aM_1 (vin rfl) (j := 0) rfl dX12_count_69 ?_
    exact e_iW C hr hlk Z dX12_count_70 hB
  by_cases q1_1 : x1 = 1
  · have hB := hB.2.1 q1_1
    refine lv_tableIn (off := 70) (tgt := 71) hx hb dX12_count_1 (by rw [q1_1]; decide) (by rw [q1_1]; decide) (by rw [q1_1]; rfl) (by decide) ?_
    refine lv_aload_n hx hb dX12_count_71 rfl (lv_at hl 0 rfl) ?_
    refine gf_X12_0 C Z.1 tw_5_98 dX12_count_72 ?_
    refine lv_iconst (v := 1) hx hb dX12_count_75 (by decide) ?_
    refine a_ldc C Z.1 aM_1 (vin rfl) (j := 1) rfl dX12_count_76 ?_
    exact e_iW C hr hlk Z dX12_count_77 hB
  by_cases q1_2 : x1 = 2
  · have hB := hB.2.2.1 q1_2
    refine lv_tableIn (off := 77) (tgt := 78) hx hb dX12_count_1 (by rw [q1_2]; decide) (by rw [q1_2]; decide) (by rw [q1_2]; rfl) (by decide) ?_
    refine lv_aload_n hx hb dX12_count_78 rfl (lv_at hl 0 rfl) ?_
    refine gf_X12_0 C Z.1 tw_5_98 dX12_count_79 ?_
    refine lv_iconst (v := 2) hx hb dX12_count_82 (by decide) ?_
    refine a_ldc C Z.1 aM_1 (vin rfl) (j := 2) rfl dX12_count_83 ?_
    exact e_iW C hr hlk Z dX12_count_84 hB
  by_cases q1_3 : x1 = 3
  · have hB := hB.2.2.2.1 q1_3
    refine lv_tableIn (off := 84) (tgt := 85) hx hb dX12_count_1 (by rw [q1_3]; decide) (by rw [q1_3]; decide) (by rw [q1_3]; rfl) (by decide) ?_
    refine lv_aload_n hx hb dX12_count_85 rfl (lv_at hl 0 rfl) ?_
    refine gf_X12_0 C Z.1 tw_5_98 dX12_count_86 ?_
    refine lv_iconst (v := 3) hx hb dX12_count_89 (by decide) ?_
    refine a_ldc C Z.1 aM_1 (vin rfl) (j := 3) rfl dX12_count_90 ?_
    exact e_iW C hr hlk Z dX12_count_91 hB
  by_cases q1_4 : x1 = 4
  · have hB := hB.2.2.2.2.1 q1_4
    refine lv_tableIn (off := 91) (tgt := 92) hx hb dX12_count_1 (by rw [q1_4]; decide) (by rw [q1_4]; decide) (by rw [q1_4]; rfl) (by decide) ?_
    refine lv_aload_n hx hb dX12_count_92 rfl (lv_at hl 0 rfl) ?_
    refine gf_X12_0 C Z.1 tw_5_98 dX12_count_93 ?_
    refine lv_iconst (v := 4) hx hb dX12_count_96 (by decide) ?_
    refine a_ldc C Z.1 aM_1 (vin rfl) (j := 4) rfl dX12_count_97 ?_
    exact e_iW C hr hlk Z dX12_count_98 hB
  by_cases q1_5 : x1 = 5
  · have hB := hB.2.2.2.2.2.1 q1_5
    refine lv_tableIn (off := 98) (tgt := 99) hx hb dX12_count_1 (by rw [q1_5]; decide) (by rw [q1_5]; decide) (by rw [q1_5]; rfl) (by decide) ?_
    refine lv_aload_n hx hb dX12_count_99 rfl (lv_at hl 0 rfl) ?_
    refine gf_X12_0 C Z.1 tw_5_98 dX12_count_100 ?_
    refine lv_iconst (v := 5) hx hb dX12_count_103 (by decide) ?_
    refine a_ldc C Z.1 aM_1 (vin rfl) (j := 5) rfl dX12_count_104 ?_
    exact e_iW C hr hlk Z dX12_count_105 hB
  by_cases q1_6 : x1 = 6
  · have hB := hB.2.2.2.2.2.2.1 q1_6
    refine lv_tableIn (off := 105) (tgt := 106) hx hb dX12_count_1 (by rw [q1_6]; decide) (by rw [q1_6]; decide) (by rw [q1_6]; rfl) (by decide) ?_
    refine lv_aload_n hx hb dX12_count_106 rfl (lv_at hl 0 rfl) ?_
    refine v_X12_isLocked C hl.1 Z.1 tw_6_79 ⟨Nat.le_of_ble_eq_true rfl, Nat.le_of_ble_eq_true rfl⟩ ⟨Nat.le_refl _, Nat.le_refl _⟩ (Nat.le_of_ble_eq_true rfl) dX12_count_107 hB (fun v2 hB => ?_)
    refine lv_if_eq (tgt := 117) hx hb dX12_count_110 (by decide) (fun q3 => ?_) (fun q3 => ?_)
    · have hB := hB.1 q3
      refine lv_iconst (v := 0) hx hb dX12_count_117 (by decide) ?_
      exact e_iW C hr hlk Z dX12_count_118 hB
    · have hB := hB.2 q3
      refine lv_iconst (v := 1) hx hb dX12_count_113 (by decide) ?_
      refine lv_goto (tgt := 118) hx hb dX12_count_114 (by decide) ?_
      exact e_iW C hr hlk Z dX12_count_118 hB
  by_cases q1_7 : x1 = 7
  · have hB := hB.2.2.2.2.2.2.2.1 q1_7
    refine lv_tableIn (off := 118) (tgt := 119) hx hb dX12_count_1 (by rw [q1_7]; decide) (by rw [q1_7]; decide) (by rw [q1_7]; rfl) (by decide) ?_
    refine lv_aload_n hx hb dX12_count_119 rfl (lv_at hl 0 rfl) ?_
    refine v_X12_openOfAll C hl.1 Z.1 tw_7_115 ⟨Nat.le_of_ble_eq_true rfl, Nat.le_of_ble_eq_true rfl⟩ ⟨Nat.le_refl _, Nat.le_refl _⟩ (Nat.le_of_ble_eq_true rfl) dX12_count_120 hB (fun v4 hB => ?_)
    exact e_iW C hr hlk Z dX12_count_123 hB
  by_cases q1_8 : x1 = 8
  · have hB := hB.2.2.2.2.2.2.2.2.1 q1_8
    refine lv_tableIn (off := 123) (tgt := 124) hx hb dX12_count_1 (by rw [q1_8]; decide) (by rw [q1_8]; decide) (by rw [q1_8]; rfl) (by decide) ?_
    refine lv_aload_n hx hb dX12_count_124 rfl (lv_at hl 0 rfl) ?_
    refine gf_X12_0 C Z.1 tw_5_98 dX12_count_125 ?_
    refine lv_bipush (v := 9) hx hb dX12_count_128 (by decide) ?_
    refine a_ldc C Z.1 aM_1 (vin rfl) (j := 9) rfl dX12_count_130 ?_
    exact e_iW C hr hlk Z dX12_count_131 hB
  by_cases q1_9 : x1 = 9
  · have hB := hB.2.2.2.2.2.2.2.2.2.1 q1_9
    refine lv_tableIn (off := 131) (tgt := 132) hx hb dX12_count_1 (by rw [q1_9]; decide) (by rw [q1_9]; decide) (by rw [q1_9]; rfl) (by decide) ?_
    refine lv_aload_n hx hb dX12_count_132 rfl (lv_at hl 0 rfl) ?_
    refine gf_X12_0 C Z.1 tw_5_98 dX12_count_133 ?_
    refine lv_bipush (v := 10) hx hb dX12_count_136 (by decide) ?_
    refine a_ldc C Z.1 aM_1 (vin rfl) (j := 10) rfl dX12_count_138 ?_
    exact e_iW C hr hlk Z dX12_count_139 hB
  by_cases q1_10 : x1 = 10
  · have hB := hB.2.2.2.2.2.2.2.2.2.2.1 q1_10
    refine lv_tableIn (off := 139) (tgt := 140) hx hb dX12_count_1 (by rw [q1_10]; decide) (by rw [q1_10]; decide) (by rw [q1_10]; rfl) (by decide) ?_
    refine lv_aload_n hx hb dX12_count_140 rfl (lv_at hl 0 rfl) ?_
    refine gf_X12_23 C Z.1 tw_5_121 dX12_count_141 ?_
    exact e_iW C hr hlk Z dX12_count_144 hB
  by_cases q1_11 : x1 = 11
  · have hB := hB.2.2.2.2.2.2.2.2.2.2.2.1 q1_11
    refine lv_tableIn (off := 144) (tgt := 145) hx hb dX12_count_1 (by rw [q1_11]; decide) (by rw [q1_11]; decide) (by rw [q1_11]; rfl) (by decide) ?_
    refine lv_aload_n hx hb dX12_count_145 rfl (lv_at hl 0 rfl) ?_
    refine gf_X12_0 C Z.1 tw_5_98 dX12_count_146 ?_
    refine lv_bipush (v := 8) hx hb dX12_count_149 (by decide) ?_
    refine a_ldc C Z.1 aM_1 (vin rfl) (j := 8) rfl dX12_count_151 ?_
    exact e_iW C hr hlk Z dX12_count_152 hB
  have hB := hB.2.2.2.2.2.2.2.2.2.2.2.2 q1_0 q1_1 q1_2 q1_3 q1_4 q1_5 q1_6 q1_7 q1_8 q1_9 q1_10 q1_11
  refine lv_tableOut (tgt := 153) hx hb dX12_count_1 (sw_out 0 11 12 (by decide) (lt_s (lt_s (lt_s (lt_s (lt_s (lt_s (lt_s (lt_s (lt_s (lt_s (lt_s (lt_s lt_0 q1_0) q1_1) q1_2) q1_3) q1_4) q1_5) q1_6) q1_7) q1_8) q1_9) q1_10) q1_11)) (by decide) ?_
  refine lv_aload_n hx hb dX12_count_153 rfl (lv_at hl 0 rfl) ?_
  refine lv_iconst (v := 1) hx hb dX12_count_154 (by decide) ?_
  refine v_X12_finds C hl.1 Z tw_5_194 ⟨Nat.le_of_ble_eq_true rfl, Nat.le_of_ble_eq_true rfl⟩ ⟨Nat.le_refl _, Nat.le_refl _⟩ (Nat.le_of_ble_eq_true rfl) dX12_count_155 hB (fun v5 M6 H locs hB Z => ?_)
  exact e_iW C hr hlk Z dX12_count_158 hB
set_option maxRecDepth 100000 in
set_option maxHeartbeats 4000000 in
theorem v_X12_count {M : Mem} {x1 : Int32} {Q1 : Int32 → Mem → Prop} (C : Cx T D p s m args c cc nL own) (hls : ls.size = nL) (Z : Zz EM T D ad 16 A H0 M H locs) (hlink : Cond.methodLink own index yX12_count ∈ TB) (hR : 3 + 1 ≤ R.frames ∧ 8 + (2 + 11) + 48 * 3 ≤ R.locals) (hcs : cells ≤ R.cells ∧ slots ≤ R.slots) (hcat : (rest.map fun v => v.category).sum ≤ 8) (hdg : decode cc pc = .ok (.invokevirtual index, 3)) (hB : P_X12_count M x1 Q1)
    (kk : ∀ (r : Int32) (M1 : Mem) (H1 : Heap) (locs1 : List Loc), Q1 r M1 → Zz EM T D ad 16 A H0 M1 H1 locs1 → W p l e R s m args below meth c H1 locs1 cells slots QQ (F0 m (pc + 3) ls (.int r :: rest))) : W p l e R s m args below meth c H locs cells slots QQ (F0 m pc ls (.int x1 :: .ref (ad 0) :: rest)) :=
  k_VW (ci := 12) (n := 1) (c_X12_count hB) tw_7_114 tw_7_112 tw_7_113 tw_1_12 ⟨rfl, by decide, by decide, by decide +kernel⟩ rfl rfl C hls Z oM hlink hR hcs hcat rfl hdg kk
def P_X12_told (M : Mem) (x1 : Int32) (Q1 : Int32 → Mem → Prop) : Prop :=
  P_X12_in (x1.toInt64) 1 5 (fun v1 => ((v1 = 0 → P_X12_finds M 1 (fun v3 M4 => Q1 v3 M4)) ∧
    (¬ v1 = 0 → vp_in x1 6 ∧ Q1 (M 4 x1.toNatClampNeg) M)))
set_option maxRecDepth 100000 in
set_option maxHeartbeats 4000000 in
theorem c_X12_told {l : Launch} {T : Nat → ClassId} {D : va_G} {ad : Nat → Nat} {M : Mem} {x1 : Int32} {sz : Nat} {Q1 : Int32 → Mem → Prop} (hB : P_X12_told M x1 Q1) : Met l yX12_told (Cond.code yX12_told cX12_told 2 (some .int) :: TB) (RM 2) (va_Pc [.ref (ad 0), .int x1] (WrP EM T D ad 16 M sz)) (QcW EM T D ad 16 (AA ad 16 sz) Q1) 0 0 (AA ad 16 sz) := by
  refine st_W (by decide) (Nat.le_of_ble_eq_true rfl) (fun p e s m args below meth c ls C hr hlk hsz Z hl => ?_)
  have hl : lv_has ls 2 [(0, .ref (ad 0)), (1, .int x1)] := hl
  generalize AA ad 16 sz = A at Z ⊢
  have hx := C.x
  have hb := C.b
  delta P_X12_told at hB
  refine lv_iload_n hx hb dX12_told_0 rfl (lv_at hl 1 rfl) ?_
  refine lv_i2l hx hb dX12_told_1 rfl ?_
  refine lv_lconst (v := 1) hx hb dX12_told_2 (by decide) ?_
  refine lv_ldc2 hx hb C.1.2.2.2.1 (C.1.2.2.2.2 _ tw_7_123) dX12_told_3 ?_
  refine v_X12_in C.1 hl.1 tw_5_191 ⟨Nat.le_of_ble_eq_true rfl, Nat.le_of_ble_eq_true rfl⟩ ⟨Nat.le_refl _, Nat.le_refl _⟩ (Nat.le_of_ble_eq_true rfl) dX12_told_6 hB (fun v1 hB => ?_)
  refine lv_if_eq (tgt := 21) hx hb dX12_told_9 (by decide) (fun q2 => ?_) (fun q2 => ?_)
  · have hB := hB.1 q2
    refine lv_aload_n hx hb dX12_told_21 rfl (lv_at hl 0 rfl) ?_
    refine lv_iconst (v := 1) hx hb dX12_told_22 (by decide) ?_
    refine v_X12_finds C hl.1 Z tw_5_194 ⟨Nat.le_of_ble_eq_true rfl, Nat.le_of_ble_eq_true rfl⟩ ⟨Nat.le_refl _, Nat.le_refl _⟩ (Nat.le_of_ble_eq_true rfl) dX12_told_23 hB (fun v3 M4 H locs hB Z => ?_)
    exact e_iW C hr hlk Z dX12_told_26 hB
  · have hB := hB.2 q2
    refine lv_aload_n hx hb dX12_told_12 rfl (lv_at hl 0 rfl) ?_
    refine gf_X12_4 C Z.1 tw_5_102 dX12_told_13 ?_
    refine lv_iload_n hx hb dX12_told_16 rfl (lv_at hl 1 rfl) ?_
    obtain ⟨q5, hB⟩ := hB
    refine a_ld C Z.1 aM_4 q5 dX12_told_17 ?_
    refine lv_goto (tgt := 26) hx hb dX12_told_18 (by decide) ?_
    exact e_iW C hr hlk Z dX12_told_26 hB
set_option maxRecDepth 100000 in
set_option maxHeartbeats 4000000 in
theorem v_X12_told {M : Mem} {x1 : Int32} {Q1 : Int32 → Mem → Prop} (C : Cx T D p s m args c cc nL own) (hls : ls.size = nL) (Z : Zz EM T D ad 16 A H0 M H locs) (hlink : Cond.methodLink own index yX12_told ∈ TB) (hR : 2 + 1 ≤ R.frames ∧ 8 + (2 + 11) + 48 * 2 ≤ R.locals) (hcs : cells ≤ R.cells ∧ slots ≤ R.slots) (hcat : (rest.map fun v => v.category).sum ≤ 8) (hdg : decode cc pc = .ok (.invokevirtual index, 3)) (hB : P_X12_told M x1 Q1)
    (kk : ∀ (r : Int32) (M1 : Mem) (H1 : Heap) (locs1 : List Loc), Q1 r M1 → Zz EM T D ad 16 A H0 M1 H1 locs1 → W p l e R s m args below meth c H1 locs1 cells slots QQ (F0 m (pc + 3) ls (.int r :: rest))) : W p l e R s m args below meth c H locs cells slots QQ (F0 m pc ls (.int x1 :: .ref (ad 0) :: rest)) :=
  k_VW (ci := 12) (n := 1) (c_X12_told hB) tw_7_122 tw_7_120 tw_7_121 tw_1_12 ⟨rfl, by decide, by decide, by decide +kernel⟩ rfl rfl C hls Z oM hlink hR hcs hcat rfl hdg kk
end
