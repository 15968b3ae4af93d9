section
variable {p : Program} {l : Launch} {e : Env} {R : Room} {s : State} {m : MethodId} {args : Array Value} {below : List Frame} {meth : Method} {c : Code} {H : Heap} {locs : List Loc} {cells slots : Nat} {QQ : State → Prop}
variable {cc : ByteArray} {nL : Nat} {own : String} {pc index : Nat} {ls : Array Slot} {rest : List Value} {T : Nat → ClassId} {D : va_G} {ad : Nat → Nat} {A : Nat → Prop} {H0 : Heap}
def P_X11_isRoom (x0 : Int32) (Q1 : Int32 → Prop) : Prop :=
  ((x0 < 0 → Q1 0) ∧
    (¬ x0 < 0 → ((9 ≤ x0 → Q1 0) ∧
      (¬ 9 ≤ x0 → Q1 1))))
set_option maxRecDepth 100000 in
set_option maxHeartbeats 4000000 in
theorem c_X11_isRoom {l : Launch} {x0 : Int32} {Q1 : Int32 → Prop} (hB : P_X11_isRoom x0 Q1) : Met l yX11_isRoom (Cond.code yX11_isRoom cX11_isRoom 1 (some .boolean) :: TB) (RM 1) (va_Pc [.int x0] StP) (QcR Q1) 0 0 (fun _ => False) := by
  refine st_S (by decide) (Nat.le_of_ble_eq_true rfl) (fun p e s m args below meth c ls C hr hlk hl => ?_)
  have hl : lv_has ls 1 [(0, .int x0)] := hl
  have hx := C.1
  have hb := C.2.1
  delta P_X11_isRoom at hB
  refine lv_iload_n hx hb dX11_isRoom_0 rfl (lv_at hl 0 rfl) ?_
  refine lv_if_lt (tgt := 14) hx hb dX11_isRoom_1 (by decide) (fun q1 => ?_) (fun q1 => ?_)
  · have hB := hB.1 q1
    refine lv_iconst (v := 0) hx hb dX11_isRoom_14 (by decide) ?_
    exact e_zR C hr hlk dX11_isRoom_15 (Or.inl rfl) hB
  · have hB := hB.2 q1
    refine lv_iload_n hx hb dX11_isRoom_4 rfl (lv_at hl 0 rfl) ?_
    refine lv_bipush (v := 9) hx hb dX11_isRoom_5 (by decide) ?_
    refine lv_icmp_ge (tgt := 14) hx hb dX11_isRoom_7 (by decide) (fun q2 => ?_) (fun q2 => ?_)
    · have hB := hB.1 q2
      refine lv_iconst (v := 0) hx hb dX11_isRoom_14 (by decide) ?_
      exact e_zR C hr hlk dX11_isRoom_15 (Or.inl rfl) hB
    · have hB := hB.2 q2
      refine lv_iconst (v := 1) hx hb dX11_isRoom_10 (by decide) ?_
      refine lv_goto (tgt := 15) hx hb dX11_isRoom_11 (by decide) ?_
      exact e_zR C hr hlk dX11_isRoom_15 (Or.inr rfl) hB
set_option maxRecDepth 100000 in
set_option maxHeartbeats 4000000 in
theorem v_X11_isRoom {x0 : Int32} {Q1 : Int32 → Prop} (C : CallFix p m c cc nL s args TB own) (hls : ls.size = nL) (hlink : Cond.methodLink own index yX11_isRoom ∈ TB) (hR : 1 + 1 ≤ R.frames ∧ 8 + (1 + 11) + 48 * 1 ≤ R.locals) (hcs : cells ≤ R.cells ∧ slots ≤ R.slots) (hcat : (rest.map fun v => v.category).sum ≤ 8) (hdg : decode cc pc = .ok (.invokestatic index, 3)) (hB : P_X11_isRoom x0 Q1)
    (kk : ∀ r : Int32, Q1 r → W p l e R s m args below meth c H locs cells slots QQ (F0 m (pc + 3) ls (.int r :: rest))) : W p l e R s m args below meth c H locs cells slots QQ (F0 m pc ls (.int x0 :: rest)) :=
  k_S (n := 1) (c_X11_isRoom hB) tw_2_52 tw_2_51 tw_1_1 ⟨by decide, by decide, by decide +kernel⟩ rfl C hls  hlink hR hcs hcat rfl hdg kk
def P_X11_isNotch (x0 : Int32) (Q1 : Int32 → Prop) : Prop :=
  ((x0 < 0 → Q1 0) ∧
    (¬ x0 < 0 → ((9 < x0 → Q1 0) ∧
      (¬ 9 < x0 → Q1 1))))
set_option maxRecDepth 100000 in
set_option maxHeartbeats 4000000 in
theorem c_X11_isNotch {l : Launch} {x0 : Int32} {Q1 : Int32 → Prop} (hB : P_X11_isNotch x0 Q1) : Met l yX11_isNotch (Cond.code yX11_isNotch cX11_isNotch 1 (some .boolean) :: TB) (RM 1) (va_Pc [.int x0] StP) (QcR Q1) 0 0 (fun _ => False) := by
  refine st_S (by decide) (Nat.le_of_ble_eq_true rfl) (fun p e s m args below meth c ls C hr hlk hl => ?_)
  have hl : lv_has ls 1 [(0, .int x0)] := hl
  have hx := C.1
  have hb := C.2.1
  delta P_X11_isNotch at hB
  refine lv_iload_n hx hb dX11_isNotch_0 rfl (lv_at hl 0 rfl) ?_
  refine lv_if_lt (tgt := 14) hx hb dX11_isNotch_1 (by decide) (fun q1 => ?_) (fun q1 => ?_)
  · have hB := hB.1 q1
    refine lv_iconst (v := 0) hx hb dX11_isNotch_14 (by decide) ?_
    exact e_zR C hr hlk dX11_isNotch_15 (Or.inl rfl) hB
  · have hB := hB.2 q1
    refine lv_iload_n hx hb dX11_isNotch_4 rfl (lv_at hl 0 rfl) ?_
    refine lv_bipush (v := 9) hx hb dX11_isNotch_5 (by decide) ?_
    refine lv_icmp_gt (tgt := 14) hx hb dX11_isNotch_7 (by decide) (fun q2 => ?_) (fun q2 => ?_)
    · have hB := hB.1 q2
      refine lv_iconst (v := 0) hx hb dX11_isNotch_14 (by decide) ?_
      exact e_zR C hr hlk dX11_isNotch_15 (Or.inl rfl) hB
    · have hB := hB.2 q2
      refine lv_iconst (v := 1) hx hb dX11_isNotch_10 (by decide) ?_
      refine lv_goto (tgt := 15) hx hb dX11_isNotch_11 (by decide) ?_
      exact e_zR C hr hlk dX11_isNotch_15 (Or.inr rfl) hB
set_option maxRecDepth 100000 in
set_option maxHeartbeats 4000000 in
theorem v_X11_isNotch {x0 : Int32} {Q1 : Int32 → Prop} (C : CallFix p m c cc nL s args TB own) (hls : ls.size = nL) (hlink : Cond.methodLink own index yX11_isNotch ∈ TB) (hR : 1 + 1 ≤ R.frames ∧ 8 + (1 + 11) + 48 * 1 ≤ R.locals) (hcs : cells ≤ R.cells ∧ slots ≤ R.slots) (hcat : (rest.map fun v => v.category).sum ≤ 8) (hdg : decode cc pc = .ok (.invokestatic index, 3)) (hB : P_X11_isNotch x0 Q1)
    (kk : ∀ r : Int32, Q1 r → W p l e R s m args below meth c H locs cells slots QQ (F0 m (pc + 3) ls (.int r :: rest))) : W p l e R s m args below meth c H locs cells slots QQ (F0 m pc ls (.int x0 :: rest)) :=
  k_S (n := 1) (c_X11_isNotch hB) tw_2_55 tw_2_54 tw_1_1 ⟨by decide, by decide, by decide +kernel⟩ rfl C hls  hlink hR hcs hcat rfl hdg kk
def P_X11_error (K : Nat) (M : Mem) (x1 : Int32) (Q1 : Int32 → Mem → Prop) : Prop :=
  vp_in x1 6 ∧ vp_in x1 6 ∧ ∀ M2 : Mem, M2 = sf M 4 x1.toNatClampNeg ((M 4 x1.toNatClampNeg) + 1) → Q1 ((-1000000000) - x1) M2
set_option maxRecDepth 100000 in
set_option maxHeartbeats 4000000 in
theorem c_X11_error {l : Launch} {T : Nat → ClassId} {D : va_G} {ad : Nat → Nat} {K : Nat} {M : Mem} {x1 : Int32} {sz : Nat} {Q1 : Int32 → Mem → Prop} (hB : P_X11_error K M x1 Q1) : Met l yX11_error (Cond.code yX11_error cX11_error 2 (some .int) :: TB) (RM 1) (va_Pc [.ref (ad 0), .int x1] (WrP EC T D ad (69 + K) M sz)) (QcW EC T D ad (69 + K) (AA ad (69 + K) sz) Q1) 0 0 (AA ad (69 + K) sz) := by
  refine st_W (by decide) (Nat.le_of_ble_eq_true rfl) (fun p e s m args below meth c ls C hr hlk hsz Z hl => ?_)
  have hl : lv_has ls 2 [(0, .ref (ad 0)), (1, .int x1)] := hl
  generalize AA ad (69 + K) sz = A at Z ⊢
  have hx := C.x
  have hb := C.b
  delta P_X11_error at hB
  refine lv_aload_n hx hb dX11_error_0 rfl (lv_at hl 0 rfl) ?_
  refine gf_X11_4 C Z.1 tw_2_16 dX11_error_1 ?_
  refine lv_iload_n hx hb dX11_error_4 rfl (lv_at hl 1 rfl) ?_
  refine lv_dup2_11 hx hb dX11_error_5 rfl rfl ?_
  obtain ⟨q1, hB⟩ := hB
  refine a_ld C Z.1 aC_4 q1 dX11_error_6 ?_
  refine lv_iconst (v := 1) hx hb dX11_error_7 (by decide) ?_
  refine lv_iadd hx hb dX11_error_8 ?_
  obtain ⟨q3, hB⟩ := hB
  refine a_st C Z aC_4 q3 dX11_error_9 (fun M2 H locs eM2 Z => ?_)
  have hB := hB M2 eM2
  refine lv_ldcw hx hb C.1.2.2.2.1 (C.1.2.2.2.2 _ tw_2_60) dX11_error_10 ?_
  refine lv_iload_n hx hb dX11_error_13 rfl (lv_at hl 1 rfl) ?_
  refine lv_isub hx hb dX11_error_14 ?_
  exact e_iW C hr hlk Z dX11_error_15 hB
set_option maxRecDepth 100000 in
set_option maxHeartbeats 4000000 in
theorem v_X11_error {K : Nat} {M : Mem} {x1 : Int32} {Q1 : Int32 → Mem → Prop} (C : Cx T D p s m args c cc nL own) (hls : ls.size = nL) (Z : Zz EC T D ad (69 + K) A H0 M H locs) (hlink : Cond.methodLink own index yX11_error ∈ TB) (hR : 1 + 1 ≤ R.frames ∧ 8 + (2 + 11) + 48 * 1 ≤ R.locals) (hcs : cells ≤ R.cells ∧ slots ≤ R.slots) (hcat : (rest.map fun v => v.category).sum ≤ 8) (hdg : decode cc pc = .ok (.invokevirtual index, 3)) (hB : P_X11_error K M x1 Q1)
    (kk : ∀ (r : Int32) (M1 : Mem) (H1 : Heap) (locs1 : List Loc), Q1 r M1 → Zz EC T D ad (69 + K) A H0 M1 H1 locs1 → W p l e R s m args below meth c H1 locs1 cells slots QQ (F0 m (pc + 3) ls (.int r :: rest))) : W p l e R s m args below meth c H locs cells slots QQ (F0 m pc ls (.int x1 :: .ref (ad 0) :: rest)) :=
  k_VW (ci := 11) (n := 1) (c_X11_error hB) tw_2_59 tw_2_58 tw_s_0 tw_1_1 ⟨rfl, by decide, by decide, by decide +kernel⟩ rfl rfl C hls Z oO hlink hR hcs hcat rfl hdg kk
def P_X2_addWindow (K : Nat) (M : Mem) (g : Nat) (x1 : Int32) (x2 : Int32) (Q1 : Int32 → Mem → Prop) : Prop :=
  ∀ x3_1 : Int32, x3_1 = M g 0 → vp_in x3_1 8 ∧ ∀ M2 : Mem, M2 = sf M (g + 1) x3_1.toNatClampNeg x1 → vp_in x3_1 8 ∧ ∀ M4 : Mem, M4 = sf M2 (g + 2) x3_1.toNatClampNeg x2 → vp_in x3_1 8 ∧ ∀ M6 : Mem, M6 = sf M4 (g + 3) x3_1.toNatClampNeg (-1) → vp_in x3_1 8 ∧ ∀ M8 : Mem, M8 = sf M6 (g + 4) x3_1.toNatClampNeg 0 → ∀ v10 : Int32, v10 = (M8 g 0) + 1 → ∀ M11 : Mem, M11 = sf M8 g 0 v10 → Q1 x3_1 M11
set_option maxRecDepth 100000 in
set_option maxHeartbeats 4000000 in
theorem c_X2_addWindow {l : Launch} {T : Nat → ClassId} {D : va_G} {ad : Nat → Nat} {K : Nat} {M : Mem} {g : Nat} {x1 : Int32} {x2 : Int32} {sz : Nat} {Q1 : Int32 → Mem → Prop} (hg : isH g) (hB : P_X2_addWindow K M g x1 x2 Q1) : Met l yX2_addWindow (Cond.code yX2_addWindow cX2_addWindow 4 (some .int) :: TB) (RM 1) (va_Pc [.ref (ad g), .int x1, .int x2] (WrP EC T D ad (69 + K) M sz)) (QcW EC T D ad (69 + K) (AA ad (69 + K) sz) Q1) 0 0 (AA ad (69 + K) sz) := by
  refine st_W (by decide) (Nat.le_of_ble_eq_true rfl) (fun p e s m args below meth c ls C hr hlk hsz Z hl => ?_)
  have hl : lv_has ls 4 [(0, .ref (ad g)), (1, .int x1), (2, .int x2)] := hl
  generalize AA ad (69 + K) sz = A at Z ⊢
  have hx := C.x
  have hb := C.b
  delta P_X2_addWindow at hB
  refine lv_aload_n hx hb dX2_addWindow_0 rfl (lv_at hl 0 rfl) ?_
  refine gf_X2_0 C Z.1 hg tw_1_127 dX2_addWindow_1 ?_
  refine lv_topi (fun x3_1 ex3_1 => ?_)
  have hB := hB x3_1 ex3_1
  refine lv_istore_n (lv' := [(3, .int x3_1), (0, .ref (ad g)), (1, .int x1), (2, .int x2)]) hx hb dX2_addWindow_4 rfl hl (by decide) rfl (fun ls hl => ?_)
  refine lv_aload_n hx hb dX2_addWindow_5 rfl (lv_at hl 1 rfl) ?_
  refine gf_X2_3 C Z.1 hg tw_1_136 dX2_addWindow_6 ?_
  refine lv_iload_n hx hb dX2_addWindow_9 rfl (lv_at hl 0 rfl) ?_
  refine lv_iload_n hx hb dX2_addWindow_10 rfl (lv_at hl 2 rfl) ?_
  obtain ⟨q3, hB⟩ := hB
  refine a_st C Z (aH_1 hg) q3 dX2_addWindow_11 (fun M2 H locs eM2 Z => ?_)
  have hB := hB M2 eM2
  refine lv_aload_n hx hb dX2_addWindow_12 rfl (lv_at hl 1 rfl) ?_
  refine gf_X2_4 C Z.1 hg tw_1_139 dX2_addWindow_13 ?_
  refine lv_iload_n hx hb dX2_addWindow_16 rfl (lv_at hl 0 rfl) ?_
  refine lv_iload_n hx hb dX2_addWindow_17 rfl (lv_at hl 3 rfl) ?_
  obtain ⟨q5, hB⟩ := hB
  refine a_st C Z (aH_2 hg) q5 dX2_addWindow_18 (fun M4 H locs eM4 Z => ?_)
  have hB := hB M4 eM4
  refine lv_aload_n hx hb dX2_addWindow_19 rfl (lv_at hl 1 rfl) ?_
  refine gf_X2_5 C Z.1 hg tw_1_142 dX2_addWindow_20 ?_
  refine lv_iload_n hx hb dX2_addWindow_23 rfl (lv_at hl 0 rfl) ?_
  refine lv_iconst (v := (-1)) hx hb dX2_addWindow_24 (by decide) ?_
  obtain ⟨q7, hB⟩ := hB
  refine a_st C Z (aH_3 hg) q7 dX2_addWindow_25 (fun M6 H locs eM6 Z => ?_)
  have hB := hB M6 eM6
  refine lv_aload_n hx hb dX2_addWindow_26 rfl (lv_at hl 1 rfl) ?_
  refine gf_X2_6 C Z.1 hg tw_1_145 dX2_addWindow_27 ?_
  refine lv_iload_n hx hb dX2_addWindow_30 rfl (lv_at hl 0 rfl) ?_
  refine lv_iconst (v := 0) hx hb dX2_addWindow_31 (by decide) ?_
  obtain ⟨q9, hB⟩ := hB
  refine a_st C Z (aH_4 hg) q9 dX2_addWindow_32 (fun M8 H locs eM8 Z => ?_)
  have hB := hB M8 eM8
  refine lv_aload_n hx hb dX2_addWindow_33 rfl (lv_at hl 1 rfl) ?_
  refine lv_dup hx hb dX2_addWindow_34 rfl ?_
  refine gf_X2_0 C Z.1 hg tw_1_127 dX2_addWindow_35 ?_
  refine lv_iconst (v := 1) hx hb dX2_addWindow_38 (by decide) ?_
  refine lv_iadd hx hb dX2_addWindow_39 ?_
  refine lv_topi (fun v10 ev10 => ?_)
  have hB := hB v10 ev10
  refine pf_X2_0 C Z hg tw_1_127 dX2_addWindow_40 (fun M11 H locs eM11 Z => ?_)
  have hB := hB M11 eM11
  refine lv_iload_n hx hb dX2_addWindow_43 rfl (lv_at hl 0 rfl) ?_
  exact e_iW C hr hlk Z dX2_addWindow_44 hB
set_option maxRecDepth 100000 in
set_option maxHeartbeats 4000000 in
theorem v_X2_addWindow {K : Nat} {M : Mem} {g : Nat} {x1 : Int32} {x2 : Int32} {Q1 : Int32 → Mem → Prop} (C : Cx T D p s m args c cc nL own) (hls : ls.size = nL) (Z : Zz EC T D ad (69 + K) A H0 M H locs) (hg : isH g) (hlink : Cond.methodLink own index yX2_addWindow ∈ TB) (hR : 1 + 1 ≤ R.frames ∧ 8 + (4 + 11) + 48 * 1 ≤ R.locals) (hcs : cells ≤ R.cells ∧ slots ≤ R.slots) (hcat : (rest.map fun v => v.category).sum ≤ 8) (hdg : decode cc pc = .ok (.invokevirtual index, 3)) (hB : P_X2_addWindow K M g x1 x2 Q1)
    (kk : ∀ (r : Int32) (M1 : Mem) (H1 : Heap) (locs1 : List Loc), Q1 r M1 → Zz EC T D ad (69 + K) A H0 M1 H1 locs1 → W p l e R s m args below meth c H1 locs1 cells slots QQ (F0 m (pc + 3) ls (.int r :: rest))) : W p l e R s m args below meth c H locs cells slots QQ (F0 m pc ls (.int x2 :: .int x1 :: .ref (ad g) :: rest)) :=
  k_VW (ci := 2) (n := 2) (c_X2_addWindow hg hB) tw_2_64 tw_2_62 tw_2_63 tw_1_10 ⟨rfl, by decide, by decide, by decide +kernel⟩ rfl rfl C hls Z (oH hg) hlink hR hcs hcat rfl hdg kk
def P_X11_window (K : Nat) (M : Mem) (x1 : Int32) (x2 : Int32) (Q1 : Int32 → Mem → Prop) : Prop :=
  P_X11_isRoom x1 (fun v1 => ((v1 = 0 → P_X11_error K M 1 (fun v3 M4 => Q1 v3 M4)) ∧
    (¬ v1 = 0 → P_X11_isNotch x2 (fun v5 => ((¬ v5 = 0 → (((M 30 0) < 8 → P_X2_addWindow K M 30 x1 x2 (fun v8 M9 => Q1 v8 M9)) ∧
        (¬ (M 30 0) < 8 → P_X11_error K M 4 (fun v10 M11 => Q1 v10 M11)))) ∧
      (v5 = 0 → P_X11_error K M 1 (fun v12 M13 => Q1 v12 M13)))))))
set_option maxRecDepth 100000 in
set_option maxHeartbeats 4000000 in
theorem c_X11_window {l : Launch} {T : Nat → ClassId} {D : va_G} {ad : Nat → Nat} {K : Nat} {M : Mem} {x1 : Int32} {x2 : Int32} {sz : Nat} {Q1 : Int32 → Mem → Prop} (hB : P_X11_window K M x1 x2 Q1) : Met l yX11_window (Cond.code yX11_window cX11_window 3 (some .int) :: TB) (RM 2) (va_Pc [.ref (ad 0), .int x1, .int x2] (WrP EC T D ad (69 + K) M sz)) (QcW EC T D ad (69 + K) (AA ad (69 + K) sz) Q1) 0 0 (AA ad (69 + K) sz) := by
  refine st_W (by decide) (Nat.le_of_ble_eq_true rfl) (fun p e s m args below meth c ls C hr hlk hsz Z hl => ?_)
  have hl : lv_has ls 3 [(0, .ref (ad 0)), (1, .int x1), (2, .int x2)] := hl
  generalize AA ad (69 + K) sz = A at Z ⊢
  have hx := C.x
  have hb := C.b
  delta P_X11_window at hB
  refine lv_iload_n hx hb dX11_window_0 rfl (lv_at hl 1 rfl) ?_
  refine v_X11_isRoom C.1 hl.1 tw_2_50 ⟨Nat.le_of_ble_eq_true rfl, Nat.le_of_ble_eq_true rfl⟩ ⟨Nat.le_refl _, Nat.le_refl _⟩ (Nat.le_of_ble_eq_true rfl) dX11_window_1 hB (fun v1 hB => ?_)
  refine lv_if_eq (tgt := 14) hx hb dX11_window_4 (by decide) (fun q2 => ?_) (fun q2 => ?_)
  · have hB := hB.1 q2
    refine lv_aload_n hx hb dX11_window_14 rfl (lv_at hl 0 rfl) ?_
    refine lv_iconst (v := 1) hx hb dX11_window_15 (by decide) ?_
    refine v_X11_error C hl.1 Z tw_2_56 ⟨Nat.le_of_ble_eq_true rfl, Nat.le_of_ble_eq_true rfl⟩ ⟨Nat.le_refl _, Nat.le_refl _⟩ (Nat.le_of_ble_eq_true rfl) dX11_window_16 hB (fun v3 M4 H locs hB Z => ?_)
    exact e_iW C hr hlk Z dX11_window_19 hB
  · have hB := hB.2 q2
    refine lv_iload_n hx hb dX11_window_7 rfl (lv_at hl 2 rfl) ?_
    refine v_X11_isNotch C.1 hl.1 tw_2_53 ⟨Nat.le_of_ble_eq_true rfl, Nat.le_of_ble_eq_true rfl⟩ ⟨Nat.le_refl _, Nat.le_refl _⟩ (Nat.le_of_ble_eq_true rfl) dX11_window_8 hB (fun v5 hB => ?_)
    refine lv_if_ne (tgt := 20) hx hb dX11_window_11 (by decide) (fun q6 => ?_) (fun q6 => ?_)
    · have hB := hB.1 q6
      refine lv_aload_n hx hb dX11_window_20 rfl (lv_at hl 0 rfl) ?_
      refine gf_X11_5 C Z.1 tw_2_17 dX11_window_21 ?_
      refine gf_X2_0 C Z.1 isH_0 tw_1_128 dX11_window_24 ?_
      refine lv_bipush (v := 8) hx hb dX11_window_27 (by decide) ?_
      refine lv_icmp_lt (tgt := 38) hx hb dX11_window_29 (by decide) (fun q7 => ?_) (fun q7 => ?_)
      · have hB := hB.1 q7
        refine lv_aload_n hx hb dX11_window_38 rfl (lv_at hl 0 rfl) ?_
        refine gf_X11_5 C Z.1 tw_2_17 dX11_window_39 ?_
        refine lv_iload_n hx hb dX11_window_42 rfl (lv_at hl 1 rfl) ?_
        refine lv_iload_n hx hb dX11_window_43 rfl (lv_at hl 2 rfl) ?_
        refine v_X2_addWindow C hl.1 Z isH_0 tw_2_61 ⟨Nat.le_of_ble_eq_true rfl, Nat.le_of_ble_eq_true rfl⟩ ⟨Nat.le_refl _, Nat.le_refl _⟩ (Nat.le_of_ble_eq_true rfl) dX11_window_44 hB (fun v8 M9 H locs hB Z => ?_)
        exact e_iW C hr hlk Z dX11_window_47 hB
      · have hB := hB.2 q7
        refine lv_aload_n hx hb dX11_window_32 rfl (lv_at hl 0 rfl) ?_
        refine lv_iconst (v := 4) hx hb dX11_window_33 (by decide) ?_
        refine v_X11_error C hl.1 Z tw_2_56 ⟨Nat.le_of_ble_eq_true rfl, Nat.le_of_ble_eq_true rfl⟩ ⟨Nat.le_refl _, Nat.le_refl _⟩ (Nat.le_of_ble_eq_true rfl) dX11_window_34 hB (fun v10 M11 H locs hB Z => ?_)
        exact e_iW C hr hlk Z dX11_window_37 hB
    · have hB := hB.2 q6
      refine lv_aload_n hx hb dX11_window_14 rfl (lv_at hl 0 rfl) ?_
      refine lv_iconst (v := 1) hx hb dX11_window_15 (by decide) ?_
      refine v_X11_error C hl.1 Z tw_2_56 ⟨Nat.le_of_ble_eq_true rfl, Nat.le_of_ble_eq_true rfl⟩ ⟨Nat.le_refl _, Nat.le_refl _⟩ (Nat.le_of_ble_eq_true rfl) dX11_window_16 hB (fun v12 M13 H locs hB Z => ?_)
      exact e_iW C hr hlk Z dX11_window_19 hB
set_option maxRecDepth 100000 in
set_option maxHeartbeats 4000000 in
theorem v_X11_window {K : Nat} {M : Mem} {x1 : Int32} {x2 : Int32} {Q1 : Int32 → Mem → Prop} (C : Cx T D p s m args c cc nL own) (hls : ls.size = nL) (Z : Zz EC T D ad (69 + K) A H0 M H locs) (hlink : Cond.methodLink own index yX11_window ∈ TB) (hR : 2 + 1 ≤ R.frames ∧ 8 + (3 + 11) + 48 * 2 ≤ R.locals) (hcs : cells ≤ R.cells ∧ slots ≤ R.slots) (hcat : (rest.map fun v => v.category).sum ≤ 8) (hdg : decode cc pc = .ok (.invokevirtual index, 3)) (hB : P_X11_window K M x1 x2 Q1)
    (kk : ∀ (r : Int32) (M1 : Mem) (H1 : Heap) (locs1 : List Loc), Q1 r M1 → Zz EC T D ad (69 + K) A H0 M1 H1 locs1 → W p l e R s m args below meth c H1 locs1 cells slots QQ (F0 m (pc + 3) ls (.int r :: rest))) : W p l e R s m args below meth c H locs cells slots QQ (F0 m pc ls (.int x2 :: .int x1 :: .ref (ad 0) :: rest)) :=
  k_VW (ci := 11) (n := 2) (c_X11_window hB) tw_2_49 tw_2_47 tw_2_48 tw_1_1 ⟨rfl, by decide, by decide, by decide +kernel⟩ rfl rfl C hls Z oO hlink hR hcs hcat rfl hdg kk
def P_J6_bitCount_0f7a4 (x0 : Int32) (Q1 : Int32 → Prop) : Prop :=
  ∀ x0_1 : Int32, x0_1 = x0 - (((x0.toUInt32 >>> ((1 : Int32).toUInt32 &&& Int32.toUInt32 31)).toInt32) &&& 1431655765) → ∀ x0_2 : Int32, x0_2 = (x0_1 &&& 858993459) + (((x0_1.toUInt32 >>> ((2 : Int32).toUInt32 &&& Int32.toUInt32 31)).toInt32) &&& 858993459) → ∀ x0_3 : Int32, x0_3 = (x0_2 + ((x0_2.toUInt32 >>> ((4 : Int32).toUInt32 &&& Int32.toUInt32 31)).toInt32)) &&& 252645135 → ∀ x0_4 : Int32, x0_4 = x0_3 + ((x0_3.toUInt32 >>> ((8 : Int32).toUInt32 &&& Int32.toUInt32 31)).toInt32) → ∀ x0_5 : Int32, x0_5 = x0_4 + ((x0_4.toUInt32 >>> ((16 : Int32).toUInt32 &&& Int32.toUInt32 31)).toInt32) → Q1 (x0_5 &&& 63)
set_option maxRecDepth 100000 in
set_option maxHeartbeats 4000000 in
theorem c_J6_bitCount_0f7a4 {l : Launch} {x0 : Int32} {Q1 : Int32 → Prop} (hB : P_J6_bitCount_0f7a4 x0 Q1) : Met l yJ6_bitCount_0f7a4 (Cond.code yJ6_bitCount_0f7a4 cJ6_bitCount_0f7a4 1 (some .int) :: TB) (RM 1) (va_Pc [.int x0] StP) (QcR Q1) 0 0 (fun _ => False) := by
  refine st_S (by decide) (Nat.le_of_ble_eq_true rfl) (fun p e s m args below meth c ls C hr hlk hl => ?_)
  have hl : lv_has ls 1 [(0, .int x0)] := hl
  have hx := C.1
  have hb := C.2.1
  delta P_J6_bitCount_0f7a4 at hB
  refine lv_iload_n hx hb dJ6_bitCount_0f7a4_0 rfl (lv_at hl 0 rfl) ?_
  refine lv_iload_n hx hb dJ6_bitCount_0f7a4_1 rfl (lv_at hl 0 rfl) ?_
  refine lv_iconst (v := 1) hx hb dJ6_bitCount_0f7a4_2 (by decide) ?_
  refine lv_iushr hx hb dJ6_bitCount_0f7a4_3 rfl ?_
  refine lv_ldcw hx hb C.2.2.2.1 (C.2.2.2.2 _ tw_2_72) dJ6_bitCount_0f7a4_4 ?_
  refine lv_iand hx hb dJ6_bitCount_0f7a4_7 ?_
  refine lv_isub hx hb dJ6_bitCount_0f7a4_8 ?_
  refine lv_topi (fun x0_1 ex0_1 => ?_)
  have hB := hB x0_1 ex0_1
  refine lv_istore_n (lv' := [(0, .int x0_1)]) hx hb dJ6_bitCount_0f7a4_9 rfl hl (by decide) rfl (fun ls hl => ?_)
  refine lv_iload_n hx hb dJ6_bitCount_0f7a4_10 rfl (lv_at hl 0 rfl) ?_
  refine lv_ldcw hx hb C.2.2.2.1 (C.2.2.2.2 _ tw_2_73) dJ6_bitCount_0f7a4_11 ?_
  refine lv_iand hx hb dJ6_bitCount_0f7a4_14 ?_
  refine lv_iload_n hx hb dJ6_bitCount_0f7a4_15 rfl (lv_at hl 0 rfl) ?_
  refine lv_iconst (v := 2) hx hb dJ6_bitCount_0f7a4_16 (by decide) ?_
  refine lv_iushr hx hb dJ6_bitCount_0f7a4_17 rfl ?_
  refine lv_ldcw hx hb C.2.2.2.1 (C.2.2.2.2 _ tw_2_73) dJ6_bitCount_0f7a4_18 ?_
  refine lv_iand hx hb dJ6_bitCount_0f7a4_21 ?_
  refine lv_iadd hx hb dJ6_bitCount_0f7a4_22 ?_
  refine lv_topi (fun x0_2 ex0_2 => ?_)
  have hB := hB x0_2 ex0_2
  refine lv_istore_n (lv' := [(0, .int x0_2)]) hx hb dJ6_bitCount_0f7a4_23 rfl hl (by decide) rfl (fun ls hl => ?_)
  refine lv_iload_n hx hb dJ6_bitCount_0f7a4_24 rfl (lv_at hl 0 rfl) ?_
  refine lv_iload_n hx hb dJ6_bitCount_0f7a4_25 rfl (lv_at hl 0 rfl) ?_
  refine lv_iconst (v := 4) hx hb dJ6_bitCount_0f7a4_26 (by decide) ?_
  refine lv_iushr hx hb dJ6_bitCount_0f7a4_27 rfl ?_
  refine lv_iadd hx hb dJ6_bitCount_0f7a4_28 ?_
  refine lv_ldcw hx hb C.2.2.2.1 (C.2.2.2.2 _ tw_2_74) dJ6_bitCount_0f7a4_29 ?_
  refine lv_iand hx hb dJ6_bitCount_0f7a4_32 ?_
  refine lv_topi (fun x0_3 ex0_3 => ?_)
  have hB := hB x0_3 ex0_3
  refine lv_istore_n (lv' := [(0, .int x0_3)]) hx hb dJ6_bitCount_0f7a4_33 rfl hl (by decide) rfl (fun ls hl => ?_)
  refine lv_iload_n hx hb dJ6_bitCount_0f7a4_34 rfl (lv_at hl 0 rfl) ?_
  refine lv_iload_n hx hb dJ6_bitCount_0f7a4_35 rfl (lv_at hl 0 rfl) ?_
  refine lv_bipush (v := 8) hx hb dJ6_bitCount_0f7a4_36 (by decide) ?_
  refine lv_iushr hx hb dJ6_bitCount_0f7a4_38 rfl ?_
  refine lv_iadd hx hb dJ6_bitCount_0f7a4_39 ?_
  refine lv_topi (fun x0_4 ex0_4 => ?_)
  have hB := hB x0_4 ex0_4
  refine lv_istore_n (lv' := [(0, .int x0_4)]) hx hb dJ6_bitCount_0f7a4_40 rfl hl (by decide) rfl (fun ls hl => ?_)
  refine lv_iload_n hx hb dJ6_bitCount_0f7a4_41 rfl (lv_at hl 0 rfl) ?_
  refine lv_iload_n hx hb dJ6_bitCount_0f7a4_42 rfl (lv_at hl 0 rfl) ?_
  refine lv_bipush (v := 16) hx hb dJ6_bitCount_0f7a4_43 (by decide) ?_
  refine lv_iushr hx hb dJ6_bitCount_0f7a4_45 rfl ?_
  refine lv_iadd hx hb dJ6_bitCount_0f7a4_46 ?_
  refine lv_topi (fun x0_5 ex0_5 => ?_)
  have hB := hB x0_5 ex0_5
  refine lv_istore_n (lv' := [(0, .int x0_5)]) hx hb dJ6_bitCount_0f7a4_47 rfl hl (by decide) rfl (fun ls hl => ?_)
  refine lv_iload_n hx hb dJ6_bitCount_0f7a4_48 rfl (lv_at hl 0 rfl) ?_
  refine lv_bipush (v := 63) hx hb dJ6_bitCount_0f7a4_49 (by decide) ?_
  refine lv_iand hx hb dJ6_bitCount_0f7a4_51 ?_
  exact e_iR C hr hlk dJ6_bitCount_0f7a4_52 hB
set_option maxRecDepth 100000 in
set_option maxHeartbeats 4000000 in
theorem v_J6_bitCount_0f7a4 {x0 : Int32} {Q1 : Int32 → Prop} (C : CallFix p m c cc nL s args TB own) (hls : ls.size = nL) (hlink : Cond.methodLink own index yJ6_bitCount_0f7a4 ∈ TB) (hR : 1 + 1 ≤ R.frames ∧ 8 + (1 + 11) + 48 * 1 ≤ R.locals) (hcs : cells ≤ R.cells ∧ slots ≤ R.slots) (hcat : (rest.map fun v => v.category).sum ≤ 8) (hdg : decode cc pc = .ok (.invokestatic index, 3)) (hB : P_J6_bitCount_0f7a4 x0 Q1)
    (kk : ∀ r : Int32, Q1 r → W p l e R s m args below meth c H locs cells slots QQ (F0 m (pc + 3) ls (.int r :: rest))) : W p l e R s m args below meth c H locs cells slots QQ (F0 m pc ls (.int x0 :: rest)) :=
  k_S (n := 1) (c_J6_bitCount_0f7a4 hB) tw_2_71 tw_2_70 tw_1_13 ⟨by decide, by decide, by decide +kernel⟩ rfl C hls  hlink hR hcs hcat rfl hdg kk
def B_X2_hanging_4 (K : Nat) (g : Nat) (M : Mem) (Q1 : Int32 → Prop) (x1 : Int32) (x2 : Int32) : Prop :=
  ∀ X4 : Int32 → Int32 → Prop, (∀ (x1 : Int32) (x2 : Int32), ((((M g 0) ≤ x2 → Q1 x1) ∧
    (¬ (M g 0) ≤ x2 → vp_in x2 8 ∧ (((M (g + 3) x2.toNatClampNeg) < 0 → ∀ x2_4 : Int32, x2_4 = x2 + 1 → X4 x1 x2_4) ∧
      (¬ (M (g + 3) x2.toNatClampNeg) < 0 → ∀ x1_5 : Int32, x1_5 = x1 ||| (1 <<< (x2 &&& 31)) → ∀ x2_6 : Int32, x2_6 = x2 + 1 → X4 x1_5 x2_6))))) → X4 x1 x2) → X4 x1 x2
def P_X2_hanging (K : Nat) (M : Mem) (g : Nat) (Q1 : Int32 → Prop) : Prop :=
  B_X2_hanging_4 K g M Q1 0 0
set_option maxRecDepth 100000 in
set_option maxHeartbeats 4000000 in
theorem w_X2_hanging_4 {K : Nat} {g : Nat} {M : Mem} {Q1 : Int32 → Prop} {x1 : Int32} {x2 : Int32} (C : Cx T D p s m args c cX2_hanging 3 "OneOfTwo$House") (hr : meth.sig.returnType = (some .int)) (hlk : meth.locks = false) (hP : Pw EC T D ad (69 + K) M s.heap) (hg : isH g) {ls : Array Slot} (hl : lv_has ls 3 [(0, .ref (ad g)), (1, .int x1), (2, .int x2)]) (hB : B_X2_hanging_4 K g M Q1 x1 x2) : W p l e (RM 1) s m args below meth c s.heap [] 0 0 (MQ below (QcR Q1) args s 0 0 (fun _ => False)) (F0 m 4 ls []) := by
  delta B_X2_hanging_4 at hB
  obtain ⟨X4, hX4, hY4⟩ : ∃ X4 : Int32 → Int32 → Prop, (∀ (x1 : Int32) (x2 : Int32), X4 x1 x2 → ∀ (ls : Array Slot), lv_has ls 3 [(0, .ref (ad g)), (1, .int x1), (2, .int x2)] → W p l e (RM 1) s m args below meth c s.heap [] 0 0 (MQ below (QcR Q1) args s 0 0 (fun _ => False)) (F0 m 4 ls [])) ∧ (∀ (x1 : Int32) (x2 : Int32), (∀ (ls : Array Slot), lv_has ls 3 [(0, .ref (ad g)), (1, .int x1), (2, .int x2)] → W p l e (RM 1) s m args below meth c s.heap [] 0 0 (MQ below (QcR Q1) args s 0 0 (fun _ => False)) (F0 m 4 ls [])) → X4 x1 x2) := ⟨fun (x1 : Int32) (x2 : Int32) => ∀ (ls : Array Slot), lv_has ls 3 [(0, .ref (ad g)), (1, .int x1), (2, .int x2)] → W p l e (RM 1) s m args below meth c s.heap [] 0 0 (MQ below (QcR Q1) args s 0 0 (fun _ => False)) (F0 m 4 ls []), fun _ _ h => h, fun _ _ h => h⟩
  refine hX4 _ _ (hB X4 (fun x1 x2 hB => hY4 _ _ (fun ls hl => ?_))) _ hl
  have hx := C.x
  have hb := C.b
  refine lv_iload_n hx hb dX2_hanging_4 rfl (lv_at hl 2 rfl) ?_
  refine lv_aload_n hx hb dX2_hanging_5 rfl (lv_at hl 0 rfl) ?_
  refine gf_X2_0 C hP hg tw_1_127 dX2_hanging_6 ?_
  refine lv_icmp_ge (tgt := 33) hx hb dX2_hanging_9 (by decide) (fun q1 => ?_) (fun q1 => ?_)
  · have hB := hB.1 q1
    refine lv_iload_n hx hb dX2_hanging_33 rfl (lv_at hl 1 rfl) ?_
    exact e_iR C.1 hr hlk dX2_hanging_34 hB
  · have hB := hB.2 q1
    refine lv_aload_n hx hb dX2_hanging_12 rfl (lv_at hl 0 rfl) ?_
    refine gf_X2_5 C hP hg tw_1_142 dX2_hanging_13 ?_
    refine lv_iload_n hx hb dX2_hanging_16 rfl (lv_at hl 2 rfl) ?_
    obtain ⟨q2, hB⟩ := hB
    refine a_ld C hP (aH_3 hg) q2 dX2_hanging_17 ?_
    refine lv_if_lt (tgt := 27) hx hb dX2_hanging_18 (by decide) (fun q3 => ?_) (fun q3 => ?_)
    · have hB := hB.1 q3
      obtain ⟨x2_4, ex2_4⟩ : ∃ y : Int32, y = x2 + 1 := ⟨_, rfl⟩
      have hB := hB x2_4 ex2_4
      refine lv_iinc (v := x2_4) (lv' := [(2, .int x2_4), (0, .ref (ad g)), (1, .int x1)]) hx hb dX2_hanging_27 hl (k := 2) rfl (by rw [ex2_4]; rfl) (by decide) rfl (fun ls hl => ?_)
      refine lv_goto (tgt := 4) hx hb dX2_hanging_30 (by decide) ?_
      exact hX4 _ _ hB _ (lv_sub hl [1, 2, 0] rfl)
    · have hB := hB.2 q3
      refine lv_iload_n hx hb dX2_hanging_21 rfl (lv_at hl 1 rfl) ?_
      refine lv_iconst (v := 1) hx hb dX2_hanging_22 (by decide) ?_
      refine lv_iload_n hx hb dX2_hanging_23 rfl (lv_at hl 2 rfl) ?_
      refine lv_ishl hx hb dX2_hanging_24 ?_
      refine lv_ior hx hb dX2_hanging_25 ?_
      refine lv_topi (fun x1_5 ex1_5 => ?_)
      have hB := hB x1_5 ex1_5
      refine lv_istore_n (lv' := [(1, .int x1_5), (0, .ref (ad g)), (2, .int x2)]) hx hb dX2_hanging_26 rfl hl (by decide) rfl (fun ls hl => ?_)
      obtain ⟨x2_6, ex2_6⟩ : ∃ y : Int32, y = x2 + 1 := ⟨_, rfl⟩
      have hB := hB x2_6 ex2_6
      refine lv_iinc (v := x2_6) (lv' := [(2, .int x2_6), (1, .int x1_5), (0, .ref (ad g))]) hx hb dX2_hanging_27 hl (k := 2) rfl (by rw [ex2_6]; rfl) (by decide) rfl (fun ls hl => ?_)
      refine lv_goto (tgt := 4) hx hb dX2_hanging_30 (by decide) ?_
      exact hX4 _ _ hB _ (lv_sub hl [2, 1, 0] rfl)
set_option maxRecDepth 100000 in
set_option maxHeartbeats 4000000 in
theorem c_X2_hanging {l : Launch} {T : Nat → ClassId} {D : va_G} {ad : Nat → Nat} {K : Nat} {M : Mem} {g : Nat} {Q1 : Int32 → Prop} (hg : isH g) (hB : P_X2_hanging K M g Q1) : Met l yX2_hanging (Cond.code yX2_hanging cX2_hanging 3 (some .int) :: TB) (RM 1) (va_Pc [.ref (ad g)] (RdP EC T D ad (69 + K) M)) (QcR Q1) 0 0 (fun _ => False) := by
  refine st_R (by decide) (Nat.le_of_ble_eq_true rfl) (fun p e s m args below meth c ls C hr hlk hP hl => ?_)
  have hl : lv_has ls 3 [(0, .ref (ad g))] := hl
  have hx := C.x
  have hb := C.b
  delta P_X2_hanging at hB
  refine lv_iconst (v := 0) hx hb dX2_hanging_0 (by decide) ?_
  refine lv_istore_n (lv' := [(1, .int 0), (0, .ref (ad g))]) hx hb dX2_hanging_1 rfl hl (by decide) rfl (fun ls hl => ?_)
  refine lv_iconst (v := 0) hx hb dX2_hanging_2 (by decide) ?_
  refine lv_istore_n (lv' := [(2, .int 0), (1, .int 0), (0, .ref (ad g))]) hx hb dX2_hanging_3 rfl hl (by decide) rfl (fun ls hl => ?_)
  exact w_X2_hanging_4 C hr hlk hP hg (lv_sub hl [2, 1, 0] rfl) hB
set_option maxRecDepth 100000 in
set_option maxHeartbeats 4000000 in
theorem v_X2_hanging {K : Nat} {M : Mem} {g : Nat} {Q1 : Int32 → Prop} (C : Cx T D p s m args c cc nL own) (hls : ls.size = nL) (hP : Pw EC T D ad (69 + K) M H) (hg : isH g) (hlink : Cond.methodLink own index yX2_hanging ∈ TB) (hR : 1 + 1 ≤ R.frames ∧ 8 + (3 + 11) + 48 * 1 ≤ R.locals) (hcs : cells ≤ R.cells ∧ slots ≤ R.slots) (hcat : (rest.map fun v => v.category).sum ≤ 8) (hdg : decode cc pc = .ok (.invokevirtual index, 3)) (hB : P_X2_hanging K M g Q1)
    (kk : ∀ r : Int32, Q1 r → W p l e R s m args below meth c H locs cells slots QQ (F0 m (pc + 3) ls (.int r :: rest))) : W p l e R s m args below meth c H locs cells slots QQ (F0 m pc ls (.ref (ad g) :: rest)) :=
  k_V (ci := 2) (n := 0) (c_X2_hanging hg hB) tw_2_78 tw_2_76 tw_2_77 tw_1_10 ⟨rfl, by decide, by decide, by decide +kernel⟩ rfl rfl C hls hP (oH hg) hlink hR hcs hcat rfl hdg kk
def B_X2_addCord_7 (K : Nat) (g : Nat) (Q1 : Int32 → Mem → Prop) (x1 : Int32) (x2 : Int32) (x3 : Int32) (M : Mem) : Prop :=
  ∀ X7 : Int32 → Mem → Prop, (∀ (x3 : Int32) (M : Mem), ((((M g 0) ≤ x3 → ∀ v3 : Int32, v3 = (M g 1) + 1 → ∀ M4 : Mem, M4 = sf M g 1 v3 → Q1 x2 M4) ∧
    (¬ (M g 0) ≤ x3 → ((((x1 >>> (x3 &&& 31)) &&& 1) = 0 → ∀ x3_6 : Int32, x3_6 = x3 + 1 → X7 x3_6 M) ∧
      (¬ ((x1 >>> (x3 &&& 31)) &&& 1) = 0 → vp_in x3 8 ∧ ∀ M7 : Mem, M7 = sf M (g + 3) x3.toNatClampNeg x2 → ∀ x3_9 : Int32, x3_9 = x3 + 1 → X7 x3_9 M7))))) → X7 x3 M) → X7 x3 M
def P_X2_addCord (K : Nat) (M : Mem) (g : Nat) (x1 : Int32) (Q1 : Int32 → Mem → Prop) : Prop :=
  ∀ x2_1 : Int32, x2_1 = M g 1 → B_X2_addCord_7 K g Q1 x1 x2_1 0 M
set_option maxRecDepth 100000 in
set_option maxHeartbeats 4000000 in
theorem w_X2_addCord_7 {K : Nat} {g : Nat} {M : Mem} {Q1 : Int32 → Mem → Prop} {x1 : Int32} {x2 : Int32} {x3 : Int32} (C : Cx T D p s m args c cX2_addCord 4 "OneOfTwo$House") (hr : meth.sig.returnType = (some .int)) (hlk : meth.locks = false) (Z : Zz EC T D ad (69 + K) A s.heap M H locs) (hg : isH g) {ls : Array Slot} (hl : lv_has ls 4 [(0, .ref (ad g)), (1, .int x1), (2, .int x2), (3, .int x3)]) (hB : B_X2_addCord_7 K g Q1 x1 x2 x3 M) : W p l e (RM 1) s m args below meth c H locs 0 0 (MQ below (QcW EC T D ad (69 + K) A Q1) args s 0 0 A) (F0 m 7 ls []) := by
  delta B_X2_addCord_7 at hB
  obtain ⟨X7, hX7, hY7⟩ : ∃ X7 : Int32 → Mem → Prop, (∀ (x3 : Int32) (M : Mem), X7 x3 M → ∀ (H : Heap) (locs : List Loc) (ls : Array Slot), Zz EC T D ad (69 + K) A s.heap M H locs → lv_has ls 4 [(0, .ref (ad g)), (1, .int x1), (2, .int x2), (3, .int x3)] → W p l e (RM 1) s m args below meth c H locs 0 0 (MQ below (QcW EC T D ad (69 + K) A Q1) args s 0 0 A) (F0 m 7 ls [])) ∧ (∀ (x3 : Int32) (M : Mem), (∀ (H : Heap) (locs : List Loc) (ls : Array Slot), Zz EC T D ad (69 + K) A s.heap M H locs → lv_has ls 4 [(0, .ref (ad g)), (1, .int x1), (2, .int x2), (3, .int x3)] → W p l e (RM 1) s m args below meth c H locs 0 0 (MQ below (QcW EC T D ad (69 + K) A Q1) args s 0 0 A) (F0 m 7 ls [])) → X7 x3 M) := ⟨fun (x3 : Int32) (M : Mem) => ∀ (H : Heap) (locs : List Loc) (ls : Array Slot), Zz EC T D ad (69 + K) A s.heap M H locs → lv_has ls 4 [(0, .ref (ad g)), (1, .int x1), (2, .int x2), (3, .int x3)] → W p l e (RM 1) s m args below meth c H locs 0 0 (MQ below (QcW EC T D ad (69 + K) A Q1) args s 0 0 A) (F0 m 7 ls []), fun _ _ h => h, fun _ _ h => h⟩
  refine hX7 _ _ (hB X7 (fun x3 M hB => hY7 _ _ (fun H locs ls Z hl => ?_))) _ _ _ Z hl
  have hx := C.x
  have hb := C.b
  refine lv_iload_n hx hb dX2_addCord_7 rfl (lv_at hl 3 rfl) ?_
  refine lv_aload_n hx hb dX2_addCord_8 rfl (lv_at hl 0 rfl) ?_
  refine gf_X2_0 C Z.1 hg tw_1_127 dX2_addCord_9 ?_
  refine lv_icmp_ge (tgt := 36) hx hb dX2_addCord_12 (by decide) (fun q2 => ?_) (fun q2 => ?_)
  · have hB := hB.1 q2
    refine lv_aload_n hx hb dX2_addCord_36 rfl (lv_at hl 0 rfl) ?_
    refine lv_dup hx hb dX2_addCord_37 rfl ?_
    refine gf_X2_1 C Z.1 hg tw_1_130 dX2_addCord_38 ?_
    refine lv_iconst (v := 1) hx hb dX2_addCord_41 (by decide) ?_
    refine lv_iadd hx hb dX2_addCord_42 ?_
    refine lv_topi (fun v3 ev3 => ?_)
    have hB := hB v3 ev3
    refine pf_X2_1 C Z hg tw_1_130 dX2_addCord_43 (fun M4 H locs eM4 Z => ?_)
    have hB := hB M4 eM4
    refine lv_iload_n hx hb dX2_addCord_46 rfl (lv_at hl 2 rfl) ?_
    exact e_iW C hr hlk Z dX2_addCord_47 hB
  · have hB := hB.2 q2
    refine lv_iload_n hx hb dX2_addCord_15 rfl (lv_at hl 1 rfl) ?_
    refine lv_iload_n hx hb dX2_addCord_16 rfl (lv_at hl 3 rfl) ?_
    refine lv_ishr hx hb dX2_addCord_17 ?_
    refine lv_iconst (v := 1) hx hb dX2_addCord_18 (by decide) ?_
    refine lv_iand hx hb dX2_addCord_19 ?_
    refine lv_if_eq (tgt := 30) hx hb dX2_addCord_20 (by decide) (fun q5 => ?_) (fun q5 => ?_)
    · have hB := hB.1 q5
      obtain ⟨x3_6, ex3_6⟩ : ∃ y : Int32, y = x3 + 1 := ⟨_, rfl⟩
      have hB := hB x3_6 ex3_6
      refine lv_iinc (v := x3_6) (lv' := [(3, .int x3_6), (0, .ref (ad g)), (1, .int x1), (2, .int x2)]) hx hb dX2_addCord_30 hl (k := 3) rfl (by rw [ex3_6]; rfl) (by decide) rfl (fun ls hl => ?_)
      refine lv_goto (tgt := 7) hx hb dX2_addCord_33 (by decide) ?_
      exact hX7 _ _ hB _ _ _ Z (lv_sub hl [1, 2, 3, 0] rfl)
    · have hB := hB.2 q5
      refine lv_aload_n hx hb dX2_addCord_23 rfl (lv_at hl 0 rfl) ?_
      refine gf_X2_5 C Z.1 hg tw_1_142 dX2_addCord_24 ?_
      refine lv_iload_n hx hb dX2_addCord_27 rfl (lv_at hl 3 rfl) ?_
      refine lv_iload_n hx hb dX2_addCord_28 rfl (lv_at hl 2 rfl) ?_
      obtain ⟨q8, hB⟩ := hB
      refine a_st C Z (aH_3 hg) q8 dX2_addCord_29 (fun M7 H locs eM7 Z => ?_)
      have hB := hB M7 eM7
      obtain ⟨x3_9, ex3_9⟩ : ∃ y : Int32, y = x3 + 1 := ⟨_, rfl⟩
      have hB := hB x3_9 ex3_9
      refine lv_iinc (v := x3_9) (lv' := [(3, .int x3_9), (0, .ref (ad g)), (1, .int x1), (2, .int x2)]) hx hb dX2_addCord_30 hl (k := 3) rfl (by rw [ex3_9]; rfl) (by decide) rfl (fun ls hl => ?_)
      refine lv_goto (tgt := 7) hx hb dX2_addCord_33 (by decide) ?_
      exact hX7 _ _ hB _ _ _ Z (lv_sub hl [1, 2, 3, 0] rfl)
set_option maxRecDepth 100000 in
set_option maxHeartbeats 4000000 in
theorem c_X2_addCord {l : Launch} {T : Nat → ClassId} {D : va_G} {ad : Nat → Nat} {K : Nat} {M : Mem} {g : Nat} {x1 : Int32} {sz : Nat} {Q1 : Int32 → Mem → Prop} (hg : isH g) (hB : P_X2_addCord K M g x1 Q1) : Met l yX2_addCord (Cond.code yX2_addCord cX2_addCord 4 (some .int) :: TB) (RM 1) (va_Pc [.ref (ad g), .int x1] (WrP EC T D ad (69 + K) M sz)) (QcW EC T D ad (69 + K) (AA ad (69 + K) sz) Q1) 0 0 (AA ad (69 + K) sz) := by
  refine st_W (by decide) (Nat.le_of_ble_eq_true rfl) (fun p e s m args below meth c ls C hr hlk hsz Z hl => ?_)
  have hl : lv_has ls 4 [(0, .ref (ad g)), (1, .int x1)] := hl
  generalize AA ad (69 + K) sz = A at Z ⊢
  have hx := C.x
  have hb := C.b
  delta P_X2_addCord at hB
  refine lv_aload_n hx hb dX2_addCord_0 rfl (lv_at hl 0 rfl) ?_
  refine gf_X2_1 C Z.1 hg tw_1_130 dX2_addCord_1 ?_
  refine lv_topi (fun x2_1 ex2_1 => ?_)
  have hB := hB x2_1 ex2_1
  refine lv_istore_n (lv' := [(2, .int x2_1), (0, .ref (ad g)), (1, .int x1)]) hx hb dX2_addCord_4 rfl hl (by decide) rfl (fun ls hl => ?_)
  refine lv_iconst (v := 0) hx hb dX2_addCord_5 (by decide) ?_
  refine lv_istore_n (lv' := [(3, .int 0), (2, .int x2_1), (0, .ref (ad g)), (1, .int x1)]) hx hb dX2_addCord_6 rfl hl (by decide) rfl (fun ls hl => ?_)
  exact w_X2_addCord_7 C hr hlk Z hg (lv_sub hl [2, 3, 1, 0] rfl) hB
set_option maxRecDepth 100000 in
set_option maxHeartbeats 4000000 in
theorem v_X2_addCord {K : Nat} {M : Mem} {g : Nat} {x1 : Int32} {Q1 : Int32 → Mem → Prop} (C : Cx T D p s m args c cc nL own) (hls : ls.size = nL) (Z : Zz EC T D ad (69 + K) A H0 M H locs) (hg : isH g) (hlink : Cond.methodLink own index yX2_addCord ∈ TB) (hR : 1 + 1 ≤ R.frames ∧ 8 + (4 + 11) + 48 * 1 ≤ R.locals) (hcs : cells ≤ R.cells ∧ slots ≤ R.slots) (hcat : (rest.map fun v => v.category).sum ≤ 8) (hdg : decode cc pc = .ok (.invokevirtual index, 3)) (hB : P_X2_addCord K M g x1 Q1)
    (kk : ∀ (r : Int32) (M1 : Mem) (H1 : Heap) (locs1 : List Loc), Q1 r M1 → Zz EC T D ad (69 + K) A H0 M1 H1 locs1 → W p l e R s m args below meth c H1 locs1 cells slots QQ (F0 m (pc + 3) ls (.int r :: rest))) : W p l e R s m args below meth c H locs cells slots QQ (F0 m pc ls (.int x1 :: .ref (ad g) :: rest)) :=
  k_VW (ci := 2) (n := 1) (c_X2_addCord hg hB) tw_2_82 tw_2_80 tw_2_81 tw_1_10 ⟨rfl, by decide, by decide, by decide +kernel⟩ rfl rfl C hls Z (oH hg) hlink hR hcs hcat rfl hdg kk
def P_X11_cord (K : Nat) (M : Mem) (x1 : Int32) (Q1 : Int32 → Mem → Prop) : Prop :=
  P_J6_bitCount_0f7a4 x1 (fun v1 => ((¬ (x1 >>> ((M 30 0) &&& 31)) = 0 → P_X11_error K M 1 (fun v3 M4 => Q1 v3 M4)) ∧
    ((x1 >>> ((M 30 0) &&& 31)) = 0 → ((v1 < 2 → P_X11_error K M 1 (fun v6 M7 => Q1 v6 M7)) ∧
      (¬ v1 < 2 → ((v1 ≤ 3 → (((M 30 1) < 4 → P_X2_hanging K M 30 (fun v10 => (((x1 &&& v10) = 0 → P_X2_addCord K M 30 x1 (fun v12 M13 => Q1 v12 M13)) ∧
            (¬ (x1 &&& v10) = 0 → P_X11_error K M 3 (fun v14 M15 => Q1 v14 M15))))) ∧
          (¬ (M 30 1) < 4 → P_X11_error K M 4 (fun v16 M17 => Q1 v16 M17)))) ∧
        (¬ v1 ≤ 3 → P_X11_error K M 1 (fun v18 M19 => Q1 v18 M19))))))))
set_option maxRecDepth 100000 in
set_option maxHeartbeats 4000000 in
theorem c_X11_cord {l : Launch} {T : Nat → ClassId} {D : va_G} {ad : Nat → Nat} {K : Nat} {M : Mem} {x1 : Int32} {sz : Nat} {Q1 : Int32 → Mem → Prop} (hB : P_X11_cord K M x1 Q1) : Met l yX11_cord (Cond.code yX11_cord cX11_cord 3 (some .int) :: TB) (RM 2) (va_Pc [.ref (ad 0), .int x1] (WrP EC T D ad (69 + K) M sz)) (QcW EC T D ad (69 + K) (AA ad (69 + K) sz) Q1) 0 0 (AA ad (69 + K) sz) := by
  refine st_W (by decide) (Nat.le_of_ble_eq_true rfl) (fun p e s m args below meth c ls C hr hlk hsz Z hl => ?_)
  have hl : lv_has ls 3 [(0, .ref (ad 0)), (1, .int x1)] := hl
  generalize AA ad (69 + K) sz = A at Z ⊢
  have hx := C.x
  have hb := C.b
  delta P_X11_cord at hB
  refine lv_iload_n hx hb dX11_cord_0 rfl (lv_at hl 1 rfl) ?_
  refine v_J6_bitCount_0f7a4 C.1 hl.1 tw_2_69 ⟨Nat.le_of_ble_eq_true rfl, Nat.le_of_ble_eq_true rfl⟩ ⟨Nat.le_refl _, Nat.le_refl _⟩ (Nat.le_of_ble_eq_true rfl) dX11_cord_1 hB (fun v1 hB => ?_)
  refine lv_istore_n (lv' := [(2, .int v1), (0, .ref (ad 0)), (1, .int x1)]) hx hb dX11_cord_4 rfl hl (by decide) rfl (fun ls hl => ?_)
  refine lv_iload_n hx hb dX11_cord_5 rfl (lv_at hl 2 rfl) ?_
  refine lv_aload_n hx hb dX11_cord_6 rfl (lv_at hl 1 rfl) ?_
  refine gf_X11_5 C Z.1 tw_2_17 dX11_cord_7 ?_
  refine gf_X2_0 C Z.1 isH_0 tw_1_128 dX11_cord_10 ?_
  refine lv_ishr hx hb dX11_cord_13 ?_
  refine lv_if_ne (tgt := 27) hx hb dX11_cord_14 (by decide) (fun q2 => ?_) (fun q2 => ?_)
  · have hB := hB.1 q2
    refine lv_aload_n hx hb dX11_cord_27 rfl (lv_at hl 1 rfl) ?_
    refine lv_iconst (v := 1) hx hb dX11_cord_28 (by decide) ?_
    refine v_X11_error C hl.1 Z tw_2_56 ⟨Nat.le_of_ble_eq_true rfl, Nat.le_of_ble_eq_true rfl⟩ ⟨Nat.le_refl _, Nat.le_refl _⟩ (Nat.le_of_ble_eq_true rfl) dX11_cord_29 hB (fun v3 M4 H locs hB Z => ?_)
    exact e_iW C hr hlk Z dX11_cord_32 hB
  · have hB := hB.2 q2
    refine lv_iload_n hx hb dX11_cord_17 rfl (lv_at hl 0 rfl) ?_
    refine lv_iconst (v := 2) hx hb dX11_cord_18 (by decide) ?_
    refine lv_icmp_lt (tgt := 27) hx hb dX11_cord_19 (by decide) (fun q5 => ?_) (fun q5 => ?_)
    · have hB := hB.1 q5
      refine lv_aload_n hx hb dX11_cord_27 rfl (lv_at hl 1 rfl) ?_
      refine lv_iconst (v := 1) hx hb dX11_cord_28 (by decide) ?_
      refine v_X11_error C hl.1 Z tw_2_56 ⟨Nat.le_of_ble_eq_true rfl, Nat.le_of_ble_eq_true rfl⟩ ⟨Nat.le_refl _, Nat.le_refl _⟩ (Nat.le_of_ble_eq_true rfl) dX11_cord_29 hB (fun v6 M7 H locs hB Z => ?_)
      exact e_iW C hr hlk Z dX11_cord_32 hB
    · have hB := hB.2 q5
      refine lv_iload_n hx hb dX11_cord_22 rfl (lv_at hl 0 rfl) ?_
      refine lv_iconst (v := 3) hx hb dX11_cord_23 (by decide) ?_
      refine lv_icmp_le (tgt := 33) hx hb dX11_cord_24 (by decide) (fun q8 => ?_) (fun q8 => ?_)
      · have hB := hB.1 q8
        refine lv_aload_n hx hb dX11_cord_33 rfl (lv_at hl 1 rfl) ?_
        refine gf_X11_5 C Z.1 tw_2_17 dX11_cord_34 ?_
        refine gf_X2_1 C Z.1 isH_0 tw_1_131 dX11_cord_37 ?_
        refine lv_iconst (v := 4) hx hb dX11_cord_40 (by decide) ?_
        refine lv_icmp_lt (tgt := 50) hx hb dX11_cord_41 (by decide) (fun q9 => ?_) (fun q9 => ?_)
        · have hB := hB.1 q9
          refine lv_iload_n hx hb dX11_cord_50 rfl (lv_at hl 2 rfl) ?_
          refine lv_aload_n hx hb dX11_cord_51 rfl (lv_at hl 1 rfl) ?_
          refine gf_X11_5 C Z.1 tw_2_17 dX11_cord_52 ?_
          refine v_X2_hanging C hl.1 Z.1 isH_0 tw_2_75 ⟨Nat.le_of_ble_eq_true rfl, Nat.le_of_ble_eq_true rfl⟩ ⟨Nat.le_refl _, Nat.le_refl _⟩ (Nat.le_of_ble_eq_true rfl) dX11_cord_55 hB (fun v10 hB => ?_)
          refine lv_iand hx hb dX11_cord_58 ?_
          refine lv_if_eq (tgt := 68) hx hb dX11_cord_59 (by decide) (fun q11 => ?_) (fun q11 => ?_)
          · have hB := hB.1 q11
            refine lv_aload_n hx hb dX11_cord_68 rfl (lv_at hl 1 rfl) ?_
            refine gf_X11_5 C Z.1 tw_2_17 dX11_cord_69 ?_
            refine lv_iload_n hx hb dX11_cord_72 rfl (lv_at hl 2 rfl) ?_
            refine v_X2_addCord C hl.1 Z isH_0 tw_2_79 ⟨Nat.le_of_ble_eq_true rfl, Nat.le_of_ble_eq_true rfl⟩ ⟨Nat.le_refl _, Nat.le_refl _⟩ (Nat.le_of_ble_eq_true rfl) dX11_cord_73 hB (fun v12 M13 H locs hB Z => ?_)
            exact e_iW C hr hlk Z dX11_cord_76 hB
          · have hB := hB.2 q11
            refine lv_aload_n hx hb dX11_cord_62 rfl (lv_at hl 1 rfl) ?_
            refine lv_iconst (v := 3) hx hb dX11_cord_63 (by decide) ?_
            refine v_X11_error C hl.1 Z tw_2_56 ⟨Nat.le_of_ble_eq_true rfl, Nat.le_of_ble_eq_true rfl⟩ ⟨Nat.le_refl _, Nat.le_refl _⟩ (Nat.le_of_ble_eq_true rfl) dX11_cord_64 hB (fun v14 M15 H locs hB Z => ?_)
            exact e_iW C hr hlk Z dX11_cord_67 hB
        · have hB := hB.2 q9
          refine lv_aload_n hx hb dX11_cord_44 rfl (lv_at hl 1 rfl) ?_
          refine lv_iconst (v := 4) hx hb dX11_cord_45 (by decide) ?_
          refine v_X11_error C hl.1 Z tw_2_56 ⟨Nat.le_of_ble_eq_true rfl, Nat.le_of_ble_eq_true rfl⟩ ⟨Nat.le_refl _, Nat.le_refl _⟩ (Nat.le_of_ble_eq_true rfl) dX11_cord_46 hB (fun v16 M17 H locs hB Z => ?_)
          exact e_iW C hr hlk Z dX11_cord_49 hB
      · have hB := hB.2 q8
        refine lv_aload_n hx hb dX11_cord_27 rfl (lv_at hl 1 rfl) ?_
        refine lv_iconst (v := 1) hx hb dX11_cord_28 (by decide) ?_
        refine v_X11_error C hl.1 Z tw_2_56 ⟨Nat.le_of_ble_eq_true rfl, Nat.le_of_ble_eq_true rfl⟩ ⟨Nat.le_refl _, Nat.le_refl _⟩ (Nat.le_of_ble_eq_true rfl) dX11_cord_29 hB (fun v18 M19 H locs hB Z => ?_)
        exact e_iW C hr hlk Z dX11_cord_32 hB
set_option maxRecDepth 100000 in
set_option maxHeartbeats 4000000 in
theorem v_X11_cord {K : Nat} {M : Mem} {x1 : Int32} {Q1 : Int32 → Mem → Prop} (C : Cx T D p s m args c cc nL own) (hls : ls.size = nL) (Z : Zz EC T D ad (69 + K) A H0 M H locs) (hlink : Cond.methodLink own index yX11_cord ∈ TB) (hR : 2 + 1 ≤ R.frames ∧ 8 + (3 + 11) + 48 * 2 ≤ R.locals) (hcs : cells ≤ R.cells ∧ slots ≤ R.slots) (hcat : (rest.map fun v => v.category).sum ≤ 8) (hdg : decode cc pc = .ok (.invokevirtual index, 3)) (hB : P_X11_cord K M x1 Q1)
    (kk : ∀ (r : Int32) (M1 : Mem) (H1 : Heap) (locs1 : List Loc), Q1 r M1 → Zz EC T D ad (69 + K) A H0 M1 H1 locs1 → W p l e R s m args below meth c H1 locs1 cells slots QQ (F0 m (pc + 3) ls (.int r :: rest))) : W p l e R s m args below meth c H locs cells slots QQ (F0 m pc ls (.int x1 :: .ref (ad 0) :: rest)) :=
  k_VW (ci := 11) (n := 1) (c_X11_cord hB) tw_2_68 tw_2_66 tw_2_67 tw_1_1 ⟨rfl, by decide, by decide, by decide +kernel⟩ rfl rfl C hls Z oO hlink hR hcs hcat rfl hdg kk
def B_X2_takeOffCord_12 (K : Nat) (g : Nat) (Q1 : Int32 → Mem → Prop) (x1 : Int32) (M : Mem) : Prop :=
  ∀ X12 : Int32 → Mem → Prop, (∀ (x1 : Int32) (M : Mem), ((((M g 0) ≤ x1 → Q1 (M g 1) M) ∧
    (¬ (M g 0) ≤ x1 → vp_in x1 8 ∧ ((¬ (M (g + 3) x1.toNatClampNeg) = (M g 1) → ∀ x1_6 : Int32, x1_6 = x1 + 1 → X12 x1_6 M) ∧
      ((M (g + 3) x1.toNatClampNeg) = (M g 1) → vp_in x1 8 ∧ ∀ M7 : Mem, M7 = sf M (g + 3) x1.toNatClampNeg (-1) → ∀ x1_9 : Int32, x1_9 = x1 + 1 → X12 x1_9 M7))))) → X12 x1 M) → X12 x1 M
def P_X2_takeOffCord (K : Nat) (M : Mem) (g : Nat) (Q1 : Int32 → Mem → Prop) : Prop :=
  ∀ v1 : Int32, v1 = (M g 1) - 1 → ∀ M2 : Mem, M2 = sf M g 1 v1 → B_X2_takeOffCord_12 K g Q1 0 M2
set_option maxRecDepth 100000 in
set_option maxHeartbeats 4000000 in
theorem w_X2_takeOffCord_12 {K : Nat} {g : Nat} {M : Mem} {Q1 : Int32 → Mem → Prop} {x1 : Int32} (C : Cx T D p s m args c cX2_takeOffCord 2 "OneOfTwo$House") (hr : meth.sig.returnType = (some .int)) (hlk : meth.locks = false) (Z : Zz EC T D ad (69 + K) A s.heap M H locs) (hg : isH g) {ls : Array Slot} (hl : lv_has ls 2 [(0, .ref (ad g)), (1, .int x1)]) (hB : B_X2_takeOffCord_12 K g Q1 x1 M) : W p l e (RM 1) s m args below meth c H locs 0 0 (MQ below (QcW EC T D ad (69 + K) A Q1) args s 0 0 A) (F0 m 12 ls []) := by
  delta B_X2_takeOffCord_12 at hB
  obtain ⟨X12, hX12, hY12⟩ : ∃ X12 : Int32 → Mem → Prop, (∀ (x1 : Int32) (M : Mem), X12 x1 M → ∀ (H : Heap) (locs : List Loc) (ls : Array Slot), Zz EC T D ad (69 + K) A s.heap M H locs → lv_has ls 2 [(0, .ref (ad g)), (1, .int x1)] → W p l e (RM 1) s m args below meth c H locs 0 0 (MQ below (QcW EC T D ad (69 + K) A Q1) args s 0 0 A) (F0 m 12 ls [])) ∧ (∀ (x1 : Int32) (M : Mem), (∀ (H : Heap) (locs : List Loc) (ls : Array Slot), Zz EC T D ad (69 + K) A s.heap M H locs → lv_has ls 2 [(0, .ref (ad g)), (1, .int x1)] → W p l e (RM 1) s m args below meth c H locs 0 0 (MQ below (QcW EC T D ad (69 + K) A Q1) args s 0 0 A) (F0 m 12 ls [])) → X12 x1 M) := ⟨fun (x1 : Int32) (M : Mem) => ∀ (H : Heap) (locs : List Loc) (ls : Array Slot), Zz EC T D ad (69 + K) A s.heap M H locs → lv_has ls 2 [(0, .ref (ad g)), (1, .int x1)] → W p l e (RM 1) s m args below meth c H locs 0 0 (MQ below (QcW EC T D ad (69 + K) A Q1) args s 0 0 A) (F0 m 12 ls []), fun _ _ h => h, fun _ _ h => h⟩
  refine hX12 _ _ (hB X12 (fun x1 M hB => hY12 _ _ (fun H locs ls Z hl => ?_))) _ _ _ Z hl
  have hx := C.x
  have hb := C.b
  refine lv_iload_n hx hb dX2_takeOffCord_12 rfl (lv_at hl 1 rfl) ?_
  refine lv_aload_n hx hb dX2_takeOffCord_13 rfl (lv_at hl 0 rfl) ?_
  refine gf_X2_0 C Z.1 hg tw_1_127 dX2_takeOffCord_14 ?_
  refine lv_icmp_ge (tgt := 46) hx hb dX2_takeOffCord_17 (by decide) (fun q3 => ?_) (fun q3 => ?_)
  · have hB := hB.1 q3
    refine lv_aload_n hx hb dX2_takeOffCord_46 rfl (lv_at hl 0 rfl) ?_
    refine gf_X2_1 C Z.1 hg tw_1_130 dX2_takeOffCord_47 ?_
    exact e_iW C hr hlk Z dX2_takeOffCord_50 hB
  · have hB := hB.2 q3
    refine lv_aload_n hx hb dX2_takeOffCord_20 rfl (lv_at hl 0 rfl) ?_
    refine gf_X2_5 C Z.1 hg tw_1_142 dX2_takeOffCord_21 ?_
    refine lv_iload_n hx hb dX2_takeOffCord_24 rfl (lv_at hl 1 rfl) ?_
    obtain ⟨q4, hB⟩ := hB
    refine a_ld C Z.1 (aH_3 hg) q4 dX2_takeOffCord_25 ?_
    refine lv_aload_n hx hb dX2_takeOffCord_26 rfl (lv_at hl 0 rfl) ?_
    refine gf_X2_1 C Z.1 hg tw_1_130 dX2_takeOffCord_27 ?_
    refine lv_icmp_ne (tgt := 40) hx hb dX2_takeOffCord_30 (by decide) (fun q5 => ?_) (fun q5 => ?_)
    · have hB := hB.1 q5
      obtain ⟨x1_6, ex1_6⟩ : ∃ y : Int32, y = x1 + 1 := ⟨_, rfl⟩
      have hB := hB x1_6 ex1_6
      refine lv_iinc (v := x1_6) (lv' := [(1, .int x1_6), (0, .ref (ad g))]) hx hb dX2_takeOffCord_40 hl (k := 1) rfl (by rw [ex1_6]; rfl) (by decide) rfl (fun ls hl => ?_)
      refine lv_goto (tgt := 12) hx hb dX2_takeOffCord_43 (by decide) ?_
      exact hX12 _ _ hB _ _ _ Z (lv_sub hl [1, 0] rfl)
    · have hB := hB.2 q5
      refine lv_aload_n hx hb dX2_takeOffCord_33 rfl (lv_at hl 0 rfl) ?_
      refine gf_X2_5 C Z.1 hg tw_1_142 dX2_takeOffCord_34 ?_
      refine lv_iload_n hx hb dX2_takeOffCord_37 rfl (lv_at hl 1 rfl) ?_
      refine lv_iconst (v := (-1)) hx hb dX2_takeOffCord_38 (by decide) ?_
      obtain ⟨q8, hB⟩ := hB
      refine a_st C Z (aH_3 hg) q8 dX2_takeOffCord_39 (fun M7 H locs eM7 Z => ?_)
      have hB := hB M7 eM7
      obtain ⟨x1_9, ex1_9⟩ : ∃ y : Int32, y = x1 + 1 := ⟨_, rfl⟩
      have hB := hB x1_9 ex1_9
      refine lv_iinc (v := x1_9) (lv' := [(1, .int x1_9), (0, .ref (ad g))]) hx hb dX2_takeOffCord_40 hl (k := 1) rfl (by rw [ex1_9]; rfl) (by decide) rfl (fun ls hl => ?_)
      refine lv_goto (tgt := 12) hx hb dX2_takeOffCord_43 (by decide) ?_
      exact hX12 _ _ hB _ _ _ Z (lv_sub hl [1, 0] rfl)
set_option maxRecDepth 100000 in
set_option maxHeartbeats 4000000 in
theorem c_X2_takeOffCord {l : Launch} {T : Nat → ClassId} {D : va_G} {ad : Nat → Nat} {K : Nat} {M : Mem} {g : Nat} {sz : Nat} {Q1 : Int32 → Mem → Prop} (hg : isH g) (hB : P_X2_takeOffCord K M g Q1) : Met l yX2_takeOffCord (Cond.code yX2_takeOffCord cX2_takeOffCord 2 (some .int) :: TB) (RM 1) (va_Pc [.ref (ad g)] (WrP EC T D ad (69 + K) M sz)) (QcW EC T D ad (69 + K) (AA ad (69 + K) sz) Q1) 0 0 (AA ad (69 + K) sz) := by
  refine st_W (by decide) (Nat.le_of_ble_eq_true rfl) (fun p e s m args below meth c ls C hr hlk hsz Z hl => ?_)
  have hl : lv_has ls 2 [(0, .ref (ad g))] := hl
  generalize AA ad (69 + K) sz = A at Z ⊢
  have hx := C.x
  have hb := C.b
  delta P_X2_takeOffCord at hB
  refine lv_aload_n hx hb dX2_takeOffCord_0 rfl (lv_at hl 0 rfl) ?_
  refine lv_dup hx hb dX2_takeOffCord_1 rfl ?_
  refine gf_X2_1 C Z.1 hg tw_1_130 dX2_takeOffCord_2 ?_
  refine lv_iconst (v := 1) hx hb dX2_takeOffCord_5 (by decide) ?_
  refine lv_isub hx hb dX2_takeOffCord_6 ?_
  refine lv_topi (fun v1 ev1 => ?_)
  have hB := hB v1 ev1
  refine pf_X2_1 C Z hg tw_1_130 dX2_takeOffCord_7 (fun M2 H locs eM2 Z => ?_)
  have hB := hB M2 eM2
  refine lv_iconst (v := 0) hx hb dX2_takeOffCord_10 (by decide) ?_
  refine lv_istore_n (lv' := [(1, .int 0), (0, .ref (ad g))]) hx hb dX2_takeOffCord_11 rfl hl (by decide) rfl (fun ls hl => ?_)
  exact w_X2_takeOffCord_12 C hr hlk Z hg (lv_sub hl [1, 0] rfl) hB
set_option maxRecDepth 100000 in
set_option maxHeartbeats 4000000 in
theorem v_X2_takeOffCord {K : Nat} {M : Mem} {g : Nat} {Q1 : Int32 → Mem → Prop} (C : Cx T D p s m args c cc nL own) (hls : ls.size = nL) (Z : Zz EC T D ad (69 + K) A H0 M H locs) (hg : isH g) (hlink : Cond.methodLink own index yX2_takeOffCord ∈ TB) (hR : 1 + 1 ≤ R.frames ∧ 8 + (2 + 11) + 48 * 1 ≤ R.locals) (hcs : cells ≤ R.cells ∧ slots ≤ R.slots) (hcat : (rest.map fun v => v.category).sum ≤ 8) (hdg : decode cc pc = .ok (.invokevirtual index, 3)) (hB : P_X2_takeOffCord K M g Q1)
    (kk : ∀ (r : Int32) (M1 : Mem) (H1 : Heap) (locs1 : List Loc), Q1 r M1 → Zz EC T D ad (69 + K) A H0 M1 H1 locs1 → W p l e R s m args below meth c H1 locs1 cells slots QQ (F0 m (pc + 3) ls (.int r :: rest))) : W p l e R s m args below meth c H locs cells slots QQ (F0 m pc ls (.ref (ad g) :: rest)) :=
  k_VW (ci := 2) (n := 0) (c_X2_takeOffCord hg hB) tw_2_90 tw_2_88 tw_2_89 tw_1_10 ⟨rfl, by decide, by decide, by decide +kernel⟩ rfl rfl C hls Z (oH hg) hlink hR hcs hcat rfl hdg kk
def P_X11_drop (K : Nat) (M : Mem) (Q1 : Int32 → Mem → Prop) : Prop :=
  ((0 < (M 30 1) → P_X2_takeOffCord K M 30 (fun v2 M3 => Q1 v2 M3)) ∧
    (¬ 0 < (M 30 1) → P_X11_error K M 2 (fun v4 M5 => Q1 v4 M5)))
set_option maxRecDepth 100000 in
set_option maxHeartbeats 4000000 in
theorem c_X11_drop {l : Launch} {T : Nat → ClassId} {D : va_G} {ad : Nat → Nat} {K : Nat} {M : Mem} {sz : Nat} {Q1 : Int32 → Mem → Prop} (hB : P_X11_drop K M Q1) : Met l yX11_drop (Cond.code yX11_drop cX11_drop 1 (some .int) :: TB) (RM 2) (va_Pc [.ref (ad 0)] (WrP EC T D ad (69 + K) M sz)) (QcW EC T D ad (69 + K) (AA ad (69 + K) sz) Q1) 0 0 (AA ad (69 + K) sz) := by
  refine st_W (by decide) (Nat.le_of_ble_eq_true rfl) (fun p e s m args below meth c ls C hr hlk hsz Z hl => ?_)
  have hl : lv_has ls 1 [(0, .ref (ad 0))] := hl
  generalize AA ad (69 + K) sz = A at Z ⊢
  have hx := C.x
  have hb := C.b
  delta P_X11_drop at hB
  refine lv_aload_n hx hb dX11_drop_0 rfl (lv_at hl 0 rfl) ?_
  refine gf_X11_5 C Z.1 tw_2_17 dX11_drop_1 ?_
  refine gf_X2_1 C Z.1 isH_0 tw_1_131 dX11_drop_4 ?_
  refine lv_if_gt (tgt := 16) hx hb dX11_drop_7 (by decide) (fun q1 => ?_) (fun q1 => ?_)
  · have hB := hB.1 q1
    refine lv_aload_n hx hb dX11_drop_16 rfl (lv_at hl 0 rfl) ?_
    refine gf_X11_5 C Z.1 tw_2_17 dX11_drop_17 ?_
    refine v_X2_takeOffCord C hl.1 Z isH_0 tw_2_87 ⟨Nat.le_of_ble_eq_true rfl, Nat.le_of_ble_eq_true rfl⟩ ⟨Nat.le_refl _, Nat.le_refl _⟩ (Nat.le_of_ble_eq_true rfl) dX11_drop_20 hB (fun v2 M3 H locs hB Z => ?_)
    exact e_iW C hr hlk Z dX11_drop_23 hB
  · have hB := hB.2 q1
    refine lv_aload_n hx hb dX11_drop_10 rfl (lv_at hl 0 rfl) ?_
    refine lv_iconst (v := 2) hx hb dX11_drop_11 (by decide) ?_
    refine v_X11_error C hl.1 Z tw_2_56 ⟨Nat.le_of_ble_eq_true rfl, Nat.le_of_ble_eq_true rfl⟩ ⟨Nat.le_refl _, Nat.le_refl _⟩ (Nat.le_of_ble_eq_true rfl) dX11_drop_12 hB (fun v4 M5 H locs hB Z => ?_)
    exact e_iW C hr hlk Z dX11_drop_15 hB
set_option maxRecDepth 100000 in
set_option maxHeartbeats 4000000 in
theorem v_X11_drop {K : Nat} {M : Mem} {Q1 : Int32 → Mem → Prop} (C : Cx T D p s m args c cc nL own) (hls : ls.size = nL) (Z : Zz EC T D ad (69 + K) A H0 M H locs) (hlink : Cond.methodLink own index yX11_drop ∈ TB) (hR : 2 + 1 ≤ R.frames ∧ 8 + (1 + 11) + 48 * 2 ≤ R.locals) (hcs : cells ≤ R.cells ∧ slots ≤ R.slots) (hcat : (rest.map fun v => v.category).sum ≤ 8) (hdg : decode cc pc = .ok (.invokevirtual index, 3)) (hB : P_X11_drop K M Q1)
    (kk : ∀ (r : Int32) (M1 : Mem) (H1 : Heap) (locs1 : List Loc), Q1 r M1 → Zz EC T D ad (69 + K) A H0 M1 H1 locs1 → W p l e R s m args below meth c H1 locs1 cells slots QQ (F0 m (pc + 3) ls (.int r :: rest))) : W p l e R s m args below meth c H locs cells slots QQ (F0 m pc ls (.ref (ad 0) :: rest)) :=
  k_VW (ci := 11) (n := 0) (c_X11_drop hB) tw_2_86 tw_2_84 tw_2_85 tw_1_1 ⟨rfl, by decide, by decide, by decide +kernel⟩ rfl rfl C hls Z oO hlink hR hcs hcat rfl hdg kk
def P_X11_isWindow (K : Nat) (M : Mem) (x1 : Int32) (Q1 : Int32 → Prop) : Prop :=
  ((x1 < 0 → Q1 0) ∧
    (¬ x1 < 0 → (((M 30 0) ≤ x1 → Q1 0) ∧
      (¬ (M 30 0) ≤ x1 → Q1 1))))
set_option maxRecDepth 100000 in
set_option maxHeartbeats 4000000 in
theorem c_X11_isWindow {l : Launch} {T : Nat → ClassId} {D : va_G} {ad : Nat → Nat} {K : Nat} {M : Mem} {x1 : Int32} {Q1 : Int32 → Prop} (hB : P_X11_isWindow K M x1 Q1) : Met l yX11_isWindow (Cond.code yX11_isWindow cX11_isWindow 2 (some .boolean) :: TB) (RM 1) (va_Pc [.ref (ad 0), .int x1] (RdP EC T D ad (69 + K) M)) (QcR Q1) 0 0 (fun _ => False) := by
  refine st_R (by decide) (Nat.le_of_ble_eq_true rfl) (fun p e s m args below meth c ls C hr hlk hP hl => ?_)
  have hl : lv_has ls 2 [(0, .ref (ad 0)), (1, .int x1)] := hl
  have hx := C.x
  have hb := C.b
  delta P_X11_isWindow at hB
  refine lv_iload_n hx hb dX11_isWindow_0 rfl (lv_at hl 1 rfl) ?_
  refine lv_if_lt (tgt := 19) hx hb dX11_isWindow_1 (by decide) (fun q1 => ?_) (fun q1 => ?_)
  · have hB := hB.1 q1
    refine lv_iconst (v := 0) hx hb dX11_isWindow_19 (by decide) ?_
    exact e_zR C.1 hr hlk dX11_isWindow_20 (Or.inl rfl) hB
  · have hB := hB.2 q1
    refine lv_iload_n hx hb dX11_isWindow_4 rfl (lv_at hl 1 rfl) ?_
    refine lv_aload_n hx hb dX11_isWindow_5 rfl (lv_at hl 0 rfl) ?_
    refine gf_X11_5 C hP tw_2_17 dX11_isWindow_6 ?_
    refine gf_X2_0 C hP isH_0 tw_1_128 dX11_isWindow_9 ?_
    refine lv_icmp_ge (tgt := 19) hx hb dX11_isWindow_12 (by decide) (fun q2 => ?_) (fun q2 => ?_)
    · have hB := hB.1 q2
      refine lv_iconst (v := 0) hx hb dX11_isWindow_19 (by decide) ?_
      exact e_zR C.1 hr hlk dX11_isWindow_20 (Or.inl rfl) hB
    · have hB := hB.2 q2
      refine lv_iconst (v := 1) hx hb dX11_isWindow_15 (by decide) ?_
      refine lv_goto (tgt := 20) hx hb dX11_isWindow_16 (by decide) ?_
      exact e_zR C.1 hr hlk dX11_isWindow_20 (Or.inr rfl) hB
set_option maxRecDepth 100000 in
set_option maxHeartbeats 4000000 in
theorem v_X11_isWindow {K : Nat} {M : Mem} {x1 : Int32} {Q1 : Int32 → Prop} (C : Cx T D p s m args c cc nL own) (hls : ls.size = nL) (hP : Pw EC T D ad (69 + K) M H) (hlink : Cond.methodLink own index yX11_isWindow ∈ TB) (hR : 1 + 1 ≤ R.frames ∧ 8 + (2 + 11) + 48 * 1 ≤ R.locals) (hcs : cells ≤ R.cells ∧ slots ≤ R.slots) (hcat : (rest.map fun v => v.category).sum ≤ 8) (hdg : decode cc pc = .ok (.invokevirtual index, 3)) (hB : P_X11_isWindow K M x1 Q1)
    (kk : ∀ r : Int32, Q1 r → W p l e R s m args below meth c H locs cells slots QQ (F0 m (pc + 3) ls (.int r :: rest))) : W p l e R s m args below meth c H locs cells slots QQ (F0 m pc ls (.int x1 :: .ref (ad 0) :: rest)) :=
  k_V (ci := 11) (n := 1) (c_X11_isWindow hB) tw_2_98 tw_2_97 tw_s_1 tw_1_1 ⟨rfl, by decide, by decide, by decide +kernel⟩ rfl rfl C hls hP oO hlink hR hcs hcat rfl hdg kk
def P_X11_ofWindow (K : Nat) (M : Mem) (x1 : Int32) (x2 : Int32) (Q1 : Int32 → Mem → Prop) : Prop :=
  P_X11_isWindow K M x1 (fun v1 => ((¬ v1 = 0 → ((x2 = 0 → vp_in x1 8 ∧ Q1 (M 31 x1.toNatClampNeg) M) ∧
      (x2 = 1 → vp_in x1 8 ∧ Q1 (M 32 x1.toNatClampNeg) M) ∧
      (x2 = 2 → vp_in x1 8 ∧ Q1 (M 33 x1.toNatClampNeg) M) ∧
      (x2 = 3 → vp_in x1 8 ∧ Q1 (M 34 x1.toNatClampNeg) M) ∧
      (¬ x2 = 0 → ¬ x2 = 1 → ¬ x2 = 2 → ¬ x2 = 3 → P_X11_error K M 1 (fun v8 M9 => Q1 v8 M9)))) ∧
    (v1 = 0 → P_X11_error K M 1 (fun v10 M11 => Q1 v10 M11))))
set_option maxRecDepth 100000 in
set_option maxHeartbeats 4000000 in
theorem c_X11_ofWindow {l : Launch} {T : Nat → ClassId} {D : va_G} {ad : Nat → Nat} {K : Nat} {M : Mem} {x1 : Int32} {x2 : Int32} {sz : Nat} {Q1 : Int32 → Mem → Prop} (hB : P_X11_ofWindow K M x1 x2 Q1) : Met l yX11_ofWindow (Cond.code yX11_ofWindow cX11_ofWindow 3 (some .int) :: TB) (RM 2) (va_Pc [.ref (ad 0), .int x1, .int x2] (WrP EC T D ad (69 + K) M sz)) (QcW EC T D ad (69 + K) (AA ad (69 + K) sz) Q1) 0 0 (AA ad (69 + K) sz) := by
  refine st_W (by decide) (Nat.le_of_ble_eq_true rfl) (fun p e s m args below meth c ls C hr hlk hsz Z hl => ?_)
  have hl : lv_has ls 3 [(0, .ref (ad 0)), (1, .int x1), (2, .int x2)] := hl
  generalize AA ad (69 + K) sz = A at Z ⊢
  have hx := C.x
  have hb := C.b
  delta P_X11_ofWindow at hB
  refine lv_aload_n hx hb dX11_ofWindow_0 rfl (lv_at hl 0 rfl) ?_
  refine lv_iload_n hx hb dX11_ofWindow_1 rfl (lv_at hl 1 rfl) ?_
  refine v_X11_isWindow C hl.1 Z.1 tw_2_95 ⟨Nat.le_of_ble_eq_true rfl, Nat.le_of_ble_eq_true rfl⟩ ⟨Nat.le_refl _, Nat.le_refl _⟩ (Nat.le_of_ble_eq_true rfl) dX11_ofWindow_2 hB (fun v1 hB => ?_)
  refine lv_if_ne (tgt := 14) hx hb dX11_ofWindow_5 (by decide) (fun q2 => ?_) (fun q2 => ?_)
  · have hB := hB.1 q2
    refine lv_iload_n hx hb dX11_ofWindow_14 rfl (lv_at hl 2 rfl) ?_
    by_cases q3_0 : x2 = 0
    · have hB := hB.1 q3_0
      refine lv_tableIn (off := 29) (tgt := 44) hx hb dX11_ofWindow_15 (by rw [q3_0]; decide) (by rw [q3_0]; decide) (by rw [q3_0]; rfl) (by decide) ?_
      refine lv_aload_n hx hb dX11_ofWindow_44 rfl (lv_at hl 0 rfl) ?_
      refine gf_X11_5 C Z.1 tw_2_17 dX11_ofWindow_45 ?_
      refine gf_X2_3 C Z.1 isH_0 tw_1_138 dX11_ofWindow_48 ?_
      refine lv_iload_n hx hb dX11_ofWindow_51 rfl (lv_at hl 1 rfl) ?_
      obtain ⟨q4, hB⟩ := hB
      refine a_ld C Z.1 (aH_1 isH_0) q4 dX11_ofWindow_52 ?_
      exact e_iW C hr hlk Z dX11_ofWindow_53 hB
    by_cases q3_1 : x2 = 1
    · have hB := hB.2.1 q3_1
      refine lv_tableIn (off := 39) (tgt := 54) hx hb dX11_ofWindow_15 (by rw [q3_1]; decide) (by rw [q3_1]; decide) (by rw [q3_1]; rfl) (by decide) ?_
      refine lv_aload_n hx hb dX11_ofWindow_54 rfl (lv_at hl 0 rfl) ?_
      refine gf_X11_5 C Z.1 tw_2_17 dX11_ofWindow_55 ?_
      refine gf_X2_4 C Z.1 isH_0 tw_1_141 dX11_ofWindow_58 ?_
      refine lv_iload_n hx hb dX11_ofWindow_61 rfl (lv_at hl 1 rfl) ?_
      obtain ⟨q5, hB⟩ := hB
      refine a_ld C Z.1 (aH_2 isH_0) q5 dX11_ofWindow_62 ?_
      exact e_iW C hr hlk Z dX11_ofWindow_63 hB
    by_cases q3_2 : x2 = 2
    · have hB := hB.2.2.1 q3_2
      refine lv_tableIn (off := 49) (tgt := 64) hx hb dX11_ofWindow_15 (by rw [q3_2]; decide) (by rw [q3_2]; decide) (by rw [q3_2]; rfl) (by decide) ?_
      refine lv_aload_n hx hb dX11_ofWindow_64 rfl (lv_at hl 0 rfl) ?_
      refine gf_X11_5 C Z.1 tw_2_17 dX11_ofWindow_65 ?_
      refine gf_X2_5 C Z.1 isH_0 tw_1_143 dX11_ofWindow_68 ?_
      refine lv_iload_n hx hb dX11_ofWindow_71 rfl (lv_at hl 1 rfl) ?_
      obtain ⟨q6, hB⟩ := hB
      refine a_ld C Z.1 (aH_3 isH_0) q6 dX11_ofWindow_72 ?_
      exact e_iW C hr hlk Z dX11_ofWindow_73 hB
    by_cases q3_3 : x2 = 3
    · have hB := hB.2.2.2.1 q3_3
      refine lv_tableIn (off := 59) (tgt := 74) hx hb dX11_ofWindow_15 (by rw [q3_3]; decide) (by rw [q3_3]; decide) (by rw [q3_3]; rfl) (by decide) ?_
      refine lv_aload_n hx hb dX11_ofWindow_74 rfl (lv_at hl 0 rfl) ?_
      refine gf_X11_5 C Z.1 tw_2_17 dX11_ofWindow_75 ?_
      refine gf_X2_6 C Z.1 isH_0 tw_1_146 dX11_ofWindow_78 ?_
      refine lv_iload_n hx hb dX11_ofWindow_81 rfl (lv_at hl 1 rfl) ?_
      obtain ⟨q7, hB⟩ := hB
      refine a_ld C Z.1 (aH_4 isH_0) q7 dX11_ofWindow_82 ?_
      exact e_iW C hr hlk Z dX11_ofWindow_83 hB
    have hB := hB.2.2.2.2 q3_0 q3_1 q3_2 q3_3
    refine lv_tableOut (tgt := 84) hx hb dX11_ofWindow_15 (sw_out 0 3 4 (by decide) (lt_s (lt_s (lt_s (lt_s lt_0 q3_0) q3_1) q3_2) q3_3)) (by decide) ?_
    refine lv_aload_n hx hb dX11_ofWindow_84 rfl (lv_at hl 0 rfl) ?_
    refine lv_iconst (v := 1) hx hb dX11_ofWindow_85 (by decide) ?_
    refine v_X11_error C hl.1 Z tw_2_56 ⟨Nat.le_of_ble_eq_true rfl, Nat.le_of_ble_eq_true rfl⟩ ⟨Nat.le_refl _, Nat.le_refl _⟩ (Nat.le_of_ble_eq_true rfl) dX11_ofWindow_86 hB (fun v8 M9 H locs hB Z => ?_)
    exact e_iW C hr hlk Z dX11_ofWindow_89 hB
  · have hB := hB.2 q2
    refine lv_aload_n hx hb dX11_ofWindow_8 rfl (lv_at hl 0 rfl) ?_
    refine lv_iconst (v := 1) hx hb dX11_ofWindow_9 (by decide) ?_
    refine v_X11_error C hl.1 Z tw_2_56 ⟨Nat.le_of_ble_eq_true rfl, Nat.le_of_ble_eq_true rfl⟩ ⟨Nat.le_refl _, Nat.le_refl _⟩ (Nat.le_of_ble_eq_true rfl) dX11_ofWindow_10 hB (fun v10 M11 H locs hB Z => ?_)
    exact e_iW C hr hlk Z dX11_ofWindow_13 hB
set_option maxRecDepth 100000 in
set_option maxHeartbeats 4000000 in
theorem v_X11_ofWindow {K : Nat} {M : Mem} {x1 : Int32} {x2 : Int32} {Q1 : Int32 → Mem → Prop} (C : Cx T D p s m args c cc nL own) (hls : ls.size = nL) (Z : Zz EC T D ad (69 + K) A H0 M H locs) (hlink : Cond.methodLink own index yX11_ofWindow ∈ TB) (hR : 2 + 1 ≤ R.frames ∧ 8 + (3 + 11) + 48 * 2 ≤ R.locals) (hcs : cells ≤ R.cells ∧ slots ≤ R.slots) (hcat : (rest.map fun v => v.category).sum ≤ 8) (hdg : decode cc pc = .ok (.invokevirtual index, 3)) (hB : P_X11_ofWindow K M x1 x2 Q1)
    (kk : ∀ (r : Int32) (M1 : Mem) (H1 : Heap) (locs1 : List Loc), Q1 r M1 → Zz EC T D ad (69 + K) A H0 M1 H1 locs1 → W p l e R s m args below meth c H1 locs1 cells slots QQ (F0 m (pc + 3) ls (.int r :: rest))) : W p l e R s m args below meth c H locs cells slots QQ (F0 m pc ls (.int x2 :: .int x1 :: .ref (ad 0) :: rest)) :=
  k_VW (ci := 11) (n := 2) (c_X11_ofWindow hB) tw_2_94 tw_2_92 tw_2_93 tw_1_1 ⟨rfl, by decide, by decide, by decide +kernel⟩ rfl rfl C hls Z oO hlink hR hcs hcat rfl hdg kk
def B_X2_setOf_4 (K : Nat) (g : Nat) (M : Mem) (Q1 : Int32 → Prop) (x1 : Int32) (x2 : Int32) (x3 : Int32) : Prop :=
  ∀ X4 : Int32 → Int32 → Prop, (∀ (x2 : Int32) (x3 : Int32), ((((M g 0) ≤ x3 → Q1 x2) ∧
    (¬ (M g 0) ≤ x3 → vp_in x3 8 ∧ ((¬ (M (g + 3) x3.toNatClampNeg) = x1 → ∀ x3_4 : Int32, x3_4 = x3 + 1 → X4 x2 x3_4) ∧
      ((M (g + 3) x3.toNatClampNeg) = x1 → ∀ x2_5 : Int32, x2_5 = x2 ||| (1 <<< (x3 &&& 31)) → ∀ x3_6 : Int32, x3_6 = x3 + 1 → X4 x2_5 x3_6))))) → X4 x2 x3) → X4 x2 x3
def P_X2_setOf (K : Nat) (M : Mem) (g : Nat) (x1 : Int32) (Q1 : Int32 → Prop) : Prop :=
  B_X2_setOf_4 K g M Q1 x1 0 0
set_option maxRecDepth 100000 in
set_option maxHeartbeats 4000000 in
theorem w_X2_setOf_4 {K : Nat} {g : Nat} {M : Mem} {Q1 : Int32 → Prop} {x1 : Int32} {x2 : Int32} {x3 : Int32} (C : Cx T D p s m args c cX2_setOf 4 "OneOfTwo$House") (hr : meth.sig.returnType = (some .int)) (hlk : meth.locks = false) (hP : Pw EC T D ad (69 + K) M s.heap) (hg : isH g) {ls : Array Slot} (hl : lv_has ls 4 [(0, .ref (ad g)), (1, .int x1), (2, .int x2), (3, .int x3)]) (hB : B_X2_setOf_4 K g M Q1 x1 x2 x3) : W p l e (RM 1) s m args below meth c s.heap [] 0 0 (MQ below (QcR Q1) args s 0 0 (fun _ => False)) (F0 m 4 ls []) := by
  delta B_X2_setOf_4 at hB
  obtain ⟨X4, hX4, hY4⟩ : ∃ X4 : Int32 → Int32 → Prop, (∀ (x2 : Int32) (x3 : Int32), X4 x2 x3 → ∀ (ls : Array Slot), lv_has ls 4 [(0, .ref (ad g)), (1, .int x1), (2, .int x2), (3, .int x3)] → W p l e (RM 1) s m args below meth c s.heap [] 0 0 (MQ below (QcR Q1) args s 0 0 (fun _ => False)) (F0 m 4 ls [])) ∧ (∀ (x2 : Int32) (x3 : Int32), (∀ (ls : Array Slot), lv_has ls 4 [(0, .ref (ad g)), (1, .int x1), (2, .int x2), (3, .int x3)] → W p l e (RM 1) s m args below meth c s.heap [] 0 0 (MQ below (QcR Q1) args s 0 0 (fun _ => False)) (F0 m 4 ls [])) → X4 x2 x3) := ⟨fun (x2 : Int32) (x3 : Int32) => ∀ (ls : Array Slot), lv_has ls 4 [(0, .ref (ad g)), (1, .int x1), (2, .int x2), (3, .int x3)] → W p l e (RM 1) s m args below meth c s.heap [] 0 0 (MQ below (QcR Q1) args s 0 0 (fun _ => False)) (F0 m 4 ls []), fun _ _ h => h, fun _ _ h => h⟩
  refine hX4 _ _ (hB X4 (fun x2 x3 hB => hY4 _ _ (fun ls hl => ?_))) _ hl
  have hx := C.x
  have hb := C.b
  refine lv_iload_n hx hb dX2_setOf_4 rfl (lv_at hl 3 rfl) ?_
  refine lv_aload_n hx hb dX2_setOf_5 rfl (lv_at hl 0 rfl) ?_
  refine gf_X2_0 C hP hg tw_1_127 dX2_setOf_6 ?_
  refine lv_icmp_ge (tgt := 34) hx hb dX2_setOf_9 (by decide) (fun q1 => ?_) (fun q1 => ?_)
  · have hB := hB.1 q1
    refine lv_iload_n hx hb dX2_setOf_34 rfl (lv_at hl 2 rfl) ?_
    exact e_iR C.1 hr hlk dX2_setOf_35 hB
  · have hB := hB.2 q1
    refine lv_aload_n hx hb dX2_setOf_12 rfl (lv_at hl 0 rfl) ?_
    refine gf_X2_5 C hP hg tw_1_142 dX2_setOf_13 ?_
    refine lv_iload_n hx hb dX2_setOf_16 rfl (lv_at hl 3 rfl) ?_
    obtain ⟨q2, hB⟩ := hB
    refine a_ld C hP (aH_3 hg) q2 dX2_setOf_17 ?_
    refine lv_iload_n hx hb dX2_setOf_18 rfl (lv_at hl 1 rfl) ?_
    refine lv_icmp_ne (tgt := 28) hx hb dX2_setOf_19 (by decide) (fun q3 => ?_) (fun q3 => ?_)
    · have hB := hB.1 q3
      obtain ⟨x3_4, ex3_4⟩ : ∃ y : Int32, y = x3 + 1 := ⟨_, rfl⟩
      have hB := hB x3_4 ex3_4
      refine lv_iinc (v := x3_4) (lv' := [(3, .int x3_4), (0, .ref (ad g)), (1, .int x1), (2, .int x2)]) hx hb dX2_setOf_28 hl (k := 3) rfl (by rw [ex3_4]; rfl) (by decide) rfl (fun ls hl => ?_)
      refine lv_goto (tgt := 4) hx hb dX2_setOf_31 (by decide) ?_
      exact hX4 _ _ hB _ (lv_sub hl [1, 2, 3, 0] rfl)
    · have hB := hB.2 q3
      refine lv_iload_n hx hb dX2_setOf_22 rfl (lv_at hl 2 rfl) ?_
      refine lv_iconst (v := 1) hx hb dX2_setOf_23 (by decide) ?_
      refine lv_iload_n hx hb dX2_setOf_24 rfl (lv_at hl 3 rfl) ?_
      refine lv_ishl hx hb dX2_setOf_25 ?_
      refine lv_ior hx hb dX2_setOf_26 ?_
      refine lv_topi (fun x2_5 ex2_5 => ?_)
      have hB := hB x2_5 ex2_5
      refine lv_istore_n (lv' := [(2, .int x2_5), (0, .ref (ad g)), (1, .int x1), (3, .int x3)]) hx hb dX2_setOf_27 rfl hl (by decide) rfl (fun ls hl => ?_)
      obtain ⟨x3_6, ex3_6⟩ : ∃ y : Int32, y = x3 + 1 := ⟨_, rfl⟩
      have hB := hB x3_6 ex3_6
      refine lv_iinc (v := x3_6) (lv' := [(3, .int x3_6), (2, .int x2_5), (0, .ref (ad g)), (1, .int x1)]) hx hb dX2_setOf_28 hl (k := 3) rfl (by rw [ex3_6]; rfl) (by decide) rfl (fun ls hl => ?_)
      refine lv_goto (tgt := 4) hx hb dX2_setOf_31 (by decide) ?_
      exact hX4 _ _ hB _ (lv_sub hl [2, 3, 1, 0] rfl)
set_option maxRecDepth 100000 in
set_option maxHeartbeats 4000000 in
theorem c_X2_setOf {l : Launch} {T : Nat → ClassId} {D : va_G} {ad : Nat → Nat} {K : Nat} {M : Mem} {g : Nat} {x1 : Int32} {Q1 : Int32 → Prop} (hg : isH g) (hB : P_X2_setOf K M g x1 Q1) : Met l yX2_setOf (Cond.code yX2_setOf cX2_setOf 4 (some .int) :: TB) (RM 1) (va_Pc [.ref (ad g), .int x1] (RdP EC T D ad (69 + K) M)) (QcR Q1) 0 0 (fun _ => False) := by
  refine st_R (by decide) (Nat.le_of_ble_eq_true rfl) (fun p e s m args below meth c ls C hr hlk hP hl => ?_)
  have hl : lv_has ls 4 [(0, .ref (ad g)), (1, .int x1)] := hl
  have hx := C.x
  have hb := C.b
  delta P_X2_setOf at hB
  refine lv_iconst (v := 0) hx hb dX2_setOf_0 (by decide) ?_
  refine lv_istore_n (lv' := [(2, .int 0), (0, .ref (ad g)), (1, .int x1)]) hx hb dX2_setOf_1 rfl hl (by decide) rfl (fun ls hl => ?_)
  refine lv_iconst (v := 0) hx hb dX2_setOf_2 (by decide) ?_
  refine lv_istore_n (lv' := [(3, .int 0), (2, .int 0), (0, .ref (ad g)), (1, .int x1)]) hx hb dX2_setOf_3 rfl hl (by decide) rfl (fun ls hl => ?_)
  exact w_X2_setOf_4 C hr hlk hP hg (lv_sub hl [2, 3, 1, 0] rfl) hB
set_option maxRecDepth 100000 in
set_option maxHeartbeats 4000000 in
theorem v_X2_setOf {K : Nat} {M : Mem} {g : Nat} {x1 : Int32} {Q1 : Int32 → Prop} (C : Cx T D p s m args c cc nL own) (hls : ls.size = nL) (hP : Pw EC T D ad (69 + K) M H) (hg : isH g) (hlink : Cond.methodLink own index yX2_setOf ∈ TB) (hR : 1 + 1 ≤ R.frames ∧ 8 + (4 + 11) + 48 * 1 ≤ R.locals) (hcs : cells ≤ R.cells ∧ slots ≤ R.slots) (hcat : (rest.map fun v => v.category).sum ≤ 8) (hdg : decode cc pc = .ok (.invokevirtual index, 3)) (hB : P_X2_setOf K M g x1 Q1)
    (kk : ∀ r : Int32, Q1 r → W p l e R s m args below meth c H locs cells slots QQ (F0 m (pc + 3) ls (.int r :: rest))) : W p l e R s m args below meth c H locs cells slots QQ (F0 m pc ls (.int x1 :: .ref (ad g) :: rest)) :=
  k_V (ci := 2) (n := 1) (c_X2_setOf hg hB) tw_2_106 tw_2_104 tw_2_105 tw_1_10 ⟨rfl, by decide, by decide, by decide +kernel⟩ rfl rfl C hls hP (oH hg) hlink hR hcs hcat rfl hdg kk
def B_X2_openOf_4 (K : Nat) (g : Nat) (M : Mem) (Q1 : Int32 → Prop) (x1 : Int32) (x2 : Int32) (x3 : Int32) : Prop :=
  ∀ X4 : Int32 → Int32 → Prop, (∀ (x2 : Int32) (x3 : Int32), ((((M g 0) ≤ x3 → Q1 x2) ∧
    (¬ (M g 0) ≤ x3 → ((((x1 >>> (x3 &&& 31)) &&& 1) = 0 → ∀ x3_3 : Int32, x3_3 = x3 + 1 → X4 x2 x3_3) ∧
      (¬ ((x1 >>> (x3 &&& 31)) &&& 1) = 0 → vp_in x3 8 ∧ ∀ x2_5 : Int32, x2_5 = x2 + (M (g + 2) x3.toNatClampNeg) → ∀ x3_6 : Int32, x3_6 = x3 + 1 → X4 x2_5 x3_6))))) → X4 x2 x3) → X4 x2 x3
def P_X2_openOf (K : Nat) (M : Mem) (g : Nat) (x1 : Int32) (Q1 : Int32 → Prop) : Prop :=
  B_X2_openOf_4 K g M Q1 x1 0 0
set_option maxRecDepth 100000 in
set_option maxHeartbeats 4000000 in
theorem w_X2_openOf_4 {K : Nat} {g : Nat} {M : Mem} {Q1 : Int32 → Prop} {x1 : Int32} {x2 : Int32} {x3 : Int32} (C : Cx T D p s m args c cX2_openOf 4 "OneOfTwo$House") (hr : meth.sig.returnType = (some .int)) (hlk : meth.locks = false) (hP : Pw EC T D ad (69 + K) M s.heap) (hg : isH g) {ls : Array Slot} (hl : lv_has ls 4 [(0, .ref (ad g)), (1, .int x1), (2, .int x2), (3, .int x3)]) (hB : B_X2_openOf_4 K g M Q1 x1 x2 x3) : W p l e (RM 1) s m args below meth c s.heap [] 0 0 (MQ below (QcR Q1) args s 0 0 (fun _ => False)) (F0 m 4 ls []) := by
  delta B_X2_openOf_4 at hB
  obtain ⟨X4, hX4, hY4⟩ : ∃ X4 : Int32 → Int32 → Prop, (∀ (x2 : Int32) (x3 : Int32), X4 x2 x3 → ∀ (ls : Array Slot), lv_has ls 4 [(0, .ref (ad g)), (1, .int x1), (2, .int x2), (3, .int x3)] → W p l e (RM 1) s m args below meth c s.heap [] 0 0 (MQ below (QcR Q1) args s 0 0 (fun _ => False)) (F0 m 4 ls [])) ∧ (∀ (x2 : Int32) (x3 : Int32), (∀ (ls : Array Slot), lv_has ls 4 [(0, .ref (ad g)), (1, .int x1), (2, .int x2), (3, .int x3)] → W p l e (RM 1) s m args below meth c s.heap [] 0 0 (MQ below (QcR Q1) args s 0 0 (fun _ => False)) (F0 m 4 ls [])) → X4 x2 x3) := ⟨fun (x2 : Int32) (x3 : Int32) => ∀ (ls : Array Slot), lv_has ls 4 [(0, .ref (ad g)), (1, .int x1), (2, .int x2), (3, .int x3)] → W p l e (RM 1) s m args below meth c s.heap [] 0 0 (MQ below (QcR Q1) args s 0 0 (fun _ => False)) (F0 m 4 ls []), fun _ _ h => h, fun _ _ h => h⟩
  refine hX4 _ _ (hB X4 (fun x2 x3 hB => hY4 _ _ (fun ls hl => ?_))) _ hl
  have hx := C.x
  have hb := C.b
  refine lv_iload_n hx hb dX2_openOf_4 rfl (lv_at hl 3 rfl) ?_
  refine lv_aload_n hx hb dX2_openOf_5 rfl (lv_at hl 0 rfl) ?_
  refine gf_X2_0 C hP hg tw_1_127 dX2_openOf_6 ?_
  refine lv_icmp_ge (tgt := 35) hx hb dX2_openOf_9 (by decide) (fun q1 => ?_) (fun q1 => ?_)
  · have hB := hB.1 q1
    refine lv_iload_n hx hb dX2_openOf_35 rfl (lv_at hl 2 rfl) ?_
    exact e_iR C.1 hr hlk dX2_openOf_36 hB
  · have hB := hB.2 q1
    refine lv_iload_n hx hb dX2_openOf_12 rfl (lv_at hl 1 rfl) ?_
    refine lv_iload_n hx hb dX2_openOf_13 rfl (lv_at hl 3 rfl) ?_
    refine lv_ishr hx hb dX2_openOf_14 ?_
    refine lv_iconst (v := 1) hx hb dX2_openOf_15 (by decide) ?_
    refine lv_iand hx hb dX2_openOf_16 ?_
    refine lv_if_eq (tgt := 29) hx hb dX2_openOf_17 (by decide) (fun q2 => ?_) (fun q2 => ?_)
    · have hB := hB.1 q2
      obtain ⟨x3_3, ex3_3⟩ : ∃ y : Int32, y = x3 + 1 := ⟨_, rfl⟩
      have hB := hB x3_3 ex3_3
      refine lv_iinc (v := x3_3) (lv' := [(3, .int x3_3), (0, .ref (ad g)), (1, .int x1), (2, .int x2)]) hx hb dX2_openOf_29 hl (k := 3) rfl (by rw [ex3_3]; rfl) (by decide) rfl (fun ls hl => ?_)
      refine lv_goto (tgt := 4) hx hb dX2_openOf_32 (by decide) ?_
      exact hX4 _ _ hB _ (lv_sub hl [1, 2, 3, 0] rfl)
    · have hB := hB.2 q2
      refine lv_iload_n hx hb dX2_openOf_20 rfl (lv_at hl 2 rfl) ?_
      refine lv_aload_n hx hb dX2_openOf_21 rfl (lv_at hl 0 rfl) ?_
      refine gf_X2_4 C hP hg tw_1_139 dX2_openOf_22 ?_
      refine lv_iload_n hx hb dX2_openOf_25 rfl (lv_at hl 3 rfl) ?_
      obtain ⟨q4, hB⟩ := hB
      refine a_ld C hP (aH_2 hg) q4 dX2_openOf_26 ?_
      refine lv_iadd hx hb dX2_openOf_27 ?_
      refine lv_topi (fun x2_5 ex2_5 => ?_)
      have hB := hB x2_5 ex2_5
      refine lv_istore_n (lv' := [(2, .int x2_5), (0, .ref (ad g)), (1, .int x1), (3, .int x3)]) hx hb dX2_openOf_28 rfl hl (by decide) rfl (fun ls hl => ?_)
      obtain ⟨x3_6, ex3_6⟩ : ∃ y : Int32, y = x3 + 1 := ⟨_, rfl⟩
      have hB := hB x3_6 ex3_6
      refine lv_iinc (v := x3_6) (lv' := [(3, .int x3_6), (2, .int x2_5), (0, .ref (ad g)), (1, .int x1)]) hx hb dX2_openOf_29 hl (k := 3) rfl (by rw [ex3_6]; rfl) (by decide) rfl (fun ls hl => ?_)
      refine lv_goto (tgt := 4) hx hb dX2_openOf_32 (by decide) ?_
      exact hX4 _ _ hB _ (lv_sub hl [2, 3, 1, 0] rfl)
set_option maxRecDepth 100000 in
set_option maxHeartbeats 4000000 in
theorem c_X2_openOf {l : Launch} {T : Nat → ClassId} {D : va_G} {ad : Nat → Nat} {K : Nat} {M : Mem} {g : Nat} {x1 : Int32} {Q1 : Int32 → Prop} (hg : isH g) (hB : P_X2_openOf K M g x1 Q1) : Met l yX2_openOf (Cond.code yX2_openOf cX2_openOf 4 (some .int) :: TB) (RM 1) (va_Pc [.ref (ad g), .int x1] (RdP EC T D ad (69 + K) M)) (QcR Q1) 0 0 (fun _ => False) := by
  refine st_R (by decide) (Nat.le_of_ble_eq_true rfl) (fun p e s m args below meth c ls C hr hlk hP hl => ?_)
  have hl : lv_has ls 4 [(0, .ref (ad g)), (1, .int x1)] := hl
  have hx := C.x
  have hb := C.b
  delta P_X2_openOf at hB
  refine lv_iconst (v := 0) hx hb dX2_openOf_0 (by decide) ?_
  refine lv_istore_n (lv' := [(2, .int 0), (0, .ref (ad g)), (1, .int x1)]) hx hb dX2_openOf_1 rfl hl (by decide) rfl (fun ls hl => ?_)
  refine lv_iconst (v := 0) hx hb dX2_openOf_2 (by decide) ?_
  refine lv_istore_n (lv' := [(3, .int 0), (2, .int 0), (0, .ref (ad g)), (1, .int x1)]) hx hb dX2_openOf_3 rfl hl (by decide) rfl (fun ls hl => ?_)
  exact w_X2_openOf_4 C hr hlk hP hg (lv_sub hl [2, 3, 1, 0] rfl) hB
set_option maxRecDepth 100000 in
set_option maxHeartbeats 4000000 in
theorem v_X2_openOf {K : Nat} {M : Mem} {g : Nat} {x1 : Int32} {Q1 : Int32 → Prop} (C : Cx T D p s m args c cc nL own) (hls : ls.size = nL) (hP : Pw EC T D ad (69 + K) M H) (hg : isH g) (hlink : Cond.methodLink own index yX2_openOf ∈ TB) (hR : 1 + 1 ≤ R.frames ∧ 8 + (4 + 11) + 48 * 1 ≤ R.locals) (hcs : cells ≤ R.cells ∧ slots ≤ R.slots) (hcat : (rest.map fun v => v.category).sum ≤ 8) (hdg : decode cc pc = .ok (.invokevirtual index, 3)) (hB : P_X2_openOf K M g x1 Q1)
    (kk : ∀ r : Int32, Q1 r → W p l e R s m args below meth c H locs cells slots QQ (F0 m (pc + 3) ls (.int r :: rest))) : W p l e R s m args below meth c H locs cells slots QQ (F0 m pc ls (.int x1 :: .ref (ad g) :: rest)) :=
  k_V (ci := 2) (n := 1) (c_X2_openOf hg hB) tw_2_110 tw_2_108 tw_2_109 tw_1_10 ⟨rfl, by decide, by decide, by decide +kernel⟩ rfl rfl C hls hP (oH hg) hlink hR hcs hcat rfl hdg kk
def P_X11_ofCord (K : Nat) (M : Mem) (x1 : Int32) (x2 : Int32) (Q1 : Int32 → Mem → Prop) : Prop :=
  ((x1 < 0 → P_X11_error K M 1 (fun v2 M3 => Q1 v2 M3)) ∧
    (¬ x1 < 0 → (((M 30 1) ≤ x1 → P_X11_error K M 1 (fun v5 M6 => Q1 v5 M6)) ∧
      (¬ (M 30 1) ≤ x1 → ((x2 < 0 → P_X11_error K M 1 (fun v8 M9 => Q1 v8 M9)) ∧
        (¬ x2 < 0 → ((x2 ≤ 1 → P_X2_setOf K M 30 x1 (fun v11 => ((¬ x2 = 0 → P_X2_openOf K M 30 v11 (fun v13 => Q1 v13 M)) ∧
            (x2 = 0 → Q1 v11 M)))) ∧
          (¬ x2 ≤ 1 → P_X11_error K M 1 (fun v14 M15 => Q1 v14 M15)))))))))
set_option maxRecDepth 100000 in
set_option maxHeartbeats 4000000 in
theorem c_X11_ofCord {l : Launch} {T : Nat → ClassId} {D : va_G} {ad : Nat → Nat} {K : Nat} {M : Mem} {x1 : Int32} {x2 : Int32} {sz : Nat} {Q1 : Int32 → Mem → Prop} (hB : P_X11_ofCord K M x1 x2 Q1) : Met l yX11_ofCord (Cond.code yX11_ofCord cX11_ofCord 4 (some .int) :: TB) (RM 2) (va_Pc [.ref (ad 0), .int x1, .int x2] (WrP EC T D ad (69 + K) M sz)) (QcW EC T D ad (69 + K) (AA ad (69 + K) sz) Q1) 0 0 (AA ad (69 + K) sz) := by
  refine st_W (by decide) (Nat.le_of_ble_eq_true rfl) (fun p e s m args below meth c ls C hr hlk hsz Z hl => ?_)
  have hl : lv_has ls 4 [(0, .ref (ad 0)), (1, .int x1), (2, .int x2)] := hl
  generalize AA ad (69 + K) sz = A at Z ⊢
  have hx := C.x
  have hb := C.b
  delta P_X11_ofCord at hB
  refine lv_iload_n hx hb dX11_ofCord_0 rfl (lv_at hl 1 rfl) ?_
  refine lv_if_lt (tgt := 24) hx hb dX11_ofCord_1 (by decide) (fun q1 => ?_) (fun q1 => ?_)
  · have hB := hB.1 q1
    refine lv_aload_n hx hb dX11_ofCord_24 rfl (lv_at hl 0 rfl) ?_
    refine lv_iconst (v := 1) hx hb dX11_ofCord_25 (by decide) ?_
    refine v_X11_error C hl.1 Z tw_2_56 ⟨Nat.le_of_ble_eq_true rfl, Nat.le_of_ble_eq_true rfl⟩ ⟨Nat.le_refl _, Nat.le_refl _⟩ (Nat.le_of_ble_eq_true rfl) dX11_ofCord_26 hB (fun v2 M3 H locs hB Z => ?_)
    exact e_iW C hr hlk Z dX11_ofCord_29 hB
  · have hB := hB.2 q1
    refine lv_iload_n hx hb dX11_ofCord_4 rfl (lv_at hl 1 rfl) ?_
    refine lv_aload_n hx hb dX11_ofCord_5 rfl (lv_at hl 0 rfl) ?_
    refine gf_X11_5 C Z.1 tw_2_17 dX11_ofCord_6 ?_
    refine gf_X2_1 C Z.1 isH_0 tw_1_131 dX11_ofCord_9 ?_
    refine lv_icmp_ge (tgt := 24) hx hb dX11_ofCord_12 (by decide) (fun q4 => ?_) (fun q4 => ?_)
    · have hB := hB.1 q4
      refine lv_aload_n hx hb dX11_ofCord_24 rfl (lv_at hl 0 rfl) ?_
      refine lv_iconst (v := 1) hx hb dX11_ofCord_25 (by decide) ?_
      refine v_X11_error C hl.1 Z tw_2_56 ⟨Nat.le_of_ble_eq_true rfl, Nat.le_of_ble_eq_true rfl⟩ ⟨Nat.le_refl _, Nat.le_refl _⟩ (Nat.le_of_ble_eq_true rfl) dX11_ofCord_26 hB (fun v5 M6 H locs hB Z => ?_)
      exact e_iW C hr hlk Z dX11_ofCord_29 hB
    · have hB := hB.2 q4
      refine lv_iload_n hx hb dX11_ofCord_15 rfl (lv_at hl 2 rfl) ?_
      refine lv_if_lt (tgt := 24) hx hb dX11_ofCord_16 (by decide) (fun q7 => ?_) (fun q7 => ?_)
      · have hB := hB.1 q7
        refine lv_aload_n hx hb dX11_ofCord_24 rfl (lv_at hl 0 rfl) ?_
        refine lv_iconst (v := 1) hx hb dX11_ofCord_25 (by decide) ?_
        refine v_X11_error C hl.1 Z tw_2_56 ⟨Nat.le_of_ble_eq_true rfl, Nat.le_of_ble_eq_true rfl⟩ ⟨Nat.le_refl _, Nat.le_refl _⟩ (Nat.le_of_ble_eq_true rfl) dX11_ofCord_26 hB (fun v8 M9 H locs hB Z => ?_)
        exact e_iW C hr hlk Z dX11_ofCord_29 hB
      · have hB := hB.2 q7
        refine lv_iload_n hx hb dX11_ofCord_19 rfl (lv_at hl 2 rfl) ?_
        refine lv_iconst (v := 1) hx hb dX11_ofCord_20 (by decide) ?_
        refine lv_icmp_le (tgt := 30) hx hb dX11_ofCord_21 (by decide) (fun q10 => ?_) (fun q10 => ?_)
        · have hB := hB.1 q10
          refine lv_aload_n hx hb dX11_ofCord_30 rfl (lv_at hl 0 rfl) ?_
          refine gf_X11_5 C Z.1 tw_2_17 dX11_ofCord_31 ?_
          refine lv_iload_n hx hb dX11_ofCord_34 rfl (lv_at hl 1 rfl) ?_
          refine v_X2_setOf C hl.1 Z.1 isH_0 tw_2_103 ⟨Nat.le_of_ble_eq_true rfl, Nat.le_of_ble_eq_true rfl⟩ ⟨Nat.le_refl _, Nat.le_refl _⟩ (Nat.le_of_ble_eq_true rfl) dX11_ofCord_35 hB (fun v11 hB => ?_)
          refine lv_istore_n (lv' := [(3, .int v11), (0, .ref (ad 0)), (1, .int x1), (2, .int x2)]) hx hb dX11_ofCord_38 rfl hl (by decide) rfl (fun ls hl => ?_)
          refine lv_iload_n hx hb dX11_ofCord_39 rfl (lv_at hl 3 rfl) ?_
          refine lv_if_ne (tgt := 47) hx hb dX11_ofCord_40 (by decide) (fun q12 => ?_) (fun q12 => ?_)
          · have hB := hB.1 q12
            refine lv_aload_n hx hb dX11_ofCord_47 rfl (lv_at hl 1 rfl) ?_
            refine gf_X11_5 C Z.1 tw_2_17 dX11_ofCord_48 ?_
            refine lv_iload_n hx hb dX11_ofCord_51 rfl (lv_at hl 0 rfl) ?_
            refine v_X2_openOf C hl.1 Z.1 isH_0 tw_2_107 ⟨Nat.le_of_ble_eq_true rfl, Nat.le_of_ble_eq_true rfl⟩ ⟨Nat.le_refl _, Nat.le_refl _⟩ (Nat.le_of_ble_eq_true rfl) dX11_ofCord_52 hB (fun v13 hB => ?_)
            exact e_iW C hr hlk Z dX11_ofCord_55 hB
          · have hB := hB.2 q12
            refine lv_iload_n hx hb dX11_ofCord_43 rfl (lv_at hl 0 rfl) ?_
            refine lv_goto (tgt := 55) hx hb dX11_ofCord_44 (by decide) ?_
            exact e_iW C hr hlk Z dX11_ofCord_55 hB
        · have hB := hB.2 q10
          refine lv_aload_n hx hb dX11_ofCord_24 rfl (lv_at hl 0 rfl) ?_
          refine lv_iconst (v := 1) hx hb dX11_ofCord_25 (by decide) ?_
          refine v_X11_error C hl.1 Z tw_2_56 ⟨Nat.le_of_ble_eq_true rfl, Nat.le_of_ble_eq_true rfl⟩ ⟨Nat.le_refl _, Nat.le_refl _⟩ (Nat.le_of_ble_eq_true rfl) dX11_ofCord_26 hB (fun v14 M15 H locs hB Z => ?_)
          exact e_iW C hr hlk Z dX11_ofCord_29 hB
set_option maxRecDepth 100000 in
set_option maxHeartbeats 4000000 in
theorem v_X11_ofCord {K : Nat} {M : Mem} {x1 : Int32} {x2 : Int32} {Q1 : Int32 → Mem → Prop} (C : Cx T D p s m args c cc nL own) (hls : ls.size = nL) (Z : Zz EC T D ad (69 + K) A H0 M H locs) (hlink : Cond.methodLink own index yX11_ofCord ∈ TB) (hR : 2 + 1 ≤ R.frames ∧ 8 + (4 + 11) + 48 * 2 ≤ R.locals) (hcs : cells ≤ R.cells ∧ slots ≤ R.slots) (hcat : (rest.map fun v => v.category).sum ≤ 8) (hdg : decode cc pc = .ok (.invokevirtual index, 3)) (hB : P_X11_ofCord K M x1 x2 Q1)
    (kk : ∀ (r : Int32) (M1 : Mem) (H1 : Heap) (locs1 : List Loc), Q1 r M1 → Zz EC T D ad (69 + K) A H0 M1 H1 locs1 → W p l e R s m args below meth c H1 locs1 cells slots QQ (F0 m (pc + 3) ls (.int r :: rest))) : W p l e R s m args below meth c H locs cells slots QQ (F0 m pc ls (.int x2 :: .int x1 :: .ref (ad 0) :: rest)) :=
  k_VW (ci := 11) (n := 2) (c_X11_ofCord hB) tw_2_102 tw_2_100 tw_2_101 tw_1_1 ⟨rfl, by decide, by decide, by decide +kernel⟩ rfl rfl C hls Z oO hlink hR hcs hcat rfl hdg kk
def P_X11_open (K : Nat) (M : Mem) (x1 : Int32) (x2 : Int32) (Q1 : Int32 → Mem → Prop) : Prop :=
  P_X11_isWindow K M x1 (fun v1 => ((v1 = 0 → P_X11_error K M 1 (fun v3 M4 => Q1 v3 M4)) ∧
    (¬ v1 = 0 → P_X11_isNotch x2 (fun v5 => ((¬ v5 = 0 → vp_in x1 8 ∧ ((0 ≤ (M 33 x1.toNatClampNeg) → P_X11_error K M 3 (fun v9 M10 => Q1 v9 M10)) ∧
        (¬ 0 ≤ (M 33 x1.toNatClampNeg) → vp_in x1 8 ∧ (((M 34 x1.toNatClampNeg) = 0 → vp_in x1 8 ∧ ∀ x3_14 : Int32, x3_14 = M 32 x1.toNatClampNeg → vp_in x1 8 ∧ ∀ M15 : Mem, M15 = sf M 32 x1.toNatClampNeg x2 → Q1 x3_14 M15) ∧
          (¬ (M 34 x1.toNatClampNeg) = 0 → P_X11_error K M 3 (fun v17 M18 => Q1 v17 M18)))))) ∧
      (v5 = 0 → P_X11_error K M 1 (fun v19 M20 => Q1 v19 M20)))))))
set_option maxRecDepth 100000 in
set_option maxHeartbeats 4000000 in
theorem c_X11_open {l : Launch} {T : Nat → ClassId} {D : va_G} {ad : Nat → Nat} {K : Nat} {M : Mem} {x1 : Int32} {x2 : Int32} {sz : Nat} {Q1 : Int32 → Mem → Prop} (hB : P_X11_open K M x1 x2 Q1) : Met l yX11_open (Cond.code yX11_open cX11_open 4 (some .int) :: TB) (RM 2) (va_Pc [.ref (ad 0), .int x1, .int x2] (WrP EC T D ad (69 + K) M sz)) (QcW EC T D ad (69 + K) (AA ad (69 + K) sz) Q1) 0 0 (AA ad (69 + K) sz) := by
  refine st_W (by decide) (Nat.le_of_ble_eq_true rfl) (fun p e s m args below meth c ls C hr hlk hsz Z hl => ?_)
  have hl : lv_has ls 4 [(0, .ref (ad 0)), (1, .int x1), (2, .int x2)] := hl
  generalize AA ad (69 + K) sz = A at Z ⊢
  have hx := C.x
  have hb := C.b
  delta P_X11_open at hB
  refine lv_aload_n hx hb dX11_open_0 rfl (lv_at hl 0 rfl) ?_
  refine lv_iload_n hx hb dX11_open_1 rfl (lv_at hl 1 rfl) ?_
  refine v_X11_isWindow C hl.1 Z.1 tw_2_95 ⟨Nat.le_of_ble_eq_true rfl, Nat.le_of_ble_eq_true rfl⟩ ⟨Nat.le_refl _, Nat.le_refl _⟩ (Nat.le_of_ble_eq_true rfl) dX11_open_2 hB (fun v1 hB => ?_)
  refine lv_if_eq (tgt := 15) hx hb dX11_open_5 (by decide) (fun q2 => ?_) (fun q2 => ?_)
  · have hB := hB.1 q2
    refine lv_aload_n hx hb dX11_open_15 rfl (lv_at hl 0 rfl) ?_
    refine lv_iconst (v := 1) hx hb dX11_open_16 (by decide) ?_
    refine v_X11_error C hl.1 Z tw_2_56 ⟨Nat.le_of_ble_eq_true rfl, Nat.le_of_ble_eq_true rfl⟩ ⟨Nat.le_refl _, Nat.le_refl _⟩ (Nat.le_of_ble_eq_true rfl) dX11_open_17 hB (fun v3 M4 H locs hB Z => ?_)
    exact e_iW C hr hlk Z dX11_open_20 hB
  · have hB := hB.2 q2
    refine lv_iload_n hx hb dX11_open_8 rfl (lv_at hl 2 rfl) ?_
    refine v_X11_isNotch C.1 hl.1 tw_2_53 ⟨Nat.le_of_ble_eq_true rfl, Nat.le_of_ble_eq_true rfl⟩ ⟨Nat.le_refl _, Nat.le_refl _⟩ (Nat.le_of_ble_eq_true rfl) dX11_open_9 hB (fun v5 hB => ?_)
    refine lv_if_ne (tgt := 21) hx hb dX11_open_12 (by decide) (fun q6 => ?_) (fun q6 => ?_)
    · have hB := hB.1 q6
      refine lv_aload_n hx hb dX11_open_21 rfl (lv_at hl 0 rfl) ?_
      refine gf_X11_5 C Z.1 tw_2_17 dX11_open_22 ?_
      refine gf_X2_5 C Z.1 isH_0 tw_1_143 dX11_open_25 ?_
      refine lv_iload_n hx hb dX11_open_28 rfl (lv_at hl 1 rfl) ?_
      obtain ⟨q7, hB⟩ := hB
      refine a_ld C Z.1 (aH_3 isH_0) q7 dX11_open_29 ?_
      refine lv_if_ge (tgt := 45) hx hb dX11_open_30 (by decide) (fun q8 => ?_) (fun q8 => ?_)
      · have hB := hB.1 q8
        refine lv_aload_n hx hb dX11_open_45 rfl (lv_at hl 0 rfl) ?_
        refine lv_iconst (v := 3) hx hb dX11_open_46 (by decide) ?_
        refine v_X11_error C hl.1 Z tw_2_56 ⟨Nat.le_of_ble_eq_true rfl, Nat.le_of_ble_eq_true rfl⟩ ⟨Nat.le_refl _, Nat.le_refl _⟩ (Nat.le_of_ble_eq_true rfl) dX11_open_47 hB (fun v9 M10 H locs hB Z => ?_)
        exact e_iW C hr hlk Z dX11_open_50 hB
      · have hB := hB.2 q8
        refine lv_aload_n hx hb dX11_open_33 rfl (lv_at hl 0 rfl) ?_
        refine gf_X11_5 C Z.1 tw_2_17 dX11_open_34 ?_
        refine gf_X2_6 C Z.1 isH_0 tw_1_146 dX11_open_37 ?_
        refine lv_iload_n hx hb dX11_open_40 rfl (lv_at hl 1 rfl) ?_
        obtain ⟨q11, hB⟩ := hB
        refine a_ld C Z.1 (aH_4 isH_0) q11 dX11_open_41 ?_
        refine lv_if_eq (tgt := 51) hx hb dX11_open_42 (by decide) (fun q12 => ?_) (fun q12 => ?_)
        · have hB := hB.1 q12
          refine lv_aload_n hx hb dX11_open_51 rfl (lv_at hl 0 rfl) ?_
          refine gf_X11_5 C Z.1 tw_2_17 dX11_open_52 ?_
          refine gf_X2_4 C Z.1 isH_0 tw_1_141 dX11_open_55 ?_
          refine lv_iload_n hx hb dX11_open_58 rfl (lv_at hl 1 rfl) ?_
          obtain ⟨q13, hB⟩ := hB
          refine a_ld C Z.1 (aH_2 isH_0) q13 dX11_open_59 ?_
          refine lv_topi (fun x3_14 ex3_14 => ?_)
          have hB := hB x3_14 ex3_14
          refine lv_istore_n (lv' := [(3, .int x3_14), (0, .ref (ad 0)), (1, .int x1), (2, .int x2)]) hx hb dX11_open_60 rfl hl (by decide) rfl (fun ls hl => ?_)
          refine lv_aload_n hx hb dX11_open_61 rfl (lv_at hl 1 rfl) ?_
          refine gf_X11_5 C Z.1 tw_2_17 dX11_open_62 ?_
          refine gf_X2_4 C Z.1 isH_0 tw_1_141 dX11_open_65 ?_
          refine lv_iload_n hx hb dX11_open_68 rfl (lv_at hl 2 rfl) ?_
          refine lv_iload_n hx hb dX11_open_69 rfl (lv_at hl 3 rfl) ?_
          obtain ⟨q16, hB⟩ := hB
          refine a_st C Z (aH_2 isH_0) q16 dX11_open_70 (fun M15 H locs eM15 Z => ?_)
          have hB := hB M15 eM15
          refine lv_iload_n hx hb dX11_open_71 rfl (lv_at hl 0 rfl) ?_
          exact e_iW C hr hlk Z dX11_open_72 hB
        · have hB := hB.2 q12
          refine lv_aload_n hx hb dX11_open_45 rfl (lv_at hl 0 rfl) ?_
          refine lv_iconst (v := 3) hx hb dX11_open_46 (by decide) ?_
          refine v_X11_error C hl.1 Z tw_2_56 ⟨Nat.le_of_ble_eq_true rfl, Nat.le_of_ble_eq_true rfl⟩ ⟨Nat.le_refl _, Nat.le_refl _⟩ (Nat.le_of_ble_eq_true rfl) dX11_open_47 hB (fun v17 M18 H locs hB Z => ?_)
          exact e_iW C hr hlk Z dX11_open_50 hB
    · have hB := hB.2 q6
      refine lv_aload_n hx hb dX11_open_15 rfl (lv_at hl 0 rfl) ?_
      refine lv_iconst (v := 1) hx hb dX11_open_16 (by decide) ?_
      refine v_X11_error C hl.1 Z tw_2_56 ⟨Nat.le_of_ble_eq_true rfl, Nat.le_of_ble_eq_true rfl⟩ ⟨Nat.le_refl _, Nat.le_refl _⟩ (Nat.le_of_ble_eq_true rfl) dX11_open_17 hB (fun v19 M20 H locs hB Z => ?_)
      exact e_iW C hr hlk Z dX11_open_20 hB
set_option maxRecDepth 100000 in
set_option maxHeartbeats 4000000 in
theorem v_X11_open {K : Nat} {M : Mem} {x1 : Int32} {x2 : Int32} {Q1 : Int32 → Mem → Prop} (C : Cx T D p s m args c cc nL own) (hls : ls.size = nL) (Z : Zz EC T D ad (69 + K) A H0 M H locs) (hlink : Cond.methodLink own index yX11_open ∈ TB) (hR : 2 + 1 ≤ R.frames ∧ 8 + (4 + 11) + 48 * 2 ≤ R.locals) (hcs : cells ≤ R.cells ∧ slots ≤ R.slots) (hcat : (rest.map fun v => v.category).sum ≤ 8) (hdg : decode cc pc = .ok (.invokevirtual index, 3)) (hB : P_X11_open K M x1 x2 Q1)
    (kk : ∀ (r : Int32) (M1 : Mem) (H1 : Heap) (locs1 : List Loc), Q1 r M1 → Zz EC T D ad (69 + K) A H0 M1 H1 locs1 → W p l e R s m args below meth c H1 locs1 cells slots QQ (F0 m (pc + 3) ls (.int r :: rest))) : W p l e R s m args below meth c H locs cells slots QQ (F0 m pc ls (.int x2 :: .int x1 :: .ref (ad 0) :: rest)) :=
  k_VW (ci := 11) (n := 2) (c_X11_open hB) tw_2_114 tw_2_112 tw_2_113 tw_1_1 ⟨rfl, by decide, by decide, by decide +kernel⟩ rfl rfl C hls Z oO hlink hR hcs hcat rfl hdg kk
def P_X11_swell (K : Nat) (M : Mem) (x1 : Int32) (x2 : Int32) (Q1 : Int32 → Mem → Prop) : Prop :=
  P_X11_isWindow K M x1 (fun v1 => ((v1 = 0 → P_X11_error K M 1 (fun v3 M4 => Q1 v3 M4)) ∧
    (¬ v1 = 0 → ((x2 < 0 → P_X11_error K M 1 (fun v6 M7 => Q1 v6 M7)) ∧
      (¬ x2 < 0 → ((x2 ≤ 1 → vp_in x1 8 ∧ ∀ x3_10 : Int32, x3_10 = M 34 x1.toNatClampNeg → vp_in x1 8 ∧ ∀ M11 : Mem, M11 = sf M 34 x1.toNatClampNeg x2 → Q1 x3_10 M11) ∧
        (¬ x2 ≤ 1 → P_X11_error K M 1 (fun v13 M14 => Q1 v13 M14))))))))
set_option maxRecDepth 100000 in
set_option maxHeartbeats 4000000 in
theorem c_X11_swell {l : Launch} {T : Nat → ClassId} {D : va_G} {ad : Nat → Nat} {K : Nat} {M : Mem} {x1 : Int32} {x2 : Int32} {sz : Nat} {Q1 : Int32 → Mem → Prop} (hB : P_X11_swell K M x1 x2 Q1) : Met l yX11_swell (Cond.code yX11_swell cX11_swell 4 (some .int) :: TB) (RM 2) (va_Pc [.ref (ad 0), .int x1, .int x2] (WrP EC T D ad (69 + K) M sz)) (QcW EC T D ad (69 + K) (AA ad (69 + K) sz) Q1) 0 0 (AA ad (69 + K) sz) := by
  refine st_W (by decide) (Nat.le_of_ble_eq_true rfl) (fun p e s m args below meth c ls C hr hlk hsz Z hl => ?_)
  have hl : lv_has ls 4 [(0, .ref (ad 0)), (1, .int x1), (2, .int x2)] := hl
  generalize AA ad (69 + K) sz = A at Z ⊢
  have hx := C.x
  have hb := C.b
  delta P_X11_swell at hB
  refine lv_aload_n hx hb dX11_swell_0 rfl (lv_at hl 0 rfl) ?_
  refine lv_iload_n hx hb dX11_swell_1 rfl (lv_at hl 1 rfl) ?_
  refine v_X11_isWindow C hl.1 Z.1 tw_2_95 ⟨Nat.le_of_ble_eq_true rfl, Nat.le_of_ble_eq_true rfl⟩ ⟨Nat.le_refl _, Nat.le_refl _⟩ (Nat.le_of_ble_eq_true rfl) dX11_swell_2 hB (fun v1 hB => ?_)
  refine lv_if_eq (tgt := 17) hx hb dX11_swell_5 (by decide) (fun q2 => ?_) (fun q2 => ?_)
  · have hB := hB.1 q2
    refine lv_aload_n hx hb dX11_swell_17 rfl (lv_at hl 0 rfl) ?_
    refine lv_iconst (v := 1) hx hb dX11_swell_18 (by decide) ?_
    refine v_X11_error C hl.1 Z tw_2_56 ⟨Nat.le_of_ble_eq_true rfl, Nat.le_of_ble_eq_true rfl⟩ ⟨Nat.le_refl _, Nat.le_refl _⟩ (Nat.le_of_ble_eq_true rfl) dX11_swell_19 hB (fun v3 M4 H locs hB Z => ?_)
    exact e_iW C hr hlk Z dX11_swell_22 hB
  · have hB := hB.2 q2
    refine lv_iload_n hx hb dX11_swell_8 rfl (lv_at hl 2 rfl) ?_
    refine lv_if_lt (tgt := 17) hx hb dX11_swell_9 (by decide) (fun q5 => ?_) (fun q5 => ?_)
    · have hB := hB.1 q5
      refine lv_aload_n hx hb dX11_swell_17 rfl (lv_at hl 0 rfl) ?_
      refine lv_iconst (v := 1) hx hb dX11_swell_18 (by decide) ?_
      refine v_X11_error C hl.1 Z tw_2_56 ⟨Nat.le_of_ble_eq_true rfl, Nat.le_of_ble_eq_true rfl⟩ ⟨Nat.le_refl _, Nat.le_refl _⟩ (Nat.le_of_ble_eq_true rfl) dX11_swell_19 hB (fun v6 M7 H locs hB Z => ?_)
      exact e_iW C hr hlk Z dX11_swell_22 hB
    · have hB := hB.2 q5
      refine lv_iload_n hx hb dX11_swell_12 rfl (lv_at hl 2 rfl) ?_
      refine lv_iconst (v := 1) hx hb dX11_swell_13 (by decide) ?_
      refine lv_icmp_le (tgt := 23) hx hb dX11_swell_14 (by decide) (fun q8 => ?_) (fun q8 => ?_)
      · have hB := hB.1 q8
        refine lv_aload_n hx hb dX11_swell_23 rfl (lv_at hl 0 rfl) ?_
        refine gf_X11_5 C Z.1 tw_2_17 dX11_swell_24 ?_
        refine gf_X2_6 C Z.1 isH_0 tw_1_146 dX11_swell_27 ?_
        refine lv_iload_n hx hb dX11_swell_30 rfl (lv_at hl 1 rfl) ?_
        obtain ⟨q9, hB⟩ := hB
        refine a_ld C Z.1 (aH_4 isH_0) q9 dX11_swell_31 ?_
        refine lv_topi (fun x3_10 ex3_10 => ?_)
        have hB := hB x3_10 ex3_10
        refine lv_istore_n (lv' := [(3, .int x3_10), (0, .ref (ad 0)), (1, .int x1), (2, .int x2)]) hx hb dX11_swell_32 rfl hl (by decide) rfl (fun ls hl => ?_)
        refine lv_aload_n hx hb dX11_swell_33 rfl (lv_at hl 1 rfl) ?_
        refine gf_X11_5 C Z.1 tw_2_17 dX11_swell_34 ?_
        refine gf_X2_6 C Z.1 isH_0 tw_1_146 dX11_swell_37 ?_
        refine lv_iload_n hx hb dX11_swell_40 rfl (lv_at hl 2 rfl) ?_
        refine lv_iload_n hx hb dX11_swell_41 rfl (lv_at hl 3 rfl) ?_
        obtain ⟨q12, hB⟩ := hB
        refine a_st C Z (aH_4 isH_0) q12 dX11_swell_42 (fun M11 H locs eM11 Z => ?_)
        have hB := hB M11 eM11
        refine lv_iload_n hx hb dX11_swell_43 rfl (lv_at hl 0 rfl) ?_
        exact e_iW C hr hlk Z dX11_swell_44 hB
      · have hB := hB.2 q8
        refine lv_aload_n hx hb dX11_swell_17 rfl (lv_at hl 0 rfl) ?_
        refine lv_iconst (v := 1) hx hb dX11_swell_18 (by decide) ?_
        refine v_X11_error C hl.1 Z tw_2_56 ⟨Nat.le_of_ble_eq_true rfl, Nat.le_of_ble_eq_true rfl⟩ ⟨Nat.le_refl _, Nat.le_refl _⟩ (Nat.le_of_ble_eq_true rfl) dX11_swell_19 hB (fun v13 M14 H locs hB Z => ?_)
        exact e_iW C hr hlk Z dX11_swell_22 hB
set_option maxRecDepth 100000 in
set_option maxHeartbeats 4000000 in
theorem v_X11_swell {K : Nat} {M : Mem} {x1 : Int32} {x2 : Int32} {Q1 : Int32 → Mem → Prop} (C : Cx T D p s m args c cc nL own) (hls : ls.size = nL) (Z : Zz EC T D ad (69 + K) A H0 M H locs) (hlink : Cond.methodLink own index yX11_swell ∈ TB) (hR : 2 + 1 ≤ R.frames ∧ 8 + (4 + 11) + 48 * 2 ≤ R.locals) (hcs : cells ≤ R.cells ∧ slots ≤ R.slots) (hcat : (rest.map fun v => v.category).sum ≤ 8) (hdg : decode cc pc = .ok (.invokevirtual index, 3)) (hB : P_X11_swell K M x1 x2 Q1)
    (kk : ∀ (r : Int32) (M1 : Mem) (H1 : Heap) (locs1 : List Loc), Q1 r M1 → Zz EC T D ad (69 + K) A H0 M1 H1 locs1 → W p l e R s m args below meth c H1 locs1 cells slots QQ (F0 m (pc + 3) ls (.int r :: rest))) : W p l e R s m args below meth c H locs cells slots QQ (F0 m pc ls (.int x2 :: .int x1 :: .ref (ad 0) :: rest)) :=
  k_VW (ci := 11) (n := 2) (c_X11_swell hB) tw_2_118 tw_2_116 tw_2_117 tw_1_1 ⟨rfl, by decide, by decide, by decide +kernel⟩ rfl rfl C hls Z oO hlink hR hcs hcat rfl hdg kk
def P_X2_isLocked (K : Nat) (M : Mem) (g : Nat) (Q1 : Int32 → Prop) : Prop :=
  (((M g 10) < (M g 13) → Q1 0) ∧
    (¬ (M g 10) < (M g 13) → (((M g 14) ≤ (M g 10) → Q1 0) ∧
      (¬ (M g 14) ≤ (M g 10) → Q1 1))))
set_option maxRecDepth 100000 in
set_option maxHeartbeats 4000000 in
theorem c_X2_isLocked {l : Launch} {T : Nat → ClassId} {D : va_G} {ad : Nat → Nat} {K : Nat} {M : Mem} {g : Nat} {Q1 : Int32 → Prop} (hg : isH g) (hB : P_X2_isLocked K M g Q1) : Met l yX2_isLocked (Cond.code yX2_isLocked cX2_isLocked 1 (some .boolean) :: TB) (RM 1) (va_Pc [.ref (ad g)] (RdP EC T D ad (69 + K) M)) (QcR Q1) 0 0 (fun _ => False) := by
  refine st_R (by decide) (Nat.le_of_ble_eq_true rfl) (fun p e s m args below meth c ls C hr hlk hP hl => ?_)
  have hl : lv_has ls 1 [(0, .ref (ad g))] := hl
  have hx := C.x
  have hb := C.b
  delta P_X2_isLocked at hB
  refine lv_aload_n hx hb dX2_isLocked_0 rfl (lv_at hl 0 rfl) ?_
  refine gf_X2_10 C hP hg tw_1_155 dX2_isLocked_1 ?_
  refine lv_aload_n hx hb dX2_isLocked_4 rfl (lv_at hl 0 rfl) ?_
  refine gf_X2_13 C hP hg tw_1_161 dX2_isLocked_5 ?_
  refine lv_icmp_lt (tgt := 26) hx hb dX2_isLocked_8 (by decide) (fun q1 => ?_) (fun q1 => ?_)
  · have hB := hB.1 q1
    refine lv_iconst (v := 0) hx hb dX2_isLocked_26 (by decide) ?_
    exact e_zR C.1 hr hlk dX2_isLocked_27 (Or.inl rfl) hB
  · have hB := hB.2 q1
    refine lv_aload_n hx hb dX2_isLocked_11 rfl (lv_at hl 0 rfl) ?_
    refine gf_X2_10 C hP hg tw_1_155 dX2_isLocked_12 ?_
    refine lv_aload_n hx hb dX2_isLocked_15 rfl (lv_at hl 0 rfl) ?_
    refine gf_X2_14 C hP hg tw_1_163 dX2_isLocked_16 ?_
    refine lv_icmp_ge (tgt := 26) hx hb dX2_isLocked_19 (by decide) (fun q2 => ?_) (fun q2 => ?_)
    · have hB := hB.1 q2
      refine lv_iconst (v := 0) hx hb dX2_isLocked_26 (by decide) ?_
      exact e_zR C.1 hr hlk dX2_isLocked_27 (Or.inl rfl) hB
    · have hB := hB.2 q2
      refine lv_iconst (v := 1) hx hb dX2_isLocked_22 (by decide) ?_
      refine lv_goto (tgt := 27) hx hb dX2_isLocked_23 (by decide) ?_
      exact e_zR C.1 hr hlk dX2_isLocked_27 (Or.inr rfl) hB
set_option maxRecDepth 100000 in
set_option maxHeartbeats 4000000 in
theorem v_X2_isLocked {K : Nat} {M : Mem} {g : Nat} {Q1 : Int32 → Prop} (C : Cx T D p s m args c cc nL own) (hls : ls.size = nL) (hP : Pw EC T D ad (69 + K) M H) (hg : isH g) (hlink : Cond.methodLink own index yX2_isLocked ∈ TB) (hR : 1 + 1 ≤ R.frames ∧ 8 + (1 + 11) + 48 * 1 ≤ R.locals) (hcs : cells ≤ R.cells ∧ slots ≤ R.slots) (hcat : (rest.map fun v => v.category).sum ≤ 8) (hdg : decode cc pc = .ok (.invokevirtual index, 3)) (hB : P_X2_isLocked K M g Q1)
    (kk : ∀ r : Int32, Q1 r → W p l e R s m args below meth c H locs cells slots QQ (F0 m (pc + 3) ls (.int r :: rest))) : W p l e R s m args below meth c H locs cells slots QQ (F0 m pc ls (.ref (ad g) :: rest)) :=
  k_V (ci := 2) (n := 0) (c_X2_isLocked hg hB) tw_2_126 tw_2_124 tw_2_125 tw_1_10 ⟨rfl, by decide, by decide, by decide +kernel⟩ rfl rfl C hls hP (oH hg) hlink hR hcs hcat rfl hdg kk
def P_X2_canPull (K : Nat) (M : Mem) (g : Nat) (x1 : Int32) (x2 : Int32) (Q1 : Int32 → Prop) : Prop :=
  ((x1 = x2 → Q1 0) ∧
    (¬ x1 = x2 → vp_in x1 8 ∧ (((M (g + 3) x1.toNatClampNeg) < 0 → Q1 0) ∧
      (¬ (M (g + 3) x1.toNatClampNeg) < 0 → vp_in x1 8 ∧ vp_in x2 8 ∧ ((¬ (M (g + 3) x1.toNatClampNeg) = (M (g + 3) x2.toNatClampNeg) → Q1 0) ∧
        ((M (g + 3) x1.toNatClampNeg) = (M (g + 3) x2.toNatClampNeg) → vp_in x1 8 ∧ ((¬ (M (g + 4) x1.toNatClampNeg) = 0 → Q1 0) ∧
          ((M (g + 4) x1.toNatClampNeg) = 0 → vp_in x2 8 ∧ ((¬ (M (g + 4) x2.toNatClampNeg) = 0 → Q1 0) ∧
            ((M (g + 4) x2.toNatClampNeg) = 0 → vp_in x1 8 ∧ ((9 ≤ (M (g + 2) x1.toNatClampNeg) → Q1 0) ∧
              (¬ 9 ≤ (M (g + 2) x1.toNatClampNeg) → vp_in x2 8 ∧ (((M (g + 2) x2.toNatClampNeg) ≤ 0 → Q1 0) ∧
                (¬ (M (g + 2) x2.toNatClampNeg) ≤ 0 → Q1 1))))))))))))))
set_option maxRecDepth 100000 in
set_option maxHeartbeats 4000000 in
theorem c_X2_canPull {l : Launch} {T : Nat → ClassId} {D : va_G} {ad : Nat → Nat} {K : Nat} {M : Mem} {g : Nat} {x1 : Int32} {x2 : Int32} {Q1 : Int32 → Prop} (hg : isH g) (hB : P_X2_canPull K M g x1 x2 Q1) : Met l yX2_canPull (Cond.code yX2_canPull cX2_canPull 3 (some .boolean) :: TB) (RM 1) (va_Pc [.ref (ad g), .int x1, .int x2] (RdP EC T D ad (69 + K) M)) (QcR Q1) 0 0 (fun _ => False) := by
  refine st_R (by decide) (Nat.le_of_ble_eq_true rfl) (fun p e s m args below meth c ls C hr hlk hP hl => ?_)
  have hl : lv_has ls 3 [(0, .ref (ad g)), (1, .int x1), (2, .int x2)] := hl
  have hx := C.x
  have hb := C.b
  delta P_X2_canPull at hB
  refine lv_iload_n hx hb dX2_canPull_0 rfl (lv_at hl 1 rfl) ?_
  refine lv_iload_n hx hb dX2_canPull_1 rfl (lv_at hl 2 rfl) ?_
  refine lv_icmp_eq (tgt := 71) hx hb dX2_canPull_2 (by decide) (fun q1 => ?_) (fun q1 => ?_)
  · have hB := hB.1 q1
    refine lv_iconst (v := 0) hx hb dX2_canPull_71 (by decide) ?_
    exact e_zR C.1 hr hlk dX2_canPull_72 (Or.inl rfl) hB
  · have hB := hB.2 q1
    refine lv_aload_n hx hb dX2_canPull_5 rfl (lv_at hl 0 rfl) ?_
    refine gf_X2_5 C hP hg tw_1_142 dX2_canPull_6 ?_
    refine lv_iload_n hx hb dX2_canPull_9 rfl (lv_at hl 1 rfl) ?_
    obtain ⟨q2, hB⟩ := hB
    refine a_ld C hP (aH_3 hg) q2 dX2_canPull_10 ?_
    refine lv_if_lt (tgt := 71) hx hb dX2_canPull_11 (by decide) (fun q3 => ?_) (fun q3 => ?_)
    · have hB := hB.1 q3
      refine lv_iconst (v := 0) hx hb dX2_canPull_71 (by decide) ?_
      exact e_zR C.1 hr hlk dX2_canPull_72 (Or.inl rfl) hB
    · have hB := hB.2 q3
      refine lv_aload_n hx hb dX2_canPull_14 rfl (lv_at hl 0 rfl) ?_
      refine gf_X2_5 C hP hg tw_1_142 dX2_canPull_15 ?_
      refine lv_iload_n hx hb dX2_canPull_18 rfl (lv_at hl 1 rfl) ?_
      obtain ⟨q4, hB⟩ := hB
      refine a_ld C hP (aH_3 hg) q4 dX2_canPull_19 ?_
      refine lv_aload_n hx hb dX2_canPull_20 rfl (lv_at hl 0 rfl) ?_
      refine gf_X2_5 C hP hg tw_1_142 dX2_canPull_21 ?_
      refine lv_iload_n hx hb dX2_canPull_24 rfl (lv_at hl 2 rfl) ?_
      obtain ⟨q5, hB⟩ := hB
      refine a_ld C hP (aH_3 hg) q5 dX2_canPull_25 ?_
      refine lv_icmp_ne (tgt := 71) hx hb dX2_canPull_26 (by decide) (fun q6 => ?_) (fun q6 => ?_)
      · have hB := hB.1 q6
        refine lv_iconst (v := 0) hx hb dX2_canPull_71 (by decide) ?_
        exact e_zR C.1 hr hlk dX2_canPull_72 (Or.inl rfl) hB
      · have hB := hB.2 q6
        refine lv_aload_n hx hb dX2_canPull_29 rfl (lv_at hl 0 rfl) ?_
        refine gf_X2_6 C hP hg tw_1_145 dX2_canPull_30 ?_
        refine lv_iload_n hx hb dX2_canPull_33 rfl (lv_at hl 1 rfl) ?_
        obtain ⟨q7, hB⟩ := hB
        refine a_ld C hP (aH_4 hg) q7 dX2_canPull_34 ?_
        refine lv_if_ne (tgt := 71) hx hb dX2_canPull_35 (by decide) (fun q8 => ?_) (fun q8 => ?_)
        · have hB := hB.1 q8
          refine lv_iconst (v := 0) hx hb dX2_canPull_71 (by decide) ?_
          exact e_zR C.1 hr hlk dX2_canPull_72 (Or.inl rfl) hB
        · have hB := hB.2 q8
          refine lv_aload_n hx hb dX2_canPull_38 rfl (lv_at hl 0 rfl) ?_
          refine gf_X2_6 C hP hg tw_1_145 dX2_canPull_39 ?_
          refine lv_iload_n hx hb dX2_canPull_42 rfl (lv_at hl 2 rfl) ?_
          obtain ⟨q9, hB⟩ := hB
          refine a_ld C hP (aH_4 hg) q9 dX2_canPull_43 ?_
          refine lv_if_ne (tgt := 71) hx hb dX2_canPull_44 (by decide) (fun q10 => ?_) (fun q10 => ?_)
          · have hB := hB.1 q10
            refine lv_iconst (v := 0) hx hb dX2_canPull_71 (by decide) ?_
            exact e_zR C.1 hr hlk dX2_canPull_72 (Or.inl rfl) hB
          · have hB := hB.2 q10
            refine lv_aload_n hx hb dX2_canPull_47 rfl (lv_at hl 0 rfl) ?_
            refine gf_X2_4 C hP hg tw_1_139 dX2_canPull_48 ?_
            refine lv_iload_n hx hb dX2_canPull_51 rfl (lv_at hl 1 rfl) ?_
            obtain ⟨q11, hB⟩ := hB
            refine a_ld C hP (aH_2 hg) q11 dX2_canPull_52 ?_
            refine lv_bipush (v := 9) hx hb dX2_canPull_53 (by decide) ?_
            refine lv_icmp_ge (tgt := 71) hx hb dX2_canPull_55 (by decide) (fun q12 => ?_) (fun q12 => ?_)
            · have hB := hB.1 q12
              refine lv_iconst (v := 0) hx hb dX2_canPull_71 (by decide) ?_
              exact e_zR C.1 hr hlk dX2_canPull_72 (Or.inl rfl) hB
            · have hB := hB.2 q12
              refine lv_aload_n hx hb dX2_canPull_58 rfl (lv_at hl 0 rfl) ?_
              refine gf_X2_4 C hP hg tw_1_139 dX2_canPull_59 ?_
              refine lv_iload_n hx hb dX2_canPull_62 rfl (lv_at hl 2 rfl) ?_
              obtain ⟨q13, hB⟩ := hB
              refine a_ld C hP (aH_2 hg) q13 dX2_canPull_63 ?_
              refine lv_if_le (tgt := 71) hx hb dX2_canPull_64 (by decide) (fun q14 => ?_) (fun q14 => ?_)
              · have hB := hB.1 q14
                refine lv_iconst (v := 0) hx hb dX2_canPull_71 (by decide) ?_
                exact e_zR C.1 hr hlk dX2_canPull_72 (Or.inl rfl) hB
              · have hB := hB.2 q14
                refine lv_iconst (v := 1) hx hb dX2_canPull_67 (by decide) ?_
                refine lv_goto (tgt := 72) hx hb dX2_canPull_68 (by decide) ?_
                exact e_zR C.1 hr hlk dX2_canPull_72 (Or.inr rfl) hB
set_option maxRecDepth 100000 in
set_option maxHeartbeats 4000000 in
theorem v_X2_canPull {K : Nat} {M : Mem} {g : Nat} {x1 : Int32} {x2 : Int32} {Q1 : Int32 → Prop} (C : Cx T D p s m args c cc nL own) (hls : ls.size = nL) (hP : Pw EC T D ad (69 + K) M H) (hg : isH g) (hlink : Cond.methodLink own index yX2_canPull ∈ TB) (hR : 1 + 1 ≤ R.frames ∧ 8 + (3 + 11) + 48 * 1 ≤ R.locals) (hcs : cells ≤ R.cells ∧ slots ≤ R.slots) (hcat : (rest.map fun v => v.category).sum ≤ 8) (hdg : decode cc pc = .ok (.invokevirtual index, 3)) (hB : P_X2_canPull K M g x1 x2 Q1)
    (kk : ∀ r : Int32, Q1 r → W p l e R s m args below meth c H locs cells slots QQ (F0 m (pc + 3) ls (.int r :: rest))) : W p l e R s m args below meth c H locs cells slots QQ (F0 m pc ls (.int x2 :: .int x1 :: .ref (ad g) :: rest)) :=
  k_V (ci := 2) (n := 2) (c_X2_canPull hg hB) tw_2_130 tw_2_128 tw_2_129 tw_1_10 ⟨rfl, by decide, by decide, by decide +kernel⟩ rfl rfl C hls hP (oH hg) hlink hR hcs hcat rfl hdg kk
def P_X2_pullBy (K : Nat) (M : Mem) (g : Nat) (x1 : Int32) (x2 : Int32) (Q1 : Mem → Prop) : Prop :=
  vp_in x1 8 ∧ vp_in x1 8 ∧ ∀ M2 : Mem, M2 = sf M (g + 2) x1.toNatClampNeg ((M (g + 2) x1.toNatClampNeg) + 1) → vp_in x2 8 ∧ vp_in x2 8 ∧ ∀ M5 : Mem, M5 = sf M2 (g + 2) x2.toNatClampNeg ((M2 (g + 2) x2.toNatClampNeg) - 1) → Q1 M5
set_option maxRecDepth 100000 in
set_option maxHeartbeats 4000000 in
theorem c_X2_pullBy {l : Launch} {T : Nat → ClassId} {D : va_G} {ad : Nat → Nat} {K : Nat} {M : Mem} {g : Nat} {x1 : Int32} {x2 : Int32} {sz : Nat} {Q1 : Mem → Prop} (hg : isH g) (hB : P_X2_pullBy K M g x1 x2 Q1) : Met l yX2_pullBy (Cond.code yX2_pullBy cX2_pullBy 3 none :: TB) (RM 1) (va_Pc [.ref (ad g), .int x1, .int x2] (WrP EC T D ad (69 + K) M sz)) (QcV EC T D ad (69 + K) (AA ad (69 + K) sz) Q1) 0 0 (AA ad (69 + K) sz) := by
  refine st_W (by decide) (Nat.le_of_ble_eq_true rfl) (fun p e s m args below meth c ls C hr hlk hsz Z hl => ?_)
  have hl : lv_has ls 3 [(0, .ref (ad g)), (1, .int x1), (2, .int x2)] := hl
  generalize AA ad (69 + K) sz = A at Z ⊢
  have hx := C.x
  have hb := C.b
  delta P_X2_pullBy at hB
  refine lv_aload_n hx hb dX2_pullBy_0 rfl (lv_at hl 0 rfl) ?_
  refine gf_X2_4 C Z.1 hg tw_1_139 dX2_pullBy_1 ?_
  refine lv_iload_n hx hb dX2_pullBy_4 rfl (lv_at hl 1 rfl) ?_
  refine lv_dup2_11 hx hb dX2_pullBy_5 rfl rfl ?_
  obtain ⟨q1, hB⟩ := hB
  refine a_ld C Z.1 (aH_2 hg) q1 dX2_pullBy_6 ?_
  refine lv_iconst (v := 1) hx hb dX2_pullBy_7 (by decide) ?_
  refine lv_iadd hx hb dX2_pullBy_8 ?_
  obtain ⟨q3, hB⟩ := hB
  refine a_st C Z (aH_2 hg) q3 dX2_pullBy_9 (fun M2 H locs eM2 Z => ?_)
  have hB := hB M2 eM2
  refine lv_aload_n hx hb dX2_pullBy_10 rfl (lv_at hl 0 rfl) ?_
  refine gf_X2_4 C Z.1 hg tw_1_139 dX2_pullBy_11 ?_
  refine lv_iload_n hx hb dX2_pullBy_14 rfl (lv_at hl 2 rfl) ?_
  refine lv_dup2_11 hx hb dX2_pullBy_15 rfl rfl ?_
  obtain ⟨q4, hB⟩ := hB
  refine a_ld C Z.1 (aH_2 hg) q4 dX2_pullBy_16 ?_
  refine lv_iconst (v := 1) hx hb dX2_pullBy_17 (by decide) ?_
  refine lv_isub hx hb dX2_pullBy_18 ?_
  obtain ⟨q6, hB⟩ := hB
  refine a_st C Z (aH_2 hg) q6 dX2_pullBy_19 (fun M5 H locs eM5 Z => ?_)
  have hB := hB M5 eM5
  exact e_vW C hr hlk Z dX2_pullBy_20 hB
set_option maxRecDepth 100000 in
set_option maxHeartbeats 4000000 in
theorem v_X2_pullBy {K : Nat} {M : Mem} {g : Nat} {x1 : Int32} {x2 : Int32} {Q1 : Mem → Prop} (C : Cx T D p s m args c cc nL own) (hls : ls.size = nL) (Z : Zz EC T D ad (69 + K) A H0 M H locs) (hg : isH g) (hlink : Cond.methodLink own index yX2_pullBy ∈ TB) (hR : 1 + 1 ≤ R.frames ∧ 8 + (3 + 11) + 48 * 1 ≤ R.locals) (hcs : cells ≤ R.cells ∧ slots ≤ R.slots) (hcat : (rest.map fun v => v.category).sum ≤ 8) (hdg : decode cc pc = .ok (.invokevirtual index, 3)) (hB : P_X2_pullBy K M g x1 x2 Q1)
    (kk : ∀ (M1 : Mem) (H1 : Heap) (locs1 : List Loc), Q1 M1 → Zz EC T D ad (69 + K) A H0 M1 H1 locs1 → W p l e R s m args below meth c H1 locs1 cells slots QQ (F0 m (pc + 3) ls rest)) : W p l e R s m args below meth c H locs cells slots QQ (F0 m pc ls (.int x2 :: .int x1 :: .ref (ad g) :: rest)) :=
  k_VV (ci := 2) (n := 2) (c_X2_pullBy hg hB) tw_2_134 tw_2_132 tw_2_133 tw_1_10 ⟨rfl, by decide, by decide, by decide +kernel⟩ rfl rfl C hls Z (oH hg) hlink hR hcs hcat rfl hdg kk
def P_X11_pull (K : Nat) (M : Mem) (x1 : Int32) (x2 : Int32) (Q1 : Int32 → Mem → Prop) : Prop :=
  P_X11_isWindow K M x1 (fun v1 => ((v1 = 0 → P_X11_error K M 1 (fun v3 M4 => Q1 v3 M4)) ∧
    (¬ v1 = 0 → P_X11_isWindow K M x2 (fun v5 => ((¬ v5 = 0 → P_X2_isLocked K M 30 (fun v7 => ((¬ v7 = 0 → P_X11_error K M 3 (fun v9 M10 => Q1 v9 M10)) ∧
        (v7 = 0 → P_X2_canPull K M 30 x1 x2 (fun v11 => ((¬ v11 = 0 → P_X2_pullBy K M 30 x1 x2 (fun M13 => vp_in x1 8 ∧ Q1 (M13 32 x1.toNatClampNeg) M13)) ∧
          (v11 = 0 → P_X11_error K M 3 (fun v15 M16 => Q1 v15 M16)))))))) ∧
      (v5 = 0 → P_X11_error K M 1 (fun v17 M18 => Q1 v17 M18)))))))
set_option maxRecDepth 100000 in
set_option maxHeartbeats 4000000 in
theorem c_X11_pull {l : Launch} {T : Nat → ClassId} {D : va_G} {ad : Nat → Nat} {K : Nat} {M : Mem} {x1 : Int32} {x2 : Int32} {sz : Nat} {Q1 : Int32 → Mem → Prop} (hB : P_X11_pull K M x1 x2 Q1) : Met l yX11_pull (Cond.code yX11_pull cX11_pull 3 (some .int) :: TB) (RM 2) (va_Pc [.ref (ad 0), .int x1, .int x2] (WrP EC T D ad (69 + K) M sz)) (QcW EC T D ad (69 + K) (AA ad (69 + K) sz) Q1) 0 0 (AA ad (69 + K) sz) := by
  refine st_W (by decide) (Nat.le_of_ble_eq_true rfl) (fun p e s m args below meth c ls C hr hlk hsz Z hl => ?_)
  have hl : lv_has ls 3 [(0, .ref (ad 0)), (1, .int x1), (2, .int x2)] := hl
  generalize AA ad (69 + K) sz = A at Z ⊢
  have hx := C.x
  have hb := C.b
  delta P_X11_pull at hB
  refine lv_aload_n hx hb dX11_pull_0 rfl (lv_at hl 0 rfl) ?_
  refine lv_iload_n hx hb dX11_pull_1 rfl (lv_at hl 1 rfl) ?_
  refine v_X11_isWindow C hl.1 Z.1 tw_2_95 ⟨Nat.le_of_ble_eq_true rfl, Nat.le_of_ble_eq_true rfl⟩ ⟨Nat.le_refl _, Nat.le_refl _⟩ (Nat.le_of_ble_eq_true rfl) dX11_pull_2 hB (fun v1 hB => ?_)
  refine lv_if_eq (tgt := 16) hx hb dX11_pull_5 (by decide) (fun q2 => ?_) (fun q2 => ?_)
  · have hB := hB.1 q2
    refine lv_aload_n hx hb dX11_pull_16 rfl (lv_at hl 0 rfl) ?_
    refine lv_iconst (v := 1) hx hb dX11_pull_17 (by decide) ?_
    refine v_X11_error C hl.1 Z tw_2_56 ⟨Nat.le_of_ble_eq_true rfl, Nat.le_of_ble_eq_true rfl⟩ ⟨Nat.le_refl _, Nat.le_refl _⟩ (Nat.le_of_ble_eq_true rfl) dX11_pull_18 hB (fun v3 M4 H locs hB Z => ?_)
    exact e_iW C hr hlk Z dX11_pull_21 hB
  · have hB := hB.2 q2
    refine lv_aload_n hx hb dX11_pull_8 rfl (lv_at hl 0 rfl) ?_
    refine lv_iload_n hx hb dX11_pull_9 rfl (lv_at hl 2 rfl) ?_
    refine v_X11_isWindow C hl.1 Z.1 tw_2_95 ⟨Nat.le_of_ble_eq_true rfl, Nat.le_of_ble_eq_true rfl⟩ ⟨Nat.le_refl _, Nat.le_refl _⟩ (Nat.le_of_ble_eq_true rfl) dX11_pull_10 hB (fun v5 hB => ?_)
    refine lv_if_ne (tgt := 22) hx hb dX11_pull_13 (by decide) (fun q6 => ?_) (fun q6 => ?_)
    · have hB := hB.1 q6
      refine lv_aload_n hx hb dX11_pull_22 rfl (lv_at hl 0 rfl) ?_
      refine gf_X11_5 C Z.1 tw_2_17 dX11_pull_23 ?_
      refine v_X2_isLocked C hl.1 Z.1 isH_0 tw_2_123 ⟨Nat.le_of_ble_eq_true rfl, Nat.le_of_ble_eq_true rfl⟩ ⟨Nat.le_refl _, Nat.le_refl _⟩ (Nat.le_of_ble_eq_true rfl) dX11_pull_26 hB (fun v7 hB => ?_)
      refine lv_if_ne (tgt := 44) hx hb dX11_pull_29 (by decide) (fun q8 => ?_) (fun q8 => ?_)
      · have hB := hB.1 q8
        refine lv_aload_n hx hb dX11_pull_44 rfl (lv_at hl 0 rfl) ?_
        refine lv_iconst (v := 3) hx hb dX11_pull_45 (by decide) ?_
        refine v_X11_error C hl.1 Z tw_2_56 ⟨Nat.le_of_ble_eq_true rfl, Nat.le_of_ble_eq_true rfl⟩ ⟨Nat.le_refl _, Nat.le_refl _⟩ (Nat.le_of_ble_eq_true rfl) dX11_pull_46 hB (fun v9 M10 H locs hB Z => ?_)
        exact e_iW C hr hlk Z dX11_pull_49 hB
      · have hB := hB.2 q8
        refine lv_aload_n hx hb dX11_pull_32 rfl (lv_at hl 0 rfl) ?_
        refine gf_X11_5 C Z.1 tw_2_17 dX11_pull_33 ?_
        refine lv_iload_n hx hb dX11_pull_36 rfl (lv_at hl 1 rfl) ?_
        refine lv_iload_n hx hb dX11_pull_37 rfl (lv_at hl 2 rfl) ?_
        refine v_X2_canPull C hl.1 Z.1 isH_0 tw_2_127 ⟨Nat.le_of_ble_eq_true rfl, Nat.le_of_ble_eq_true rfl⟩ ⟨Nat.le_refl _, Nat.le_refl _⟩ (Nat.le_of_ble_eq_true rfl) dX11_pull_38 hB (fun v11 hB => ?_)
        refine lv_if_ne (tgt := 50) hx hb dX11_pull_41 (by decide) (fun q12 => ?_) (fun q12 => ?_)
        · have hB := hB.1 q12
          refine lv_aload_n hx hb dX11_pull_50 rfl (lv_at hl 0 rfl) ?_
          refine gf_X11_5 C Z.1 tw_2_17 dX11_pull_51 ?_
          refine lv_iload_n hx hb dX11_pull_54 rfl (lv_at hl 1 rfl) ?_
          refine lv_iload_n hx hb dX11_pull_55 rfl (lv_at hl 2 rfl) ?_
          refine v_X2_pullBy C hl.1 Z isH_0 tw_2_131 ⟨Nat.le_of_ble_eq_true rfl, Nat.le_of_ble_eq_true rfl⟩ ⟨Nat.le_refl _, Nat.le_refl _⟩ (Nat.le_of_ble_eq_true rfl) dX11_pull_56 hB (fun M13 H locs hB Z => ?_)
          refine lv_aload_n hx hb dX11_pull_59 rfl (lv_at hl 0 rfl) ?_
          refine gf_X11_5 C Z.1 tw_2_17 dX11_pull_60 ?_
          refine gf_X2_4 C Z.1 isH_0 tw_1_141 dX11_pull_63 ?_
          refine lv_iload_n hx hb dX11_pull_66 rfl (lv_at hl 1 rfl) ?_
          obtain ⟨q14, hB⟩ := hB
          refine a_ld C Z.1 (aH_2 isH_0) q14 dX11_pull_67 ?_
          exact e_iW C hr hlk Z dX11_pull_68 hB
        · have hB := hB.2 q12
          refine lv_aload_n hx hb dX11_pull_44 rfl (lv_at hl 0 rfl) ?_
          refine lv_iconst (v := 3) hx hb dX11_pull_45 (by decide) ?_
          refine v_X11_error C hl.1 Z tw_2_56 ⟨Nat.le_of_ble_eq_true rfl, Nat.le_of_ble_eq_true rfl⟩ ⟨Nat.le_refl _, Nat.le_refl _⟩ (Nat.le_of_ble_eq_true rfl) dX11_pull_46 hB (fun v15 M16 H locs hB Z => ?_)
          exact e_iW C hr hlk Z dX11_pull_49 hB
    · have hB := hB.2 q6
      refine lv_aload_n hx hb dX11_pull_16 rfl (lv_at hl 0 rfl) ?_
      refine lv_iconst (v := 1) hx hb dX11_pull_17 (by decide) ?_
      refine v_X11_error C hl.1 Z tw_2_56 ⟨Nat.le_of_ble_eq_true rfl, Nat.le_of_ble_eq_true rfl⟩ ⟨Nat.le_refl _, Nat.le_refl _⟩ (Nat.le_of_ble_eq_true rfl) dX11_pull_18 hB (fun v17 M18 H locs hB Z => ?_)
      exact e_iW C hr hlk Z dX11_pull_21 hB
set_option maxRecDepth 100000 in
set_option maxHeartbeats 4000000 in
theorem v_X11_pull {K : Nat} {M : Mem} {x1 : Int32} {x2 : Int32} {Q1 : Int32 → Mem → Prop} (C : Cx T D p s m args c cc nL own) (hls : ls.size = nL) (Z : Zz EC T D ad (69 + K) A H0 M H locs) (hlink : Cond.methodLink own index yX11_pull ∈ TB) (hR : 2 + 1 ≤ R.frames ∧ 8 + (3 + 11) + 48 * 2 ≤ R.locals) (hcs : cells ≤ R.cells ∧ slots ≤ R.slots) (hcat : (rest.map fun v => v.category).sum ≤ 8) (hdg : decode cc pc = .ok (.invokevirtual index, 3)) (hB : P_X11_pull K M x1 x2 Q1)
    (kk : ∀ (r : Int32) (M1 : Mem) (H1 : Heap) (locs1 : List Loc), Q1 r M1 → Zz EC T D ad (69 + K) A H0 M1 H1 locs1 → W p l e R s m args below meth c H1 locs1 cells slots QQ (F0 m (pc + 3) ls (.int r :: rest))) : W p l e R s m args below meth c H locs cells slots QQ (F0 m pc ls (.int x2 :: .int x1 :: .ref (ad 0) :: rest)) :=
  k_VW (ci := 11) (n := 2) (c_X11_pull hB) tw_2_122 tw_2_120 tw_2_121 tw_1_1 ⟨rfl, by decide, by decide, by decide +kernel⟩ rfl rfl C hls Z oO hlink hR hcs hcat rfl hdg kk
def P_X2_hangOtherwise (K : Nat) (M : Mem) (g : Nat) (x1 : Int32) (x2 : Int32) (Q1 : Mem → Prop) : Prop :=
  vp_in x1 8 ∧ ∀ x3_2 : Int32, x3_2 = M (g + 3) x1.toNatClampNeg → vp_in x2 8 ∧ vp_in x1 8 ∧ ∀ M4 : Mem, M4 = sf M (g + 3) x1.toNatClampNeg (M (g + 3) x2.toNatClampNeg) → vp_in x2 8 ∧ ∀ M6 : Mem, M6 = sf M4 (g + 3) x2.toNatClampNeg x3_2 → Q1 M6
set_option maxRecDepth 100000 in
set_option maxHeartbeats 4000000 in
theorem c_X2_hangOtherwise {l : Launch} {T : Nat → ClassId} {D : va_G} {ad : Nat → Nat} {K : Nat} {M : Mem} {g : Nat} {x1 : Int32} {x2 : Int32} {sz : Nat} {Q1 : Mem → Prop} (hg : isH g) (hB : P_X2_hangOtherwise K M g x1 x2 Q1) : Met l yX2_hangOtherwise (Cond.code yX2_hangOtherwise cX2_hangOtherwise 4 none :: TB) (RM 1) (va_Pc [.ref (ad g), .int x1, .int x2] (WrP EC T D ad (69 + K) M sz)) (QcV EC T D ad (69 + K) (AA ad (69 + K) sz) Q1) 0 0 (AA ad (69 + K) sz) := by
  refine st_W (by decide) (Nat.le_of_ble_eq_true rfl) (fun p e s m args below meth c ls C hr hlk hsz Z hl => ?_)
  have hl : lv_has ls 4 [(0, .ref (ad g)), (1, .int x1), (2, .int x2)] := hl
  generalize AA ad (69 + K) sz = A at Z ⊢
  have hx := C.x
  have hb := C.b
  delta P_X2_hangOtherwise at hB
  refine lv_aload_n hx hb dX2_hangOtherwise_0 rfl (lv_at hl 0 rfl) ?_
  refine gf_X2_5 C Z.1 hg tw_1_142 dX2_hangOtherwise_1 ?_
  refine lv_iload_n hx hb dX2_hangOtherwise_4 rfl (lv_at hl 1 rfl) ?_
  obtain ⟨q1, hB⟩ := hB
  refine a_ld C Z.1 (aH_3 hg) q1 dX2_hangOtherwise_5 ?_
  refine lv_topi (fun x3_2 ex3_2 => ?_)
  have hB := hB x3_2 ex3_2
  refine lv_istore_n (lv' := [(3, .int x3_2), (0, .ref (ad g)), (1, .int x1), (2, .int x2)]) hx hb dX2_hangOtherwise_6 rfl hl (by decide) rfl (fun ls hl => ?_)
  refine lv_aload_n hx hb dX2_hangOtherwise_7 rfl (lv_at hl 1 rfl) ?_
  refine gf_X2_5 C Z.1 hg tw_1_142 dX2_hangOtherwise_8 ?_
  refine lv_iload_n hx hb dX2_hangOtherwise_11 rfl (lv_at hl 2 rfl) ?_
  refine lv_aload_n hx hb dX2_hangOtherwise_12 rfl (lv_at hl 1 rfl) ?_
  refine gf_X2_5 C Z.1 hg tw_1_142 dX2_hangOtherwise_13 ?_
  refine lv_iload_n hx hb dX2_hangOtherwise_16 rfl (lv_at hl 3 rfl) ?_
  obtain ⟨q3, hB⟩ := hB
  refine a_ld C Z.1 (aH_3 hg) q3 dX2_hangOtherwise_17 ?_
  obtain ⟨q5, hB⟩ := hB
  refine a_st C Z (aH_3 hg) q5 dX2_hangOtherwise_18 (fun M4 H locs eM4 Z => ?_)
  have hB := hB M4 eM4
  refine lv_aload_n hx hb dX2_hangOtherwise_19 rfl (lv_at hl 1 rfl) ?_
  refine gf_X2_5 C Z.1 hg tw_1_142 dX2_hangOtherwise_20 ?_
  refine lv_iload_n hx hb dX2_hangOtherwise_23 rfl (lv_at hl 3 rfl) ?_
  refine lv_iload_n hx hb dX2_hangOtherwise_24 rfl (lv_at hl 0 rfl) ?_
  obtain ⟨q7, hB⟩ := hB
  refine a_st C Z (aH_3 hg) q7 dX2_hangOtherwise_25 (fun M6 H locs eM6 Z => ?_)
  have hB := hB M6 eM6
  exact e_vW C hr hlk Z dX2_hangOtherwise_26 hB
set_option maxRecDepth 100000 in
set_option maxHeartbeats 4000000 in
theorem v_X2_hangOtherwise {K : Nat} {M : Mem} {g : Nat} {x1 : Int32} {x2 : Int32} {Q1 : Mem → Prop} (C : Cx T D p s m args c cc nL own) (hls : ls.size = nL) (Z : Zz EC T D ad (69 + K) A H0 M H locs) (hg : isH g) (hlink : Cond.methodLink own index yX2_hangOtherwise ∈ TB) (hR : 1 + 1 ≤ R.frames ∧ 8 + (4 + 11) + 48 * 1 ≤ R.locals) (hcs : cells ≤ R.cells ∧ slots ≤ R.slots) (hcat : (rest.map fun v => v.category).sum ≤ 8) (hdg : decode cc pc = .ok (.invokevirtual index, 3)) (hB : P_X2_hangOtherwise K M g x1 x2 Q1)
    (kk : ∀ (M1 : Mem) (H1 : Heap) (locs1 : List Loc), Q1 M1 → Zz EC T D ad (69 + K) A H0 M1 H1 locs1 → W p l e R s m args below meth c H1 locs1 cells slots QQ (F0 m (pc + 3) ls rest)) : W p l e R s m args below meth c H locs cells slots QQ (F0 m pc ls (.int x2 :: .int x1 :: .ref (ad g) :: rest)) :=
  k_VV (ci := 2) (n := 2) (c_X2_hangOtherwise hg hB) tw_2_142 tw_2_140 tw_2_141 tw_1_10 ⟨rfl, by decide, by decide, by decide +kernel⟩ rfl rfl C hls Z (oH hg) hlink hR hcs hcat rfl hdg kk
def P_X11_swap (K : Nat) (M : Mem) (x1 : Int32) (x2 : Int32) (Q1 : Int32 → Mem → Prop) : Prop :=
  P_X11_isWindow K M x1 (fun v1 => ((v1 = 0 → P_X11_error K M 1 (fun v3 M4 => Q1 v3 M4)) ∧
    (¬ v1 = 0 → P_X11_isWindow K M x2 (fun v5 => ((¬ v5 = 0 → P_X2_hangOtherwise K M 30 x1 x2 (fun M7 => Q1 1 M7)) ∧
      (v5 = 0 → P_X11_error K M 1 (fun v8 M9 => Q1 v8 M9)))))))
set_option maxRecDepth 100000 in
set_option maxHeartbeats 4000000 in
theorem c_X11_swap {l : Launch} {T : Nat → ClassId} {D : va_G} {ad : Nat → Nat} {K : Nat} {M : Mem} {x1 : Int32} {x2 : Int32} {sz : Nat} {Q1 : Int32 → Mem → Prop} (hB : P_X11_swap K M x1 x2 Q1) : Met l yX11_swap (Cond.code yX11_swap cX11_swap 3 (some .int) :: TB) (RM 2) (va_Pc [.ref (ad 0), .int x1, .int x2] (WrP EC T D ad (69 + K) M sz)) (QcW EC T D ad (69 + K) (AA ad (69 + K) sz) Q1) 0 0 (AA ad (69 + K) sz) := by
  refine st_W (by decide) (Nat.le_of_ble_eq_true rfl) (fun p e s m args below meth c ls C hr hlk hsz Z hl => ?_)
  have hl : lv_has ls 3 [(0, .ref (ad 0)), (1, .int x1), (2, .int x2)] := hl
  generalize AA ad (69 + K) sz = A at Z ⊢
  have hx := C.x
  have hb := C.b
  delta P_X11_swap at hB
  refine lv_aload_n hx hb dX11_swap_0 rfl (lv_at hl 0 rfl) ?_
  refine lv_iload_n hx hb dX11_swap_1 rfl (lv_at hl 1 rfl) ?_
  refine v_X11_isWindow C hl.1 Z.1 tw_2_95 ⟨Nat.le_of_ble_eq_true rfl, Nat.le_of_ble_eq_true rfl⟩ ⟨Nat.le_refl _, Nat.le_refl _⟩ (Nat.le_of_ble_eq_true rfl) dX11_swap_2 hB (fun v1 hB => ?_)
  refine lv_if_eq (tgt := 16) hx hb dX11_swap_5 (by decide) (fun q2 => ?_) (fun q2 => ?_)
  · have hB := hB.1 q2
    refine lv_aload_n hx hb dX11_swap_16 rfl (lv_at hl 0 rfl) ?_
    refine lv_iconst (v := 1) hx hb dX11_swap_17 (by decide) ?_
    refine v_X11_error C hl.1 Z tw_2_56 ⟨Nat.le_of_ble_eq_true rfl, Nat.le_of_ble_eq_true rfl⟩ ⟨Nat.le_refl _, Nat.le_refl _⟩ (Nat.le_of_ble_eq_true rfl) dX11_swap_18 hB (fun v3 M4 H locs hB Z => ?_)
    exact e_iW C hr hlk Z dX11_swap_21 hB
  · have hB := hB.2 q2
    refine lv_aload_n hx hb dX11_swap_8 rfl (lv_at hl 0 rfl) ?_
    refine lv_iload_n hx hb dX11_swap_9 rfl (lv_at hl 2 rfl) ?_
    refine v_X11_isWindow C hl.1 Z.1 tw_2_95 ⟨Nat.le_of_ble_eq_true rfl, Nat.le_of_ble_eq_true rfl⟩ ⟨Nat.le_refl _, Nat.le_refl _⟩ (Nat.le_of_ble_eq_true rfl) dX11_swap_10 hB (fun v5 hB => ?_)
    refine lv_if_ne (tgt := 22) hx hb dX11_swap_13 (by decide) (fun q6 => ?_) (fun q6 => ?_)
    · have hB := hB.1 q6
      refine lv_aload_n hx hb dX11_swap_22 rfl (lv_at hl 0 rfl) ?_
      refine gf_X11_5 C Z.1 tw_2_17 dX11_swap_23 ?_
      refine lv_iload_n hx hb dX11_swap_26 rfl (lv_at hl 1 rfl) ?_
      refine lv_iload_n hx hb dX11_swap_27 rfl (lv_at hl 2 rfl) ?_
      refine v_X2_hangOtherwise C hl.1 Z isH_0 tw_2_139 ⟨Nat.le_of_ble_eq_true rfl, Nat.le_of_ble_eq_true rfl⟩ ⟨Nat.le_refl _, Nat.le_refl _⟩ (Nat.le_of_ble_eq_true rfl) dX11_swap_28 hB (fun M7 H locs hB Z => ?_)
      refine lv_iconst (v := 1) hx hb dX11_swap_31 (by decide) ?_
      exact e_iW C hr hlk Z dX11_swap_32 hB
    · have hB := hB.2 q6
      refine lv_aload_n hx hb dX11_swap_16 rfl (lv_at hl 0 rfl) ?_
      refine lv_iconst (v := 1) hx hb dX11_swap_17 (by decide) ?_
      refine v_X11_error C hl.1 Z tw_2_56 ⟨Nat.le_of_ble_eq_true rfl, Nat.le_of_ble_eq_true rfl⟩ ⟨Nat.le_refl _, Nat.le_refl _⟩ (Nat.le_of_ble_eq_true rfl) dX11_swap_18 hB (fun v8 M9 H locs hB Z => ?_)
      exact e_iW C hr hlk Z dX11_swap_21 hB
set_option maxRecDepth 100000 in
set_option maxHeartbeats 4000000 in
theorem v_X11_swap {K : Nat} {M : Mem} {x1 : Int32} {x2 : Int32} {Q1 : Int32 → Mem → Prop} (C : Cx T D p s m args c cc nL own) (hls : ls.size = nL) (Z : Zz EC T D ad (69 + K) A H0 M H locs) (hlink : Cond.methodLink own index yX11_swap ∈ TB) (hR : 2 + 1 ≤ R.frames ∧ 8 + (3 + 11) + 48 * 2 ≤ R.locals) (hcs : cells ≤ R.cells ∧ slots ≤ R.slots) (hcat : (rest.map fun v => v.category).sum ≤ 8) (hdg : decode cc pc = .ok (.invokevirtual index, 3)) (hB : P_X11_swap K M x1 x2 Q1)
    (kk : ∀ (r : Int32) (M1 : Mem) (H1 : Heap) (locs1 : List Loc), Q1 r M1 → Zz EC T D ad (69 + K) A H0 M1 H1 locs1 → W p l e R s m args below meth c H1 locs1 cells slots QQ (F0 m (pc + 3) ls (.int r :: rest))) : W p l e R s m args below meth c H locs cells slots QQ (F0 m pc ls (.int x2 :: .int x1 :: .ref (ad 0) :: rest)) :=
  k_VW (ci := 11) (n := 2) (c_X11_swap hB) tw_2_138 tw_2_136 tw_2_137 tw_1_1 ⟨rfl, by decide, by decide, by decide +kernel⟩ rfl rfl C hls Z oO hlink hR hcs hcat rfl hdg kk
def B_X2_openIn_4 (K : Nat) (g : Nat) (M : Mem) (Q1 : Int32 → Prop) (x1 : Int32) (x2 : Int32) (x3 : Int32) : Prop :=
  ∀ X4 : Int32 → Int32 → Prop, (∀ (x2 : Int32) (x3 : Int32), ((((M g 0) ≤ x3 → Q1 x2) ∧
    (¬ (M g 0) ≤ x3 → vp_in x3 8 ∧ ((¬ (M (g + 1) x3.toNatClampNeg) = x1 → ∀ x3_4 : Int32, x3_4 = x3 + 1 → X4 x2 x3_4) ∧
      ((M (g + 1) x3.toNatClampNeg) = x1 → vp_in x3 8 ∧ ∀ x2_6 : Int32, x2_6 = x2 + (M (g + 2) x3.toNatClampNeg) → ∀ x3_7 : Int32, x3_7 = x3 + 1 → X4 x2_6 x3_7))))) → X4 x2 x3) → X4 x2 x3
def P_X2_openIn (K : Nat) (M : Mem) (g : Nat) (x1 : Int32) (Q1 : Int32 → Prop) : Prop :=
  B_X2_openIn_4 K g M Q1 x1 0 0
set_option maxRecDepth 100000 in
set_option maxHeartbeats 4000000 in
theorem w_X2_openIn_4 {K : Nat} {g : Nat} {M : Mem} {Q1 : Int32 → Prop} {x1 : Int32} {x2 : Int32} {x3 : Int32} (C : Cx T D p s m args c cX2_openIn 4 "OneOfTwo$House") (hr : meth.sig.returnType = (some .int)) (hlk : meth.locks = false) (hP : Pw EC T D ad (69 + K) M s.heap) (hg : isH g) {ls : Array Slot} (hl : lv_has ls 4 [(0, .ref (ad g)), (1, .int x1), (2, .int x2), (3, .int x3)]) (hB : B_X2_openIn_4 K g M Q1 x1 x2 x3) : W p l e (RM 1) s m args below meth c s.heap [] 0 0 (MQ below (QcR Q1) args s 0 0 (fun _ => False)) (F0 m 4 ls []) := by
  delta B_X2_openIn_4 at hB
  obtain ⟨X4, hX4, hY4⟩ : ∃ X4 : Int32 → Int32 → Prop, (∀ (x2 : Int32) (x3 : Int32), X4 x2 x3 → ∀ (ls : Array Slot), lv_has ls 4 [(0, .ref (ad g)), (1, .int x1), (2, .int x2), (3, .int x3)] → W p l e (RM 1) s m args below meth c s.heap [] 0 0 (MQ below (QcR Q1) args s 0 0 (fun _ => False)) (F0 m 4 ls [])) ∧ (∀ (x2 : Int32) (x3 : Int32), (∀ (ls : Array Slot), lv_has ls 4 [(0, .ref (ad g)), (1, .int x1), (2, .int x2), (3, .int x3)] → W p l e (RM 1) s m args below meth c s.heap [] 0 0 (MQ below (QcR Q1) args s 0 0 (fun _ => False)) (F0 m 4 ls [])) → X4 x2 x3) := ⟨fun (x2 : Int32) (x3 : Int32) => ∀ (ls : Array Slot), lv_has ls 4 [(0, .ref (ad g)), (1, .int x1), (2, .int x2), (3, .int x3)] → W p l e (RM 1) s m args below meth c s.heap [] 0 0 (MQ below (QcR Q1) args s 0 0 (fun _ => False)) (F0 m 4 ls []), fun _ _ h => h, fun _ _ h => h⟩
  refine hX4 _ _ (hB X4 (fun x2 x3 hB => hY4 _ _ (fun ls hl => ?_))) _ hl
  have hx := C.x
  have hb := C.b
  refine lv_iload_n hx hb dX2_openIn_4 rfl (lv_at hl 3 rfl) ?_
  refine lv_aload_n hx hb dX2_openIn_5 rfl (lv_at hl 0 rfl) ?_
  refine gf_X2_0 C hP hg tw_1_127 dX2_openIn_6 ?_
  refine lv_icmp_ge (tgt := 37) hx hb dX2_openIn_9 (by decide) (fun q1 => ?_) (fun q1 => ?_)
  · have hB := hB.1 q1
    refine lv_iload_n hx hb dX2_openIn_37 rfl (lv_at hl 2 rfl) ?_
    exact e_iR C.1 hr hlk dX2_openIn_38 hB
  · have hB := hB.2 q1
    refine lv_aload_n hx hb dX2_openIn_12 rfl (lv_at hl 0 rfl) ?_
    refine gf_X2_3 C hP hg tw_1_136 dX2_openIn_13 ?_
    refine lv_iload_n hx hb dX2_openIn_16 rfl (lv_at hl 3 rfl) ?_
    obtain ⟨q2, hB⟩ := hB
    refine a_ld C hP (aH_1 hg) q2 dX2_openIn_17 ?_
    refine lv_iload_n hx hb dX2_openIn_18 rfl (lv_at hl 1 rfl) ?_
    refine lv_icmp_ne (tgt := 31) hx hb dX2_openIn_19 (by decide) (fun q3 => ?_) (fun q3 => ?_)
    · have hB := hB.1 q3
      obtain ⟨x3_4, ex3_4⟩ : ∃ y : Int32, y = x3 + 1 := ⟨_, rfl⟩
      have hB := hB x3_4 ex3_4
      refine lv_iinc (v := x3_4) (lv' := [(3, .int x3_4), (0, .ref (ad g)), (1, .int x1), (2, .int x2)]) hx hb dX2_openIn_31 hl (k := 3) rfl (by rw [ex3_4]; rfl) (by decide) rfl (fun ls hl => ?_)
      refine lv_goto (tgt := 4) hx hb dX2_openIn_34 (by decide) ?_
      exact hX4 _ _ hB _ (lv_sub hl [1, 2, 3, 0] rfl)
    · have hB := hB.2 q3
      refine lv_iload_n hx hb dX2_openIn_22 rfl (lv_at hl 2 rfl) ?_
      refine lv_aload_n hx hb dX2_openIn_23 rfl (lv_at hl 0 rfl) ?_
      refine gf_X2_4 C hP hg tw_1_139 dX2_openIn_24 ?_
      refine lv_iload_n hx hb dX2_openIn_27 rfl (lv_at hl 3 rfl) ?_
      obtain ⟨q5, hB⟩ := hB
      refine a_ld C hP (aH_2 hg) q5 dX2_openIn_28 ?_
      refine lv_iadd hx hb dX2_openIn_29 ?_
      refine lv_topi (fun x2_6 ex2_6 => ?_)
      have hB := hB x2_6 ex2_6
      refine lv_istore_n (lv' := [(2, .int x2_6), (0, .ref (ad g)), (1, .int x1), (3, .int x3)]) hx hb dX2_openIn_30 rfl hl (by decide) rfl (fun ls hl => ?_)
      obtain ⟨x3_7, ex3_7⟩ : ∃ y : Int32, y = x3 + 1 := ⟨_, rfl⟩
      have hB := hB x3_7 ex3_7
      refine lv_iinc (v := x3_7) (lv' := [(3, .int x3_7), (2, .int x2_6), (0, .ref (ad g)), (1, .int x1)]) hx hb dX2_openIn_31 hl (k := 3) rfl (by rw [ex3_7]; rfl) (by decide) rfl (fun ls hl => ?_)
      refine lv_goto (tgt := 4) hx hb dX2_openIn_34 (by decide) ?_
      exact hX4 _ _ hB _ (lv_sub hl [2, 3, 1, 0] rfl)
set_option maxRecDepth 100000 in
set_option maxHeartbeats 4000000 in
theorem c_X2_openIn {l : Launch} {T : Nat → ClassId} {D : va_G} {ad : Nat → Nat} {K : Nat} {M : Mem} {g : Nat} {x1 : Int32} {Q1 : Int32 → Prop} (hg : isH g) (hB : P_X2_openIn K M g x1 Q1) : Met l yX2_openIn (Cond.code yX2_openIn cX2_openIn 4 (some .int) :: TB) (RM 1) (va_Pc [.ref (ad g), .int x1] (RdP EC T D ad (69 + K) M)) (QcR Q1) 0 0 (fun _ => False) := by
  refine st_R (by decide) (Nat.le_of_ble_eq_true rfl) (fun p e s m args below meth c ls C hr hlk hP hl => ?_)
  have hl : lv_has ls 4 [(0, .ref (ad g)), (1, .int x1)] := hl
  have hx := C.x
  have hb := C.b
  delta P_X2_openIn at hB
  refine lv_iconst (v := 0) hx hb dX2_openIn_0 (by decide) ?_
  refine lv_istore_n (lv' := [(2, .int 0), (0, .ref (ad g)), (1, .int x1)]) hx hb dX2_openIn_1 rfl hl (by decide) rfl (fun ls hl => ?_)
  refine lv_iconst (v := 0) hx hb dX2_openIn_2 (by decide) ?_
  refine lv_istore_n (lv' := [(3, .int 0), (2, .int 0), (0, .ref (ad g)), (1, .int x1)]) hx hb dX2_openIn_3 rfl hl (by decide) rfl (fun ls hl => ?_)
  exact w_X2_openIn_4 C hr hlk hP hg (lv_sub hl [2, 3, 1, 0] rfl) hB
set_option maxRecDepth 100000 in
set_option maxHeartbeats 4000000 in
theorem v_X2_openIn {K : Nat} {M : Mem} {g : Nat} {x1 : Int32} {Q1 : Int32 → Prop} (C : Cx T D p s m args c cc nL own) (hls : ls.size = nL) (hP : Pw EC T D ad (69 + K) M H) (hg : isH g) (hlink : Cond.methodLink own index yX2_openIn ∈ TB) (hR : 1 + 1 ≤ R.frames ∧ 8 + (4 + 11) + 48 * 1 ≤ R.locals) (hcs : cells ≤ R.cells ∧ slots ≤ R.slots) (hcat : (rest.map fun v => v.category).sum ≤ 8) (hdg : decode cc pc = .ok (.invokevirtual index, 3)) (hB : P_X2_openIn K M g x1 Q1)
    (kk : ∀ r : Int32, Q1 r → W p l e R s m args below meth c H locs cells slots QQ (F0 m (pc + 3) ls (.int r :: rest))) : W p l e R s m args below meth c H locs cells slots QQ (F0 m pc ls (.int x1 :: .ref (ad g) :: rest)) :=
  k_V (ci := 2) (n := 1) (c_X2_openIn hg hB) tw_2_154 tw_2_152 tw_2_153 tw_1_10 ⟨rfl, by decide, by decide, by decide +kernel⟩ rfl rfl C hls hP (oH hg) hlink hR hcs hcat rfl hdg kk
def P_X2_openBeside (K : Nat) (M : Mem) (g : Nat) (x1 : Int32) (Q1 : Int32 → Prop) : Prop :=
  P_X2_openIn K M g (x1 - 1) (fun v1 => P_X2_openIn K M g (x1 + 1) (fun v2 => Q1 (v1 + v2)))
set_option maxRecDepth 100000 in
set_option maxHeartbeats 4000000 in
theorem c_X2_openBeside {l : Launch} {T : Nat → ClassId} {D : va_G} {ad : Nat → Nat} {K : Nat} {M : Mem} {g : Nat} {x1 : Int32} {Q1 : Int32 → Prop} (hg : isH g) (hB : P_X2_openBeside K M g x1 Q1) : Met l yX2_openBeside (Cond.code yX2_openBeside cX2_openBeside 2 (some .int) :: TB) (RM 2) (va_Pc [.ref (ad g), .int x1] (RdP EC T D ad (69 + K) M)) (QcR Q1) 0 0 (fun _ => False) := by
  refine st_R (by decide) (Nat.le_of_ble_eq_true rfl) (fun p e s m args below meth c ls C hr hlk hP hl => ?_)
  have hl : lv_has ls 2 [(0, .ref (ad g)), (1, .int x1)] := hl
  have hx := C.x
  have hb := C.b
  delta P_X2_openBeside at hB
  refine lv_aload_n hx hb dX2_openBeside_0 rfl (lv_at hl 0 rfl) ?_
  refine lv_iload_n hx hb dX2_openBeside_1 rfl (lv_at hl 1 rfl) ?_
  refine lv_iconst (v := 1) hx hb dX2_openBeside_2 (by decide) ?_
  refine lv_isub hx hb dX2_openBeside_3 ?_
  refine v_X2_openIn C hl.1 hP hg tw_2_151 ⟨Nat.le_of_ble_eq_true rfl, Nat.le_of_ble_eq_true rfl⟩ ⟨Nat.le_refl _, Nat.le_refl _⟩ (Nat.le_of_ble_eq_true rfl) dX2_openBeside_4 hB (fun v1 hB => ?_)
  refine lv_aload_n hx hb dX2_openBeside_7 rfl (lv_at hl 0 rfl) ?_
  refine lv_iload_n hx hb dX2_openBeside_8 rfl (lv_at hl 1 rfl) ?_
  refine lv_iconst (v := 1) hx hb dX2_openBeside_9 (by decide) ?_
  refine lv_iadd hx hb dX2_openBeside_10 ?_
  refine v_X2_openIn C hl.1 hP hg tw_2_151 ⟨Nat.le_of_ble_eq_true rfl, Nat.le_of_ble_eq_true rfl⟩ ⟨Nat.le_refl _, Nat.le_refl _⟩ (Nat.le_of_ble_eq_true rfl) dX2_openBeside_11 hB (fun v2 hB => ?_)
  refine lv_iadd hx hb dX2_openBeside_14 ?_
  exact e_iR C.1 hr hlk dX2_openBeside_15 hB
set_option maxRecDepth 100000 in
set_option maxHeartbeats 4000000 in
theorem v_X2_openBeside {K : Nat} {M : Mem} {g : Nat} {x1 : Int32} {Q1 : Int32 → Prop} (C : Cx T D p s m args c cc nL own) (hls : ls.size = nL) (hP : Pw EC T D ad (69 + K) M H) (hg : isH g) (hlink : Cond.methodLink own index yX2_openBeside ∈ TB) (hR : 2 + 1 ≤ R.frames ∧ 8 + (2 + 11) + 48 * 2 ≤ R.locals) (hcs : cells ≤ R.cells ∧ slots ≤ R.slots) (hcat : (rest.map fun v => v.category).sum ≤ 8) (hdg : decode cc pc = .ok (.invokevirtual index, 3)) (hB : P_X2_openBeside K M g x1 Q1)
    (kk : ∀ r : Int32, Q1 r → W p l e R s m args below meth c H locs cells slots QQ (F0 m (pc + 3) ls (.int r :: rest))) : W p l e R s m args below meth c H locs cells slots QQ (F0 m pc ls (.int x1 :: .ref (ad g) :: rest)) :=
  k_V (ci := 2) (n := 1) (c_X2_openBeside hg hB) tw_2_158 tw_2_156 tw_2_157 tw_1_10 ⟨rfl, by decide, by decide, by decide +kernel⟩ rfl rfl C hls hP (oH hg) hlink hR hcs hcat rfl hdg kk
def P_X2_heldAir (x0 : Int32) (Q1 : Int32 → Prop) : Prop :=
  ∀ v1 : Int32, v1 = (if x0 < 99 then x0 else 99) → ∀ v2 : Int32, v2 = (if 0 < v1 then v1 else 0) → Q1 v2
set_option maxRecDepth 100000 in
set_option maxHeartbeats 4000000 in
theorem c_X2_heldAir {l : Launch} {x0 : Int32} {Q1 : Int32 → Prop} (hB : P_X2_heldAir x0 Q1) : Met l yX2_heldAir (Cond.code yX2_heldAir cX2_heldAir 1 (some .int) :: TB) (RM 2) (va_Pc [.int x0] StP) (QcR Q1) 0 0 (fun _ => False) := by
  refine st_S (by decide) (Nat.le_of_ble_eq_true rfl) (fun p e s m args below meth c ls C hr hlk hl => ?_)
  have hl : lv_has ls 1 [(0, .int x0)] := hl
  have hx := C.1
  have hb := C.2.1
  delta P_X2_heldAir at hB
  refine lv_iconst (v := 0) hx hb dX2_heldAir_0 (by decide) ?_
  refine lv_bipush (v := 99) hx hb dX2_heldAir_1 (by decide) ?_
  refine lv_iload_n hx hb dX2_heldAir_3 rfl (lv_at hl 0 rfl) ?_
  refine m_min C hl.1 tw_2_166 (Nat.le_of_ble_eq_true rfl) (Nat.le_of_ble_eq_true rfl) dX2_heldAir_4 ?_
  refine lv_topi (fun v1 ev1 => ?_)
  have hB := hB v1 ev1
  refine m_max C hl.1 tw_2_169 (Nat.le_of_ble_eq_true rfl) (Nat.le_of_ble_eq_true rfl) dX2_heldAir_7 ?_
  refine lv_topi (fun v2 ev2 => ?_)
  have hB := hB v2 ev2
  exact e_iR C hr hlk dX2_heldAir_10 hB
set_option maxRecDepth 100000 in
set_option maxHeartbeats 4000000 in
theorem v_X2_heldAir {x0 : Int32} {Q1 : Int32 → Prop} (C : CallFix p m c cc nL s args TB own) (hls : ls.size = nL) (hlink : Cond.methodLink own index yX2_heldAir ∈ TB) (hR : 2 + 1 ≤ R.frames ∧ 8 + (1 + 11) + 48 * 2 ≤ R.locals) (hcs : cells ≤ R.cells ∧ slots ≤ R.slots) (hcat : (rest.map fun v => v.category).sum ≤ 8) (hdg : decode cc pc = .ok (.invokestatic index, 3)) (hB : P_X2_heldAir x0 Q1)
    (kk : ∀ r : Int32, Q1 r → W p l e R s m args below meth c H locs cells slots QQ (F0 m (pc + 3) ls (.int r :: rest))) : W p l e R s m args below meth c H locs cells slots QQ (F0 m pc ls (.int x0 :: rest)) :=
  k_S (n := 1) (c_X2_heldAir hB) tw_2_165 tw_2_164 tw_1_10 ⟨by decide, by decide, by decide +kernel⟩ rfl C hls  hlink hR hcs hcat rfl hdg kk
def P_X2_memoPlace (x0 : Int32) (x1 : Int32) (Q1 : Int32 → Prop) : Prop :=
  ((x0 < 0 → Q1 (-1)) ∧
    (¬ x0 < 0 → ((x1 < 0 → Q1 (-1)) ∧
      (¬ x1 < 0 → (((x0 + x1) ≤ 72 → Q1 ((((x0 + x1) * ((x0 + x1) + 1)) / 2) + x1)) ∧
        (¬ (x0 + x1) ≤ 72 → Q1 (-1)))))))
set_option maxRecDepth 100000 in
set_option maxHeartbeats 4000000 in
theorem c_X2_memoPlace {l : Launch} {x0 : Int32} {x1 : Int32} {Q1 : Int32 → Prop} (hB : P_X2_memoPlace x0 x1 Q1) : Met l yX2_memoPlace (Cond.code yX2_memoPlace cX2_memoPlace 2 (some .int) :: TB) (RM 1) (va_Pc [.int x0, .int x1] StP) (QcR Q1) 0 0 (fun _ => False) := by
  refine st_S (by decide) (Nat.le_of_ble_eq_true rfl) (fun p e s m args below meth c ls C hr hlk hl => ?_)
  have hl : lv_has ls 2 [(0, .int x0), (1, .int x1)] := hl
  have hx := C.1
  have hb := C.2.1
  delta P_X2_memoPlace at hB
  refine lv_iload_n hx hb dX2_memoPlace_0 rfl (lv_at hl 0 rfl) ?_
  refine lv_if_lt (tgt := 16) hx hb dX2_memoPlace_1 (by decide) (fun q1 => ?_) (fun q1 => ?_)
  · have hB := hB.1 q1
    refine lv_iconst (v := (-1)) hx hb dX2_memoPlace_16 (by decide) ?_
    exact e_iR C hr hlk dX2_memoPlace_17 hB
  · have hB := hB.2 q1
    refine lv_iload_n hx hb dX2_memoPlace_4 rfl (lv_at hl 1 rfl) ?_
    refine lv_if_lt (tgt := 16) hx hb dX2_memoPlace_5 (by decide) (fun q2 => ?_) (fun q2 => ?_)
    · have hB := hB.1 q2
      refine lv_iconst (v := (-1)) hx hb dX2_memoPlace_16 (by decide) ?_
      exact e_iR C hr hlk dX2_memoPlace_17 hB
    · have hB := hB.2 q2
      refine lv_iload_n hx hb dX2_memoPlace_8 rfl (lv_at hl 0 rfl) ?_
      refine lv_iload_n hx hb dX2_memoPlace_9 rfl (lv_at hl 1 rfl) ?_
      refine lv_iadd hx hb dX2_memoPlace_10 ?_
      refine lv_bipush (v := 72) hx hb dX2_memoPlace_11 (by decide) ?_
      refine lv_icmp_le (tgt := 18) hx hb dX2_memoPlace_13 (by decide) (fun q3 => ?_) (fun q3 => ?_)
      · have hB := hB.1 q3
        refine lv_iload_n hx hb dX2_memoPlace_18 rfl (lv_at hl 0 rfl) ?_
        refine lv_iload_n hx hb dX2_memoPlace_19 rfl (lv_at hl 1 rfl) ?_
        refine lv_iadd hx hb dX2_memoPlace_20 ?_
        refine lv_iload_n hx hb dX2_memoPlace_21 rfl (lv_at hl 0 rfl) ?_
        refine lv_iload_n hx hb dX2_memoPlace_22 rfl (lv_at hl 1 rfl) ?_
        refine lv_iadd hx hb dX2_memoPlace_23 ?_
        refine lv_iconst (v := 1) hx hb dX2_memoPlace_24 (by decide) ?_
        refine lv_iadd hx hb dX2_memoPlace_25 ?_
        refine lv_imul hx hb dX2_memoPlace_26 ?_
        refine lv_iconst (v := 2) hx hb dX2_memoPlace_27 (by decide) ?_
        refine lv_idiv hx hb dX2_memoPlace_28 (by decide) ?_
        refine lv_iload_n hx hb dX2_memoPlace_29 rfl (lv_at hl 1 rfl) ?_
        refine lv_iadd hx hb dX2_memoPlace_30 ?_
        exact e_iR C hr hlk dX2_memoPlace_31 hB
      · have hB := hB.2 q3
        refine lv_iconst (v := (-1)) hx hb dX2_memoPlace_16 (by decide) ?_
        exact e_iR C hr hlk dX2_memoPlace_17 hB
set_option maxRecDepth 100000 in
set_option maxHeartbeats 4000000 in
theorem v_X2_memoPlace {x0 : Int32} {x1 : Int32} {Q1 : Int32 → Prop} (C : CallFix p m c cc nL s args TB own) (hls : ls.size = nL) (hlink : Cond.methodLink own index yX2_memoPlace ∈ TB) (hR : 1 + 1 ≤ R.frames ∧ 8 + (2 + 11) + 48 * 1 ≤ R.locals) (hcs : cells ≤ R.cells ∧ slots ≤ R.slots) (hcat : (rest.map fun v => v.category).sum ≤ 8) (hdg : decode cc pc = .ok (.invokestatic index, 3)) (hB : P_X2_memoPlace x0 x1 Q1)
    (kk : ∀ r : Int32, Q1 r → W p l e R s m args below meth c H locs cells slots QQ (F0 m (pc + 3) ls (.int r :: rest))) : W p l e R s m args below meth c H locs cells slots QQ (F0 m pc ls (.int x1 :: .int x0 :: rest)) :=
  k_S (n := 2) (c_X2_memoPlace hB) tw_2_174 tw_2_173 tw_1_10 ⟨by decide, by decide, by decide +kernel⟩ rfl C hls  hlink hR hcs hcat rfl hdg kk
def P_X10_joined (x0 : Int32) (x1 : Int32) (x2 : Int32) (Q1 : Int32 → Prop) : Prop :=
  ((x0 = 38 → ((x1 = 0 → Q1 0) ∧
      (¬ x1 = 0 → ((x2 = 0 → Q1 0) ∧
        (¬ x2 = 0 → Q1 1))))) ∧
    (x0 = 42 → Q1 (x1 * x2)) ∧
    (x0 = 43 → Q1 (x1 + x2)) ∧
    (x0 = 45 → Q1 (x1 - x2)) ∧
    (x0 = 47 → ((¬ x2 = 0 → ¬ x2 = 0 ∧ Q1 (x1 / x2)) ∧
      (x2 = 0 → Q1 0))) ∧
    (x0 = 60 → ((x2 ≤ x1 → Q1 0) ∧
      (¬ x2 ≤ x1 → Q1 1))) ∧
    (x0 = 61 → ((¬ x1 = x2 → Q1 0) ∧
      (x1 = x2 → Q1 1))) ∧
    (x0 = 62 → ((x1 ≤ x2 → Q1 0) ∧
      (¬ x1 ≤ x2 → Q1 1))) ∧
    (x0 = 124 → ((¬ x1 = 0 → Q1 1) ∧
      (x1 = 0 → ((x2 = 0 → Q1 0) ∧
        (¬ x2 = 0 → Q1 1))))) ∧
    (¬ x0 = 38 → ¬ x0 = 42 → ¬ x0 = 43 → ¬ x0 = 45 → ¬ x0 = 47 → ¬ x0 = 60 → ¬ x0 = 61 → ¬ x0 = 62 → ¬ x0 = 124 → ((¬ x2 = 0 → ¬ x2 = 0 ∧ Q1 (x1 - x1 / x2 * x2)) ∧
    (x2 = 0 → Q1 0))))
set_option maxRecDepth 100000 in
set_option maxHeartbeats 4000000 in
theorem c_X10_joined {l : Launch} {x0 : Int32} {x1 : Int32} {x2 : Int32} {Q1 : Int32 → Prop} (hB : P_X10_joined x0 x1 x2 Q1) : Met l yX10_joined (Cond.code yX10_joined cX10_joined 3 (some .int) :: TB) (RM 1) (va_Pc [.int x0, .int x1, .int x2] StP) (QcR Q1) 0 0 (fun _ => False) := by
  refine st_S (by decide) (Nat.le_of_ble_eq_true rfl) (fun p e s m args below meth c ls C hr hlk hl => ?_)
  have hl : lv_has ls 3 [(0, .int x0), (1, .int x1), (2, .int x2)] := hl
  have hx := C.1
  have hb := C.2.1
  delta P_X10_joined at hB
  refine lv_iload_n hx hb dX10_joined_0 rfl (lv_at hl 0 rfl) ?_
  by_cases q1_0 : x0 = 38
  · have hB := hB.1 q1_0
    refine lv_lookup (off := 97) (tgt := 98) hx hb dX10_joined_1 (by decide) (by rw [q1_0]; rfl) (by decide) ?_
    refine lv_iload_n hx hb dX10_joined_98 rfl (lv_at hl 1 rfl) ?_
    refine lv_if_eq (tgt := 110) hx hb dX10_joined_99 (by decide) (fun q2 => ?_) (fun q2 => ?_)
    · have hB := hB.1 q2
      refine lv_iconst (v := 0) hx hb dX10_joined_110 (by decide) ?_
      exact e_iR C hr hlk dX10_joined_111 hB
    · have hB := hB.2 q2
      refine lv_iload_n hx hb dX10_joined_102 rfl (lv_at hl 2 rfl) ?_
      refine lv_if_eq (tgt := 110) hx hb dX10_joined_103 (by decide) (fun q3 => ?_) (fun q3 => ?_)
      · have hB := hB.1 q3
        refine lv_iconst (v := 0) hx hb dX10_joined_110 (by decide) ?_
        exact e_iR C hr hlk dX10_joined_111 hB
      · have hB := hB.2 q3
        refine lv_iconst (v := 1) hx hb dX10_joined_106 (by decide) ?_
        refine lv_goto (tgt := 111) hx hb dX10_joined_107 (by decide) ?_
        exact e_iR C hr hlk dX10_joined_111 hB
  by_cases q1_1 : x0 = 42
  · have hB := hB.2.1 q1_1
    refine lv_lookup (off := 152) (tgt := 153) hx hb dX10_joined_1 (by decide) (by rw [q1_1]; rfl) (by decide) ?_
    refine lv_iload_n hx hb dX10_joined_153 rfl (lv_at hl 1 rfl) ?_
    refine lv_iload_n hx hb dX10_joined_154 rfl (lv_at hl 2 rfl) ?_
    refine lv_imul hx hb dX10_joined_155 ?_
    exact e_iR C hr hlk dX10_joined_156 hB
  by_cases q1_2 : x0 = 43
  · have hB := hB.2.2.1 q1_2
    refine lv_lookup (off := 144) (tgt := 145) hx hb dX10_joined_1 (by decide) (by rw [q1_2]; rfl) (by decide) ?_
    refine lv_iload_n hx hb dX10_joined_145 rfl (lv_at hl 1 rfl) ?_
    refine lv_iload_n hx hb dX10_joined_146 rfl (lv_at hl 2 rfl) ?_
    refine lv_iadd hx hb dX10_joined_147 ?_
    exact e_iR C hr hlk dX10_joined_148 hB
  by_cases q1_3 : x0 = 45
  · have hB := hB.2.2.2.1 q1_3
    refine lv_lookup (off := 148) (tgt := 149) hx hb dX10_joined_1 (by decide) (by rw [q1_3]; rfl) (by decide) ?_
    refine lv_iload_n hx hb dX10_joined_149 rfl (lv_at hl 1 rfl) ?_
    refine lv_iload_n hx hb dX10_joined_150 rfl (lv_at hl 2 rfl) ?_
    refine lv_isub hx hb dX10_joined_151 ?_
    exact e_iR C hr hlk dX10_joined_152 hB
  by_cases q1_4 : x0 = 47
  · have hB := hB.2.2.2.2.1 q1_4
    refine lv_lookup (off := 156) (tgt := 157) hx hb dX10_joined_1 (by decide) (by rw [q1_4]; rfl) (by decide) ?_
    refine lv_iload_n hx hb dX10_joined_157 rfl (lv_at hl 2 rfl) ?_
    refine lv_if_ne (tgt := 165) hx hb dX10_joined_158 (by decide) (fun q4 => ?_) (fun q4 => ?_)
    · have hB := hB.1 q4
      refine lv_iload_n hx hb dX10_joined_165 rfl (lv_at hl 1 rfl) ?_
      refine lv_iload_n hx hb dX10_joined_166 rfl (lv_at hl 2 rfl) ?_
      obtain ⟨q5, hB⟩ := hB
      refine lv_idiv hx hb dX10_joined_167 q5 ?_
      exact e_iR C hr hlk dX10_joined_168 hB
    · have hB := hB.2 q4
      refine lv_iconst (v := 0) hx hb dX10_joined_161 (by decide) ?_
      refine lv_goto (tgt := 168) hx hb dX10_joined_162 (by decide) ?_
      exact e_iR C hr hlk dX10_joined_168 hB
  by_cases q1_5 : x0 = 60
  · have hB := hB.2.2.2.2.2.1 q1_5
    refine lv_lookup (off := 111) (tgt := 112) hx hb dX10_joined_1 (by decide) (by rw [q1_5]; rfl) (by decide) ?_
    refine lv_iload_n hx hb dX10_joined_112 rfl (lv_at hl 1 rfl) ?_
    refine lv_iload_n hx hb dX10_joined_113 rfl (lv_at hl 2 rfl) ?_
    refine lv_icmp_ge (tgt := 121) hx hb dX10_joined_114 (by decide) (fun q6 => ?_) (fun q6 => ?_)
    · have hB := hB.1 q6
      refine lv_iconst (v := 0) hx hb dX10_joined_121 (by decide) ?_
      exact e_iR C hr hlk dX10_joined_122 hB
    · have hB := hB.2 q6
      refine lv_iconst (v := 1) hx hb dX10_joined_117 (by decide) ?_
      refine lv_goto (tgt := 122) hx hb dX10_joined_118 (by decide) ?_
      exact e_iR C hr hlk dX10_joined_122 hB
  by_cases q1_6 : x0 = 61
  · have hB := hB.2.2.2.2.2.2.1 q1_6
    refine lv_lookup (off := 122) (tgt := 123) hx hb dX10_joined_1 (by decide) (by rw [q1_6]; rfl) (by decide) ?_
    refine lv_iload_n hx hb dX10_joined_123 rfl (lv_at hl 1 rfl) ?_
    refine lv_iload_n hx hb dX10_joined_124 rfl (lv_at hl 2 rfl) ?_
    refine lv_icmp_ne (tgt := 132) hx hb dX10_joined_125 (by decide) (fun q7 => ?_) (fun q7 => ?_)
    · have hB := hB.1 q7
      refine lv_iconst (v := 0) hx hb dX10_joined_132 (by decide) ?_
      exact e_iR C hr hlk dX10_joined_133 hB
    · have hB := hB.2 q7
      refine lv_iconst (v := 1) hx hb dX10_joined_128 (by decide) ?_
      refine lv_goto (tgt := 133) hx hb dX10_joined_129 (by decide) ?_
      exact e_iR C hr hlk dX10_joined_133 hB
  by_cases q1_7 : x0 = 62
  · have hB := hB.2.2.2.2.2.2.2.1 q1_7
    refine lv_lookup (off := 133) (tgt := 134) hx hb dX10_joined_1 (by decide) (by rw [q1_7]; rfl) (by decide) ?_
    refine lv_iload_n hx hb dX10_joined_134 rfl (lv_at hl 1 rfl) ?_
    refine lv_iload_n hx hb dX10_joined_135 rfl (lv_at hl 2 rfl) ?_
    refine lv_icmp_le (tgt := 143) hx hb dX10_joined_136 (by decide) (fun q8 => ?_) (fun q8 => ?_)
    · have hB := hB.1 q8
      refine lv_iconst (v := 0) hx hb dX10_joined_143 (by decide) ?_
      exact e_iR C hr hlk dX10_joined_144 hB
    · have hB := hB.2 q8
      refine lv_iconst (v := 1) hx hb dX10_joined_139 (by decide) ?_
      refine lv_goto (tgt := 144) hx hb dX10_joined_140 (by decide) ?_
      exact e_iR C hr hlk dX10_joined_144 hB
  by_cases q1_8 : x0 = 124
  · have hB := hB.2.2.2.2.2.2.2.2.1 q1_8
    refine lv_lookup (off := 83) (tgt := 84) hx hb dX10_joined_1 (by decide) (by rw [q1_8]; rfl) (by decide) ?_
    refine lv_iload_n hx hb dX10_joined_84 rfl (lv_at hl 1 rfl) ?_
    refine lv_if_ne (tgt := 92) hx hb dX10_joined_85 (by decide) (fun q9 => ?_) (fun q9 => ?_)
    · have hB := hB.1 q9
      refine lv_iconst (v := 1) hx hb dX10_joined_92 (by decide) ?_
      refine lv_goto (tgt := 97) hx hb dX10_joined_93 (by decide) ?_
      exact e_iR C hr hlk dX10_joined_97 hB
    · have hB := hB.2 q9
      refine lv_iload_n hx hb dX10_joined_88 rfl (lv_at hl 2 rfl) ?_
      refine lv_if_eq (tgt := 96) hx hb dX10_joined_89 (by decide) (fun q10 => ?_) (fun q10 => ?_)
      · have hB := hB.1 q10
        refine lv_iconst (v := 0) hx hb dX10_joined_96 (by decide) ?_
        exact e_iR C hr hlk dX10_joined_97 hB
      · have hB := hB.2 q10
        refine lv_iconst (v := 1) hx hb dX10_joined_92 (by decide) ?_
        refine lv_goto (tgt := 97) hx hb dX10_joined_93 (by decide) ?_
        exact e_iR C hr hlk dX10_joined_97 hB
  have hB := hB.2.2.2.2.2.2.2.2.2 q1_0 q1_1 q1_2 q1_3 q1_4 q1_5 q1_6 q1_7 q1_8
  refine lv_lookup (off := 168) (tgt := 169) hx hb dX10_joined_1 (by decide) ((lv_osw (k := 38) q1_0 rfl).trans ((lv_osw (k := 42) q1_1 rfl).trans ((lv_osw (k := 43) q1_2 rfl).trans ((lv_osw (k := 45) q1_3 rfl).trans ((lv_osw (k := 47) q1_4 rfl).trans ((lv_osw (k := 60) q1_5 rfl).trans ((lv_osw (k := 61) q1_6 rfl).trans ((lv_osw (k := 62) q1_7 rfl).trans ((lv_osw (k := 124) q1_8 rfl).trans rfl))))))))) (by decide) ?_
  refine lv_iload_n hx hb dX10_joined_169 rfl (lv_at hl 2 rfl) ?_
  refine lv_if_ne (tgt := 177) hx hb dX10_joined_170 (by decide) (fun q11 => ?_) (fun q11 => ?_)
  · have hB := hB.1 q11
    refine lv_iload_n hx hb dX10_joined_177 rfl (lv_at hl 1 rfl) ?_
    refine lv_iload_n hx hb dX10_joined_178 rfl (lv_at hl 2 rfl) ?_
    obtain ⟨q12, hB⟩ := hB
    refine lv_irem hx hb dX10_joined_179 q12 ?_
    exact e_iR C hr hlk dX10_joined_180 hB
  · have hB := hB.2 q11
    refine lv_iconst (v := 0) hx hb dX10_joined_173 (by decide) ?_
    refine lv_goto (tgt := 180) hx hb dX10_joined_174 (by decide) ?_
    exact e_iR C hr hlk dX10_joined_180 hB
set_option maxRecDepth 100000 in
set_option maxHeartbeats 4000000 in
theorem v_X10_joined {x0 : Int32} {x1 : Int32} {x2 : Int32} {Q1 : Int32 → Prop} (C : CallFix p m c cc nL s args TB own) (hls : ls.size = nL) (hlink : Cond.methodLink own index yX10_joined ∈ TB) (hR : 1 + 1 ≤ R.frames ∧ 8 + (3 + 11) + 48 * 1 ≤ R.locals) (hcs : cells ≤ R.cells ∧ slots ≤ R.slots) (hcat : (rest.map fun v => v.category).sum ≤ 8) (hdg : decode cc pc = .ok (.invokestatic index, 3)) (hB : P_X10_joined x0 x1 x2 Q1)
    (kk : ∀ r : Int32, Q1 r → W p l e R s m args below meth c H locs cells slots QQ (F0 m (pc + 3) ls (.int r :: rest))) : W p l e R s m args below meth c H locs cells slots QQ (F0 m pc ls (.int x2 :: .int x1 :: .int x0 :: rest)) :=
  k_S (n := 3) (c_X10_joined hB) tw_2_181 tw_2_180 tw_1_15 ⟨by decide, by decide, by decide +kernel⟩ rfl C hls  hlink hR hcs hcat rfl hdg kk
def B_X10_value_6 (K : Nat) (g : Nat) (Q1 : Int32 → Mem → Prop) (x1 : Int32) (x2 : Int32) (x3 : Int32) (x4 : Int32) (x5 : Int32) (M : Mem) : Prop :=
  ∀ X6 : Int32 → Int32 → Mem → Prop, (∀ (x4 : Int32) (x5 : Int32) (M : Mem), ((((M g 3) ≤ x5 → ((x4 ≤ 0 → Q1 0 M) ∧
      (¬ x4 ≤ 0 → Q1 (M (g + 2) 0) M))) ∧
    (¬ (M g 3) ≤ x5 → vp_in x5 50 ∧ ∀ x6_4 : Int32, x6_4 = M (g + 1) x5.toNatClampNeg → ((¬ x6_4 = (-33) → (((-3) ≤ x6_4 → ((50 ≤ x4 → ∀ x5_8 : Int32, x5_8 = x5 + 1 → X6 x4 x5_8 M) ∧
          (¬ 50 ≤ x4 → ((x6_4 < 0 → ((¬ x6_4 = (-1) → ((¬ x6_4 = (-2) → vp_in x4 50 ∧ ∀ M12 : Mem, M12 = sf M (g + 2) x4.toNatClampNeg x3 → ∀ x4_14 : Int32, x4_14 = x4 + 1 → ∀ x5_15 : Int32, x5_15 = x5 + 1 → X6 x4_14 x5_15 M12) ∧
                (x6_4 = (-2) → vp_in x4 50 ∧ ∀ M16 : Mem, M16 = sf M (g + 2) x4.toNatClampNeg x2 → ∀ x4_18 : Int32, x4_18 = x4 + 1 → ∀ x5_19 : Int32, x5_19 = x5 + 1 → X6 x4_18 x5_19 M16))) ∧
              (x6_4 = (-1) → vp_in x4 50 ∧ ∀ M20 : Mem, M20 = sf M (g + 2) x4.toNatClampNeg x1 → ∀ x4_22 : Int32, x4_22 = x4 + 1 → ∀ x5_23 : Int32, x5_23 = x5 + 1 → X6 x4_22 x5_23 M20))) ∧
            (¬ x6_4 < 0 → vp_in x4 50 ∧ ∀ M24 : Mem, M24 = sf M (g + 2) x4.toNatClampNeg x6_4 → ∀ x4_26 : Int32, x4_26 = x4 + 1 → ∀ x5_27 : Int32, x5_27 = x5 + 1 → X6 x4_26 x5_27 M24))))) ∧
        (¬ (-3) ≤ x6_4 → ((x4 < 2 → ∀ x5_29 : Int32, x5_29 = x5 + 1 → X6 x4 x5_29 M) ∧
          (¬ x4 < 2 → ∀ x4_30 : Int32, x4_30 = x4 + (-1) → vp_in (x4_30 - 1) 50 ∧ vp_in x4_30 50 ∧ P_X10_joined (-x6_4) (M (g + 2) (x4_30 - 1).toNatClampNeg) (M (g + 2) x4_30.toNatClampNeg) (fun v33 => vp_in (x4_30 - 1) 50 ∧ ∀ M34 : Mem, M34 = sf M (g + 2) (x4_30 - 1).toNatClampNeg v33 → ∀ x5_36 : Int32, x5_36 = x5 + 1 → X6 x4_30 x5_36 M34)))))) ∧
      (x6_4 = (-33) → ((x4 < 1 → ∀ x5_38 : Int32, x5_38 = x5 + 1 → X6 x4 x5_38 M) ∧
        (¬ x4 < 1 → vp_in (x4 - 1) 50 ∧ ((¬ (M (g + 2) (x4 - 1).toNatClampNeg) = 0 → vp_in (x4 - 1) 50 ∧ ∀ M41 : Mem, M41 = sf M (g + 2) (x4 - 1).toNatClampNeg 0 → ∀ x5_43 : Int32, x5_43 = x5 + 1 → X6 x4 x5_43 M41) ∧
          ((M (g + 2) (x4 - 1).toNatClampNeg) = 0 → vp_in (x4 - 1) 50 ∧ ∀ M44 : Mem, M44 = sf M (g + 2) (x4 - 1).toNatClampNeg 1 → ∀ x5_46 : Int32, x5_46 = x5 + 1 → X6 x4 x5_46 M44))))))))) → X6 x4 x5 M) → X6 x4 x5 M
def P_X10_value (K : Nat) (M : Mem) (g : Nat) (x1 : Int32) (x2 : Int32) (x3 : Int32) (Q1 : Int32 → Mem → Prop) : Prop :=
  B_X10_value_6 K g Q1 x1 x2 x3 0 0 M
set_option maxRecDepth 100000 in
set_option maxHeartbeats 4000000 in
theorem w_X10_value_6 {K : Nat} {g : Nat} {M : Mem} {Q1 : Int32 → Mem → Prop} {x1 : Int32} {x2 : Int32} {x3 : Int32} {x4 : Int32} {x5 : Int32} (C : Cx T D p s m args c cX10_value 7 "OneOfTwo$Text") (hr : meth.sig.returnType = (some .int)) (hlk : meth.locks = false) (Z : Zz EC T D ad (69 + K) A s.heap M H locs) (hg : isT K g) {ls : Array Slot} (hl : lv_has ls 7 [(0, .ref (ad g)), (1, .int x1), (2, .int x2), (3, .int x3), (4, .int x4), (5, .int x5)]) (hB : B_X10_value_6 K g Q1 x1 x2 x3 x4 x5 M) : W p l e (RM 2) s m args below meth c H locs 0 0 (MQ below (QcW EC T D ad (69 + K) A Q1) args s 0 0 A) (F0 m 6 ls []) := by
  delta B_X10_value_6 at hB
  obtain ⟨X6, hX6, hY6⟩ : ∃ X6 : Int32 → Int32 → Mem → Prop, (∀ (x4 : Int32) (x5 : Int32) (M : Mem), X6 x4 x5 M → ∀ (H : Heap) (locs : List Loc) (ls : Array Slot), Zz EC T D ad (69 + K) A s.heap M H locs → lv_has ls 7 [(0, .ref (ad g)), (1, .int x1), (2, .int x2), (3, .int x3), (4, .int x4), (5, .int x5)] → W p l e (RM 2) s m args below meth c H locs 0 0 (MQ below (QcW EC T D ad (69 + K) A Q1) args s 0 0 A) (F0 m 6 ls [])) ∧ (∀ (x4 : Int32) (x5 : Int32) (M : Mem), (∀ (H : Heap) (locs : List Loc) (ls : Array Slot), Zz EC T D ad (69 + K) A s.heap M H locs → lv_has ls 7 [(0, .ref (ad g)), (1, .int x1), (2, .int x2), (3, .int x3), (4, .int x4), (5, .int x5)] → W p l e (RM 2) s m args below meth c H locs 0 0 (MQ below (QcW EC T D ad (69 + K) A Q1) args s 0 0 A) (F0 m 6 ls [])) → X6 x4 x5 M) := ⟨fun (x4 : Int32) (x5 : Int32) (M : Mem) => ∀ (H : Heap) (locs : List Loc) (ls : Array Slot), Zz EC T D ad (69 + K) A s.heap M H locs → lv_has ls 7 [(0, .ref (ad g)), (1, .int x1), (2, .int x2), (3, .int x3), (4, .int x4), (5, .int x5)] → W p l e (RM 2) s m args below meth c H locs 0 0 (MQ below (QcW EC T D ad (69 + K) A Q1) args s 0 0 A) (F0 m 6 ls []), fun _ _ _ h => h, fun _ _ _ h => h⟩
  refine hX6 _ _ _ (hB X6 (fun x4 x5 M hB => hY6 _ _ _ (fun H locs ls Z hl => ?_))) _ _ _ Z hl
  have hx := C.x
  have hb := C.b
  refine lv_iload hx hb dX10_value_6 (lv_at hl 5 rfl) ?_
  refine lv_aload_n hx hb dX10_value_8 rfl (lv_at hl 0 rfl) ?_
  refine gf_X10_3 C Z.1 hg tw_3_87 dX10_value_9 ?_
  refine lv_icmp_ge (tgt := 174) hx hb dX10_value_12 (by decide) (fun q1 => ?_) (fun q1 => ?_)
  · have hB := hB.1 q1
    refine lv_iload hx hb dX10_value_174 (lv_at hl 4 rfl) ?_
    refine lv_if_le (tgt := 188) hx hb dX10_value_176 (by decide) (fun q2 => ?_) (fun q2 => ?_)
    · have hB := hB.1 q2
      refine lv_iconst (v := 0) hx hb dX10_value_188 (by decide) ?_
      exact e_iW C hr hlk Z dX10_value_189 hB
    · have hB := hB.2 q2
      refine lv_aload_n hx hb dX10_value_179 rfl (lv_at hl 0 rfl) ?_
      refine gf_X10_4 C Z.1 hg tw_3_88 dX10_value_180 ?_
      refine lv_iconst (v := 0) hx hb dX10_value_183 (by decide) ?_
      refine a_ldc C Z.1 (aT_2 hg) (vin rfl) (j := 0) rfl dX10_value_184 ?_
      refine lv_goto (tgt := 189) hx hb dX10_value_185 (by decide) ?_
      exact e_iW C hr hlk Z dX10_value_189 hB
  · have hB := hB.2 q1
    refine lv_aload_n hx hb dX10_value_15 rfl (lv_at hl 0 rfl) ?_
    refine gf_X10_2 C Z.1 hg tw_3_86 dX10_value_16 ?_
    refine lv_iload hx hb dX10_value_19 (lv_at hl 5 rfl) ?_
    obtain ⟨q3, hB⟩ := hB
    refine a_ld C Z.1 (aT_1 hg) q3 dX10_value_21 ?_
    refine lv_topi (fun x6_4 ex6_4 => ?_)
    have hB := hB x6_4 ex6_4
    refine lv_istore (lv' := [(6, .int x6_4), (0, .ref (ad g)), (1, .int x1), (2, .int x2), (3, .int x3), (4, .int x4), (5, .int x5)]) hx hb dX10_value_22 hl (by decide) rfl (fun ls hl => ?_)
    refine lv_iload hx hb dX10_value_24 (lv_at hl 0 rfl) ?_
    refine lv_bipush (v := (-33)) hx hb dX10_value_26 (by decide) ?_
    refine lv_icmp_ne (tgt := 66) hx hb dX10_value_28 (by decide) (fun q5 => ?_) (fun q5 => ?_)
    · have hB := hB.1 q5
      refine lv_iload hx hb dX10_value_66 (lv_at hl 0 rfl) ?_
      refine lv_bipush (v := (-3)) hx hb dX10_value_68 (by decide) ?_
      refine lv_icmp_ge (tgt := 116) hx hb dX10_value_70 (by decide) (fun q6 => ?_) (fun q6 => ?_)
      · have hB := hB.1 q6
        refine lv_iload hx hb dX10_value_116 (lv_at hl 5 rfl) ?_
        refine lv_aload_n hx hb dX10_value_118 rfl (lv_at hl 1 rfl) ?_
        refine gf_X10_4 C Z.1 hg tw_3_88 dX10_value_119 ?_
        refine a_len (v := 50) C Z.1 (aT_2 hg) rfl dX10_value_122 ?_
        refine lv_icmp_ge (tgt := 168) hx hb dX10_value_123 (by decide) (fun q7 => ?_) (fun q7 => ?_)
        · have hB := hB.1 q7
          obtain ⟨x5_8, ex5_8⟩ : ∃ y : Int32, y = x5 + 1 := ⟨_, rfl⟩
          have hB := hB x5_8 ex5_8
          refine lv_iinc (v := x5_8) (lv' := [(5, .int x5_8), (6, .int x6_4), (0, .ref (ad g)), (1, .int x1), (2, .int x2), (3, .int x3), (4, .int x4)]) hx hb dX10_value_168 hl (k := 6) rfl (by rw [ex5_8]; rfl) (by decide) rfl (fun ls hl => ?_)
          refine lv_goto (tgt := 6) hx hb dX10_value_171 (by decide) ?_
          exact hX6 _ _ _ hB _ _ _ Z (lv_sub hl [2, 3, 4, 5, 6, 0] rfl)
        · have hB := hB.2 q7
          refine lv_aload_n hx hb dX10_value_126 rfl (lv_at hl 1 rfl) ?_
          refine gf_X10_4 C Z.1 hg tw_3_88 dX10_value_127 ?_
          refine lv_iload hx hb dX10_value_130 (lv_at hl 5 rfl) ?_
          refine lv_iload hx hb dX10_value_132 (lv_at hl 0 rfl) ?_
          refine lv_if_lt (tgt := 142) hx hb dX10_value_134 (by decide) (fun q9 => ?_) (fun q9 => ?_)
          · have hB := hB.1 q9
            refine lv_iload hx hb dX10_value_142 (lv_at hl 0 rfl) ?_
            refine lv_iconst (v := (-1)) hx hb dX10_value_144 (by decide) ?_
            refine lv_icmp_ne (tgt := 152) hx hb dX10_value_145 (by decide) (fun q10 => ?_) (fun q10 => ?_)
            · have hB := hB.1 q10
              refine lv_iload hx hb dX10_value_152 (lv_at hl 0 rfl) ?_
              refine lv_bipush (v := (-2)) hx hb dX10_value_154 (by decide) ?_
              refine lv_icmp_ne (tgt := 163) hx hb dX10_value_156 (by decide) (fun q11 => ?_) (fun q11 => ?_)
              · have hB := hB.1 q11
                refine lv_iload_n hx hb dX10_value_163 rfl (lv_at hl 4 rfl) ?_
                obtain ⟨q13, hB⟩ := hB
                refine a_st C Z (aT_2 hg) q13 dX10_value_164 (fun M12 H locs eM12 Z => ?_)
                have hB := hB M12 eM12
                obtain ⟨x4_14, ex4_14⟩ : ∃ y : Int32, y = x4 + 1 := ⟨_, rfl⟩
                have hB := hB x4_14 ex4_14
                refine lv_iinc (v := x4_14) (lv' := [(4, .int x4_14), (6, .int x6_4), (0, .ref (ad g)), (1, .int x1), (2, .int x2), (3, .int x3), (5, .int x5)]) hx hb dX10_value_165 hl (k := 5) rfl (by rw [ex4_14]; rfl) (by decide) rfl (fun ls hl => ?_)
                obtain ⟨x5_15, ex5_15⟩ : ∃ y : Int32, y = x5 + 1 := ⟨_, rfl⟩
                have hB := hB x5_15 ex5_15
                refine lv_iinc (v := x5_15) (lv' := [(5, .int x5_15), (4, .int x4_14), (6, .int x6_4), (0, .ref (ad g)), (1, .int x1), (2, .int x2), (3, .int x3)]) hx hb dX10_value_168 hl (k := 6) rfl (by rw [ex5_15]; rfl) (by decide) rfl (fun ls hl => ?_)
                refine lv_goto (tgt := 6) hx hb dX10_value_171 (by decide) ?_
                exact hX6 _ _ _ hB _ _ _ Z (lv_sub hl [3, 4, 5, 6, 1, 0] rfl)
              · have hB := hB.2 q11
                refine lv_iload_n hx hb dX10_value_159 rfl (lv_at hl 3 rfl) ?_
                refine lv_goto (tgt := 164) hx hb dX10_value_160 (by decide) ?_
                obtain ⟨q17, hB⟩ := hB
                refine a_st C Z (aT_2 hg) q17 dX10_value_164 (fun M16 H locs eM16 Z => ?_)
                have hB := hB M16 eM16
                obtain ⟨x4_18, ex4_18⟩ : ∃ y : Int32, y = x4 + 1 := ⟨_, rfl⟩
                have hB := hB x4_18 ex4_18
                refine lv_iinc (v := x4_18) (lv' := [(4, .int x4_18), (6, .int x6_4), (0, .ref (ad g)), (1, .int x1), (2, .int x2), (3, .int x3), (5, .int x5)]) hx hb dX10_value_165 hl (k := 5) rfl (by rw [ex4_18]; rfl) (by decide) rfl (fun ls hl => ?_)
                obtain ⟨x5_19, ex5_19⟩ : ∃ y : Int32, y = x5 + 1 := ⟨_, rfl⟩
                have hB := hB x5_19 ex5_19
                refine lv_iinc (v := x5_19) (lv' := [(5, .int x5_19), (4, .int x4_18), (6, .int x6_4), (0, .ref (ad g)), (1, .int x1), (2, .int x2), (3, .int x3)]) hx hb dX10_value_168 hl (k := 6) rfl (by rw [ex5_19]; rfl) (by decide) rfl (fun ls hl => ?_)
                refine lv_goto (tgt := 6) hx hb dX10_value_171 (by decide) ?_
                exact hX6 _ _ _ hB _ _ _ Z (lv_sub hl [3, 4, 5, 6, 1, 0] rfl)
            · have hB := hB.2 q10
              refine lv_iload_n hx hb dX10_value_148 rfl (lv_at hl 2 rfl) ?_
              refine lv_goto (tgt := 164) hx hb dX10_value_149 (by decide) ?_
              obtain ⟨q21, hB⟩ := hB
              refine a_st C Z (aT_2 hg) q21 dX10_value_164 (fun M20 H locs eM20 Z => ?_)
              have hB := hB M20 eM20
              obtain ⟨x4_22, ex4_22⟩ : ∃ y : Int32, y = x4 + 1 := ⟨_, rfl⟩
              have hB := hB x4_22 ex4_22
              refine lv_iinc (v := x4_22) (lv' := [(4, .int x4_22), (6, .int x6_4), (0, .ref (ad g)), (1, .int x1), (2, .int x2), (3, .int x3), (5, .int x5)]) hx hb dX10_value_165 hl (k := 5) rfl (by rw [ex4_22]; rfl) (by decide) rfl (fun ls hl => ?_)
              obtain ⟨x5_23, ex5_23⟩ : ∃ y : Int32, y = x5 + 1 := ⟨_, rfl⟩
              have hB := hB x5_23 ex5_23
              refine lv_iinc (v := x5_23) (lv' := [(5, .int x5_23), (4, .int x4_22), (6, .int x6_4), (0, .ref (ad g)), (1, .int x1), (2, .int x2), (3, .int x3)]) hx hb dX10_value_168 hl (k := 6) rfl (by rw [ex5_23]; rfl) (by decide) rfl (fun ls hl => ?_)
              refine lv_goto (tgt := 6) hx hb dX10_value_171 (by decide) ?_
              exact hX6 _ _ _ hB _ _ _ Z (lv_sub hl [3, 4, 5, 6, 1, 0] rfl)
          · have hB := hB.2 q9
            refine lv_iload hx hb dX10_value_137 (lv_at hl 0 rfl) ?_
            refine lv_goto (tgt := 164) hx hb dX10_value_139 (by decide) ?_
            obtain ⟨q25, hB⟩ := hB
            refine a_st C Z (aT_2 hg) q25 dX10_value_164 (fun M24 H locs eM24 Z => ?_)
            have hB := hB M24 eM24
            obtain ⟨x4_26, ex4_26⟩ : ∃ y : Int32, y = x4 + 1 := ⟨_, rfl⟩
            have hB := hB x4_26 ex4_26
            refine lv_iinc (v := x4_26) (lv' := [(4, .int x4_26), (6, .int x6_4), (0, .ref (ad g)), (1, .int x1), (2, .int x2), (3, .int x3), (5, .int x5)]) hx hb dX10_value_165 hl (k := 5) rfl (by rw [ex4_26]; rfl) (by decide) rfl (fun ls hl => ?_)
            obtain ⟨x5_27, ex5_27⟩ : ∃ y : Int32, y = x5 + 1 := ⟨_, rfl⟩
            have hB := hB x5_27 ex5_27
            refine lv_iinc (v := x5_27) (lv' := [(5, .int x5_27), (4, .int x4_26), (6, .int x6_4), (0, .ref (ad g)), (1, .int x1), (2, .int x2), (3, .int x3)]) hx hb dX10_value_168 hl (k := 6) rfl (by rw [ex5_27]; rfl) (by decide) rfl (fun ls hl => ?_)
            refine lv_goto (tgt := 6) hx hb dX10_value_171 (by decide) ?_
            exact hX6 _ _ _ hB _ _ _ Z (lv_sub hl [3, 4, 5, 6, 1, 0] rfl)
      · have hB := hB.2 q6
        refine lv_iload hx hb dX10_value_73 (lv_at hl 5 rfl) ?_
        refine lv_iconst (v := 2) hx hb dX10_value_75 (by decide) ?_
        refine lv_icmp_lt (tgt := 168) hx hb dX10_value_76 (by decide) (fun q28 => ?_) (fun q28 => ?_)
        · have hB := hB.1 q28
          obtain ⟨x5_29, ex5_29⟩ : ∃ y : Int32, y = x5 + 1 := ⟨_, rfl⟩
          have hB := hB x5_29 ex5_29
          refine lv_iinc (v := x5_29) (lv' := [(5, .int x5_29), (6, .int x6_4), (0, .ref (ad g)), (1, .int x1), (2, .int x2), (3, .int x3), (4, .int x4)]) hx hb dX10_value_168 hl (k := 6) rfl (by rw [ex5_29]; rfl) (by decide) rfl (fun ls hl => ?_)
          refine lv_goto (tgt := 6) hx hb dX10_value_171 (by decide) ?_
          exact hX6 _ _ _ hB _ _ _ Z (lv_sub hl [2, 3, 4, 5, 6, 0] rfl)
        · have hB := hB.2 q28
          obtain ⟨x4_30, ex4_30⟩ : ∃ y : Int32, y = x4 + (-1) := ⟨_, rfl⟩
          have hB := hB x4_30 ex4_30
          refine lv_iinc (v := x4_30) (lv' := [(4, .int x4_30), (6, .int x6_4), (0, .ref (ad g)), (1, .int x1), (2, .int x2), (3, .int x3), (5, .int x5)]) hx hb dX10_value_79 hl (k := 5) rfl (by rw [ex4_30]; rfl) (by decide) rfl (fun ls hl => ?_)
          refine lv_aload_n hx hb dX10_value_82 rfl (lv_at hl 2 rfl) ?_
          refine gf_X10_4 C Z.1 hg tw_3_88 dX10_value_83 ?_
          refine lv_iload hx hb dX10_value_86 (lv_at hl 0 rfl) ?_
          refine lv_iconst (v := 1) hx hb dX10_value_88 (by decide) ?_
          refine lv_isub hx hb dX10_value_89 ?_
          refine lv_iload hx hb dX10_value_90 (lv_at hl 1 rfl) ?_
          refine lv_ineg hx hb dX10_value_92 ?_
          refine lv_aload_n hx hb dX10_value_93 rfl (lv_at hl 2 rfl) ?_
          refine gf_X10_4 C Z.1 hg tw_3_88 dX10_value_94 ?_
          refine lv_iload hx hb dX10_value_97 (lv_at hl 0 rfl) ?_
          refine lv_iconst (v := 1) hx hb dX10_value_99 (by decide) ?_
          refine lv_isub hx hb dX10_value_100 ?_
          obtain ⟨q31, hB⟩ := hB
          refine a_ld C Z.1 (aT_2 hg) q31 dX10_value_101 ?_
          refine lv_aload_n hx hb dX10_value_102 rfl (lv_at hl 2 rfl) ?_
          refine gf_X10_4 C Z.1 hg tw_3_88 dX10_value_103 ?_
          refine lv_iload hx hb dX10_value_106 (lv_at hl 0 rfl) ?_
          obtain ⟨q32, hB⟩ := hB
          refine a_ld C Z.1 (aT_2 hg) q32 dX10_value_108 ?_
          refine v_X10_joined C.1 hl.1 tw_2_179 ⟨Nat.le_of_ble_eq_true rfl, Nat.le_of_ble_eq_true rfl⟩ ⟨Nat.le_refl _, Nat.le_refl _⟩ (Nat.le_of_ble_eq_true rfl) dX10_value_109 hB (fun v33 hB => ?_)
          obtain ⟨q35, hB⟩ := hB
          refine a_st C Z (aT_2 hg) q35 dX10_value_112 (fun M34 H locs eM34 Z => ?_)
          have hB := hB M34 eM34
          refine lv_goto (tgt := 168) hx hb dX10_value_113 (by decide) ?_
          obtain ⟨x5_36, ex5_36⟩ : ∃ y : Int32, y = x5 + 1 := ⟨_, rfl⟩
          have hB := hB x5_36 ex5_36
          refine lv_iinc (v := x5_36) (lv' := [(5, .int x5_36), (4, .int x4_30), (6, .int x6_4), (0, .ref (ad g)), (1, .int x1), (2, .int x2), (3, .int x3)]) hx hb dX10_value_168 hl (k := 6) rfl (by rw [ex5_36]; rfl) (by decide) rfl (fun ls hl => ?_)
          refine lv_goto (tgt := 6) hx hb dX10_value_171 (by decide) ?_
          exact hX6 _ _ _ hB _ _ _ Z (lv_sub hl [3, 4, 5, 6, 1, 0] rfl)
    · have hB := hB.2 q5
      refine lv_iload hx hb dX10_value_31 (lv_at hl 5 rfl) ?_
      refine lv_iconst (v := 1) hx hb dX10_value_33 (by decide) ?_
      refine lv_icmp_lt (tgt := 168) hx hb dX10_value_34 (by decide) (fun q37 => ?_) (fun q37 => ?_)
      · have hB := hB.1 q37
        obtain ⟨x5_38, ex5_38⟩ : ∃ y : Int32, y = x5 + 1 := ⟨_, rfl⟩
        have hB := hB x5_38 ex5_38
        refine lv_iinc (v := x5_38) (lv' := [(5, .int x5_38), (6, .int x6_4), (0, .ref (ad g)), (1, .int x1), (2, .int x2), (3, .int x3), (4, .int x4)]) hx hb dX10_value_168 hl (k := 6) rfl (by rw [ex5_38]; rfl) (by decide) rfl (fun ls hl => ?_)
        refine lv_goto (tgt := 6) hx hb dX10_value_171 (by decide) ?_
        exact hX6 _ _ _ hB _ _ _ Z (lv_sub hl [2, 3, 4, 5, 6, 0] rfl)
      · have hB := hB.2 q37
        refine lv_aload_n hx hb dX10_value_37 rfl (lv_at hl 1 rfl) ?_
        refine gf_X10_4 C Z.1 hg tw_3_88 dX10_value_38 ?_
        refine lv_iload hx hb dX10_value_41 (lv_at hl 5 rfl) ?_
        refine lv_iconst (v := 1) hx hb dX10_value_43 (by decide) ?_
        refine lv_isub hx hb dX10_value_44 ?_
        refine lv_aload_n hx hb dX10_value_45 rfl (lv_at hl 1 rfl) ?_
        refine gf_X10_4 C Z.1 hg tw_3_88 dX10_value_46 ?_
        refine lv_iload hx hb dX10_value_49 (lv_at hl 5 rfl) ?_
        refine lv_iconst (v := 1) hx hb dX10_value_51 (by decide) ?_
        refine lv_isub hx hb dX10_value_52 ?_
        obtain ⟨q39, hB⟩ := hB
        refine a_ld C Z.1 (aT_2 hg) q39 dX10_value_53 ?_
        refine lv_if_ne (tgt := 61) hx hb dX10_value_54 (by decide) (fun q40 => ?_) (fun q40 => ?_)
        · have hB := hB.1 q40
          refine lv_iconst (v := 0) hx hb dX10_value_61 (by decide) ?_
          obtain ⟨q42, hB⟩ := hB
          refine a_st C Z (aT_2 hg) q42 dX10_value_62 (fun M41 H locs eM41 Z => ?_)
          have hB := hB M41 eM41
          refine lv_goto (tgt := 168) hx hb dX10_value_63 (by decide) ?_
          obtain ⟨x5_43, ex5_43⟩ : ∃ y : Int32, y = x5 + 1 := ⟨_, rfl⟩
          have hB := hB x5_43 ex5_43
          refine lv_iinc (v := x5_43) (lv' := [(5, .int x5_43), (6, .int x6_4), (0, .ref (ad g)), (1, .int x1), (2, .int x2), (3, .int x3), (4, .int x4)]) hx hb dX10_value_168 hl (k := 6) rfl (by rw [ex5_43]; rfl) (by decide) rfl (fun ls hl => ?_)
          refine lv_goto (tgt := 6) hx hb dX10_value_171 (by decide) ?_
          exact hX6 _ _ _ hB _ _ _ Z (lv_sub hl [2, 3, 4, 5, 6, 0] rfl)
        · have hB := hB.2 q40
          refine lv_iconst (v := 1) hx hb dX10_value_57 (by decide) ?_
          refine lv_goto (tgt := 62) hx hb dX10_value_58 (by decide) ?_
          obtain ⟨q45, hB⟩ := hB
          refine a_st C Z (aT_2 hg) q45 dX10_value_62 (fun M44 H locs eM44 Z => ?_)
          have hB := hB M44 eM44
          refine lv_goto (tgt := 168) hx hb dX10_value_63 (by decide) ?_
          obtain ⟨x5_46, ex5_46⟩ : ∃ y : Int32, y = x5 + 1 := ⟨_, rfl⟩
          have hB := hB x5_46 ex5_46
          refine lv_iinc (v := x5_46) (lv' := [(5, .int x5_46), (6, .int x6_4), (0, .ref (ad g)), (1, .int x1), (2, .int x2), (3, .int x3), (4, .int x4)]) hx hb dX10_value_168 hl (k := 6) rfl (by rw [ex5_46]; rfl) (by decide) rfl (fun ls hl => ?_)
          refine lv_goto (tgt := 6) hx hb dX10_value_171 (by decide) ?_
          exact hX6 _ _ _ hB _ _ _ Z (lv_sub hl [2, 3, 4, 5, 6, 0] rfl)
set_option maxRecDepth 100000 in
set_option maxHeartbeats 4000000 in
theorem c_X10_value {l : Launch} {T : Nat → ClassId} {D : va_G} {ad : Nat → Nat} {K : Nat} {M : Mem} {g : Nat} {x1 : Int32} {x2 : Int32} {x3 : Int32} {sz : Nat} {Q1 : Int32 → Mem → Prop} (hg : isT K g) (hB : P_X10_value K M g x1 x2 x3 Q1) : Met l yX10_value (Cond.code yX10_value cX10_value 7 (some .int) :: TB) (RM 2) (va_Pc [.ref (ad g), .int x1, .int x2, .int x3] (WrP EC T D ad (69 + K) M sz)) (QcW EC T D ad (69 + K) (AA ad (69 + K) sz) Q1) 0 0 (AA ad (69 + K) sz) := by
  refine st_W (by decide) (Nat.le_of_ble_eq_true rfl) (fun p e s m args below meth c ls C hr hlk hsz Z hl => ?_)
  have hl : lv_has ls 7 [(0, .ref (ad g)), (1, .int x1), (2, .int x2), (3, .int x3)] := hl
  generalize AA ad (69 + K) sz = A at Z ⊢
  have hx := C.x
  have hb := C.b
  delta P_X10_value at hB
  refine lv_iconst (v := 0) hx hb dX10_value_0 (by decide) ?_
  refine lv_istore (lv' := [(4, .int 0), (0, .ref (ad g)), (1, .int x1), (2, .int x2), (3, .int x3)]) hx hb dX10_value_1 hl (by decide) rfl (fun ls hl => ?_)
  refine lv_iconst (v := 0) hx hb dX10_value_3 (by decide) ?_
  refine lv_istore (lv' := [(5, .int 0), (4, .int 0), (0, .ref (ad g)), (1, .int x1), (2, .int x2), (3, .int x3)]) hx hb dX10_value_4 hl (by decide) rfl (fun ls hl => ?_)
  exact w_X10_value_6 C hr hlk Z hg (lv_sub hl [2, 3, 4, 5, 1, 0] rfl) hB
set_option maxRecDepth 100000 in
set_option maxHeartbeats 4000000 in
theorem v_X10_value {K : Nat} {M : Mem} {g : Nat} {x1 : Int32} {x2 : Int32} {x3 : Int32} {Q1 : Int32 → Mem → Prop} (C : Cx T D p s m args c cc nL own) (hls : ls.size = nL) (Z : Zz EC T D ad (69 + K) A H0 M H locs) (hg : isT K g) (hlink : Cond.methodLink own index yX10_value ∈ TB) (hR : 2 + 1 ≤ R.frames ∧ 8 + (7 + 11) + 48 * 2 ≤ R.locals) (hcs : cells ≤ R.cells ∧ slots ≤ R.slots) (hcat : (rest.map fun v => v.category).sum ≤ 8) (hdg : decode cc pc = .ok (.invokevirtual index, 3)) (hB : P_X10_value K M g x1 x2 x3 Q1)
    (kk : ∀ (r : Int32) (M1 : Mem) (H1 : Heap) (locs1 : List Loc), Q1 r M1 → Zz EC T D ad (69 + K) A H0 M1 H1 locs1 → W p l e R s m args below meth c H1 locs1 cells slots QQ (F0 m (pc + 3) ls (.int r :: rest))) : W p l e R s m args below meth c H locs cells slots QQ (F0 m pc ls (.int x3 :: .int x2 :: .int x1 :: .ref (ad g) :: rest)) :=
  k_VW (ci := 10) (n := 3) (c_X10_value hg hB) tw_2_178 tw_2_176 tw_2_177 tw_1_15 ⟨rfl, by decide, by decide, by decide +kernel⟩ rfl rfl C hls Z (oT hg) hlink hR hcs hcat rfl hdg kk
def B_X2_airBy_44 (K : Nat) (g : Nat) (Q1 : Int32 → Mem → Prop) (x1 : Int32) (x2 : Int32) (r3 : Nat) (M : Mem) : Prop :=
  P_X10_value K M r3 x1 x2 (M g 10) (fun v7 M8 => P_X2_heldAir v7 (fun v9 => Q1 v9 M8))
def B_X2_airBy_113 (K : Nat) (g : Nat) (Q1 : Int32 → Mem → Prop) (r3 : Nat) (x4 : Int32) (M : Mem) : Prop :=
  vp_in x4 2701 ∧ Q1 ((M 2 x4.toNatClampNeg) &&& 127) M
def P_X2_airBy (K : Nat) (M : Mem) (g : Nat) (x1 : Int32) (x2 : Int32) (Q1 : Int32 → Mem → Prop) : Prop :=
  ∀ u1 : Int32, u1 = M (g + 12) 0 → ((u1 = 0 → P_X2_heldAir ((2 * x1) + (x2 / 2)) (fun v4 => Q1 v4 M)) ∧
    (¬ u1 = 0 → isT K u1.toNatClampNeg ∧ P_X2_memoPlace x1 x2 (fun v5 => ((v5 < 0 → B_X2_airBy_44 K g Q1 x1 x2 (u1.toNatClampNeg) M) ∧
      (¬ v5 < 0 → ((v5 < 2701 → ∀ x5_11 : Int32, x5_11 = ((M (u1.toNatClampNeg) 0) * 24) + (M g 10) → vp_in v5 2701 ∧ ((((M 2 v5.toNatClampNeg) >>> (7 &&& 31)) = x5_11 → B_X2_airBy_113 K g Q1 (u1.toNatClampNeg) v5 M) ∧
          (¬ ((M 2 v5.toNatClampNeg) >>> (7 &&& 31)) = x5_11 → P_X10_value K M (u1.toNatClampNeg) x1 x2 (M g 10) (fun v15 M16 => P_X2_heldAir v15 (fun v17 => vp_in v5 2701 ∧ ∀ M18 : Mem, M18 = sf M16 2 v5.toNatClampNeg ((x5_11 <<< (7 &&& 31)) ||| v17) → B_X2_airBy_113 K g Q1 (u1.toNatClampNeg) v5 M18))))) ∧
        (¬ v5 < 2701 → B_X2_airBy_44 K g Q1 x1 x2 (u1.toNatClampNeg) M)))))))
set_option maxRecDepth 100000 in
set_option maxHeartbeats 4000000 in
theorem w_X2_airBy_44 {K : Nat} {g : Nat} {M : Mem} {Q1 : Int32 → Mem → Prop} {x1 : Int32} {x2 : Int32} {r3 : Nat} (C : Cx T D p s m args c cX2_airBy 6 "OneOfTwo$House") (hr : meth.sig.returnType = (some .int)) (hlk : meth.locks = false) (Z : Zz EC T D ad (69 + K) A s.heap M H locs) (hg : isH g) (f3 : isT K r3) {ls : Array Slot} (hl : lv_has ls 6 [(0, .ref (ad g)), (1, .int x1), (2, .int x2), (3, .ref (ad r3))]) (hB : B_X2_airBy_44 K g Q1 x1 x2 r3 M) : W p l e (RM 3) s m args below meth c H locs 0 0 (MQ below (QcW EC T D ad (69 + K) A Q1) args s 0 0 A) (F0 m 44 ls []) := by
  have hx := C.x
  have hb := C.b
  delta B_X2_airBy_44 at hB
  refine lv_aload_n hx hb dX2_airBy_44 rfl (lv_at hl 3 rfl) ?_
  refine lv_iload_n hx hb dX2_airBy_45 rfl (lv_at hl 1 rfl) ?_
  refine lv_iload_n hx hb dX2_airBy_46 rfl (lv_at hl 2 rfl) ?_
  refine lv_aload_n hx hb dX2_airBy_47 rfl (lv_at hl 0 rfl) ?_
  refine gf_X2_10 C Z.1 hg tw_1_155 dX2_airBy_48 ?_
  refine v_X10_value C hl.1 Z f3 tw_2_175 ⟨Nat.le_of_ble_eq_true rfl, Nat.le_of_ble_eq_true rfl⟩ ⟨Nat.le_refl _, Nat.le_refl _⟩ (Nat.le_of_ble_eq_true rfl) dX2_airBy_51 hB (fun v7 M8 H locs hB Z => ?_)
  refine v_X2_heldAir C.1 hl.1 tw_2_163 ⟨Nat.le_of_ble_eq_true rfl, Nat.le_of_ble_eq_true rfl⟩ ⟨Nat.le_refl _, Nat.le_refl _⟩ (Nat.le_of_ble_eq_true rfl) dX2_airBy_54 hB (fun v9 hB => ?_)
  exact e_iW C hr hlk Z dX2_airBy_57 hB
set_option maxRecDepth 100000 in
set_option maxHeartbeats 4000000 in
theorem w_X2_airBy_113 {K : Nat} {g : Nat} {M : Mem} {Q1 : Int32 → Mem → Prop} {r3 : Nat} {x4 : Int32} (C : Cx T D p s m args c cX2_airBy 6 "OneOfTwo$House") (hr : meth.sig.returnType = (some .int)) (hlk : meth.locks = false) (Z : Zz EC T D ad (69 + K) A s.heap M H locs) (hg : isH g) (f3 : isT K r3) {ls : Array Slot} (hl : lv_has ls 6 [(3, .ref (ad r3)), (4, .int x4)]) (hB : B_X2_airBy_113 K g Q1 r3 x4 M) : W p l e (RM 3) s m args below meth c H locs 0 0 (MQ below (QcW EC T D ad (69 + K) A Q1) args s 0 0 A) (F0 m 113 ls []) := by
  have hx := C.x
  have hb := C.b
  delta B_X2_airBy_113 at hB
  refine lv_aload_n hx hb dX2_airBy_113 rfl (lv_at hl 0 rfl) ?_
  refine gf_X10_1 C Z.1 f3 tw_3_85 dX2_airBy_114 ?_
  refine lv_iload hx hb dX2_airBy_117 (lv_at hl 1 rfl) ?_
  obtain ⟨q14, hB⟩ := hB
  refine a_ld C Z.1 aC_2 q14 dX2_airBy_119 ?_
  refine lv_bipush (v := 127) hx hb dX2_airBy_120 (by decide) ?_
  refine lv_iand hx hb dX2_airBy_122 ?_
  exact e_iW C hr hlk Z dX2_airBy_123 hB
set_option maxRecDepth 100000 in
set_option maxHeartbeats 4000000 in
theorem c_X2_airBy {l : Launch} {T : Nat → ClassId} {D : va_G} {ad : Nat → Nat} {K : Nat} {M : Mem} {g : Nat} {x1 : Int32} {x2 : Int32} {sz : Nat} {Q1 : Int32 → Mem → Prop} (hg : isH g) (hB : P_X2_airBy K M g x1 x2 Q1) : Met l yX2_airBy (Cond.code yX2_airBy cX2_airBy 6 (some .int) :: TB) (RM 3) (va_Pc [.ref (ad g), .int x1, .int x2] (WrP EC T D ad (69 + K) M sz)) (QcW EC T D ad (69 + K) (AA ad (69 + K) sz) Q1) 0 0 (AA ad (69 + K) sz) := by
  refine st_W (by decide) (Nat.le_of_ble_eq_true rfl) (fun p e s m args below meth c ls C hr hlk hsz Z hl => ?_)
  have hl : lv_has ls 6 [(0, .ref (ad g)), (1, .int x1), (2, .int x2)] := hl
  generalize AA ad (69 + K) sz = A at Z ⊢
  have hx := C.x
  have hb := C.b
  delta P_X2_airBy at hB
  refine lv_aload_n hx hb dX2_airBy_0 rfl (lv_at hl 0 rfl) ?_
  refine gf_X2_18 C Z.1 hg tw_1_171 dX2_airBy_1 ?_
  refine lv_iconst (v := 0) hx hb dX2_airBy_4 (by decide) ?_
  obtain ⟨u1, eu1⟩ : ∃ y : Int32, y = M (g + 12) 0 := ⟨_, rfl⟩
  have hB := hB u1 eu1
  by_cases z2 : u1 = 0
  · have hB := hB.1 z2
    refine la_ldN C Z.1 hg (vin rfl) eu1 z2 rfl dX2_airBy_5 ?_
    refine lv_astore_nN (lv' := [(3, .null), (0, .ref (ad g)), (1, .int x1), (2, .int x2)]) hx hb dX2_airBy_6 rfl hl (by decide) rfl (fun ls hl => ?_)
    refine lv_aload_nN hx hb dX2_airBy_7 rfl (lv_at hl 0 rfl) ?_
    refine lv_ifnonnullN hx hb dX2_airBy_8 ?_
    refine lv_iconst (v := 2) hx hb dX2_airBy_11 (by decide) ?_
    refine lv_iload_n hx hb dX2_airBy_12 rfl (lv_at hl 2 rfl) ?_
    refine lv_imul hx hb dX2_airBy_13 ?_
    refine lv_iload_n hx hb dX2_airBy_14 rfl (lv_at hl 3 rfl) ?_
    refine lv_iconst (v := 2) hx hb dX2_airBy_15 (by decide) ?_
    refine lv_idiv hx hb dX2_airBy_16 (by decide) ?_
    refine lv_iadd hx hb dX2_airBy_17 ?_
    refine v_X2_heldAir C.1 hl.1 tw_2_163 ⟨Nat.le_of_ble_eq_true rfl, Nat.le_of_ble_eq_true rfl⟩ ⟨Nat.le_refl _, Nat.le_refl _⟩ (Nat.le_of_ble_eq_true rfl) dX2_airBy_18 hB (fun v4 hB => ?_)
    exact e_iW C hr hlk Z dX2_airBy_21 hB
  · obtain ⟨fh3, hB⟩ := hB.2 z2
    refine la_ld C Z.1 hg (vin rfl) eu1 z2 rfl dX2_airBy_5 ?_
    refine lv_astore_n (lv' := [(3, .ref (ad (u1.toNatClampNeg))), (0, .ref (ad g)), (1, .int x1), (2, .int x2)]) hx hb dX2_airBy_6 rfl hl (by decide) rfl (fun ls hl => ?_)
    refine lv_aload_n hx hb dX2_airBy_7 rfl (lv_at hl 0 rfl) ?_
    refine lv_ifnonnull (tgt := 22) hx hb dX2_airBy_8 (by decide) ?_
    refine lv_iload_n hx hb dX2_airBy_22 rfl (lv_at hl 2 rfl) ?_
    refine lv_iload_n hx hb dX2_airBy_23 rfl (lv_at hl 3 rfl) ?_
    refine v_X2_memoPlace C.1 hl.1 tw_2_172 ⟨Nat.le_of_ble_eq_true rfl, Nat.le_of_ble_eq_true rfl⟩ ⟨Nat.le_refl _, Nat.le_refl _⟩ (Nat.le_of_ble_eq_true rfl) dX2_airBy_24 hB (fun v5 hB => ?_)
    refine lv_istore (lv' := [(4, .int v5), (3, .ref (ad (u1.toNatClampNeg))), (0, .ref (ad g)), (1, .int x1), (2, .int x2)]) hx hb dX2_airBy_27 hl (by decide) rfl (fun ls hl => ?_)
    refine lv_iload hx hb dX2_airBy_29 (lv_at hl 0 rfl) ?_
    refine lv_if_lt (tgt := 44) hx hb dX2_airBy_31 (by decide) (fun q6 => ?_) (fun q6 => ?_)
    · have hB := hB.1 q6
      exact w_X2_airBy_44 C hr hlk Z hg fh3 (lv_sub hl [2, 3, 4, 1] rfl) hB
    · have hB := hB.2 q6
      refine lv_iload hx hb dX2_airBy_34 (lv_at hl 0 rfl) ?_
      refine lv_aload_n hx hb dX2_airBy_36 rfl (lv_at hl 1 rfl) ?_
      refine gf_X10_1 C Z.1 fh3 tw_3_85 dX2_airBy_37 ?_
      refine a_len (v := 2701) C Z.1 aC_2 rfl dX2_airBy_40 ?_
      refine lv_icmp_lt (tgt := 58) hx hb dX2_airBy_41 (by decide) (fun q10 => ?_) (fun q10 => ?_)
      · have hB := hB.1 q10
        refine lv_aload_n hx hb dX2_airBy_58 rfl (lv_at hl 1 rfl) ?_
        refine gf_X10_0 C Z.1 fh3 tw_3_83 dX2_airBy_59 ?_
        refine lv_bipush (v := 24) hx hb dX2_airBy_62 (by decide) ?_
        refine lv_imul hx hb dX2_airBy_64 ?_
        refine lv_aload_n hx hb dX2_airBy_65 rfl (lv_at hl 2 rfl) ?_
        refine gf_X2_10 C Z.1 hg tw_1_155 dX2_airBy_66 ?_
        refine lv_iadd hx hb dX2_airBy_69 ?_
        refine lv_topi (fun x5_11 ex5_11 => ?_)
        have hB := hB x5_11 ex5_11
        refine lv_istore (lv' := [(5, .int x5_11), (4, .int v5), (3, .ref (ad (u1.toNatClampNeg))), (0, .ref (ad g)), (1, .int x1), (2, .int x2)]) hx hb dX2_airBy_70 hl (by decide) rfl (fun ls hl => ?_)
        refine lv_aload_n hx hb dX2_airBy_72 rfl (lv_at hl 2 rfl) ?_
        refine gf_X10_1 C Z.1 fh3 tw_3_85 dX2_airBy_73 ?_
        refine lv_iload hx hb dX2_airBy_76 (lv_at hl 1 rfl) ?_
        obtain ⟨q12, hB⟩ := hB
        refine a_ld C Z.1 aC_2 q12 dX2_airBy_78 ?_
        refine lv_bipush (v := 7) hx hb dX2_airBy_79 (by decide) ?_
        refine lv_ishr hx hb dX2_airBy_81 ?_
        refine lv_iload hx hb dX2_airBy_82 (lv_at hl 0 rfl) ?_
        refine lv_icmp_eq (tgt := 113) hx hb dX2_airBy_84 (by decide) (fun q13 => ?_) (fun q13 => ?_)
        · have hB := hB.1 q13
          exact w_X2_airBy_113 C hr hlk Z hg fh3 (lv_sub hl [2, 1] rfl) hB
        · have hB := hB.2 q13
          refine lv_aload_n hx hb dX2_airBy_87 rfl (lv_at hl 2 rfl) ?_
          refine gf_X10_1 C Z.1 fh3 tw_3_85 dX2_airBy_88 ?_
          refine lv_iload hx hb dX2_airBy_91 (lv_at hl 1 rfl) ?_
          refine lv_iload hx hb dX2_airBy_93 (lv_at hl 0 rfl) ?_
          refine lv_bipush (v := 7) hx hb dX2_airBy_95 (by decide) ?_
          refine lv_ishl hx hb dX2_airBy_97 ?_
          refine lv_aload_n hx hb dX2_airBy_98 rfl (lv_at hl 2 rfl) ?_
          refine lv_iload_n hx hb dX2_airBy_99 rfl (lv_at hl 4 rfl) ?_
          refine lv_iload_n hx hb dX2_airBy_100 rfl (lv_at hl 5 rfl) ?_
          refine lv_aload_n hx hb dX2_airBy_101 rfl (lv_at hl 3 rfl) ?_
          refine gf_X2_10 C Z.1 hg tw_1_155 dX2_airBy_102 ?_
          refine v_X10_value C hl.1 Z fh3 tw_2_175 ⟨Nat.le_of_ble_eq_true rfl, Nat.le_of_ble_eq_true rfl⟩ ⟨Nat.le_refl _, Nat.le_refl _⟩ (Nat.le_of_ble_eq_true rfl) dX2_airBy_105 hB (fun v15 M16 H locs hB Z => ?_)
          refine v_X2_heldAir C.1 hl.1 tw_2_163 ⟨Nat.le_of_ble_eq_true rfl, Nat.le_of_ble_eq_true rfl⟩ ⟨Nat.le_refl _, Nat.le_refl _⟩ (Nat.le_of_ble_eq_true rfl) dX2_airBy_108 hB (fun v17 hB => ?_)
          refine lv_ior hx hb dX2_airBy_111 ?_
          obtain ⟨q19, hB⟩ := hB
          refine a_st C Z aC_2 q19 dX2_airBy_112 (fun M18 H locs eM18 Z => ?_)
          have hB := hB M18 eM18
          exact w_X2_airBy_113 C hr hlk Z hg fh3 (lv_sub hl [2, 1] rfl) hB
      · have hB := hB.2 q10
        exact w_X2_airBy_44 C hr hlk Z hg fh3 (lv_sub hl [2, 3, 4, 1] rfl) hB
set_option maxRecDepth 100000 in
set_option maxHeartbeats 4000000 in
theorem v_X2_airBy {K : Nat} {M : Mem} {g : Nat} {x1 : Int32} {x2 : Int32} {Q1 : Int32 → Mem → Prop} (C : Cx T D p s m args c cc nL own) (hls : ls.size = nL) (Z : Zz EC T D ad (69 + K) A H0 M H locs) (hg : isH g) (hlink : Cond.methodLink own index yX2_airBy ∈ TB) (hR : 3 + 1 ≤ R.frames ∧ 8 + (6 + 11) + 48 * 3 ≤ R.locals) (hcs : cells ≤ R.cells ∧ slots ≤ R.slots) (hcat : (rest.map fun v => v.category).sum ≤ 8) (hdg : decode cc pc = .ok (.invokevirtual index, 3)) (hB : P_X2_airBy K M g x1 x2 Q1)
    (kk : ∀ (r : Int32) (M1 : Mem) (H1 : Heap) (locs1 : List Loc), Q1 r M1 → Zz EC T D ad (69 + K) A H0 M1 H1 locs1 → W p l e R s m args below meth c H1 locs1 cells slots QQ (F0 m (pc + 3) ls (.int r :: rest))) : W p l e R s m args below meth c H locs cells slots QQ (F0 m pc ls (.int x2 :: .int x1 :: .ref (ad g) :: rest)) :=
  k_VW (ci := 2) (n := 2) (c_X2_airBy hg hB) tw_2_162 tw_2_160 tw_2_161 tw_1_10 ⟨rfl, by decide, by decide, by decide +kernel⟩ rfl rfl C hls Z (oH hg) hlink hR hcs hcat rfl hdg kk
def P_X2_airOf (K : Nat) (M : Mem) (g : Nat) (x1 : Int32) (Q1 : Int32 → Mem → Prop) : Prop :=
  P_X2_openIn K M g x1 (fun v1 => P_X2_openBeside K M g x1 (fun v2 => P_X2_airBy K M g v1 v2 (fun v3 M4 => Q1 v3 M4)))
set_option maxRecDepth 100000 in
set_option maxHeartbeats 4000000 in
theorem c_X2_airOf {l : Launch} {T : Nat → ClassId} {D : va_G} {ad : Nat → Nat} {K : Nat} {M : Mem} {g : Nat} {x1 : Int32} {sz : Nat} {Q1 : Int32 → Mem → Prop} (hg : isH g) (hB : P_X2_airOf K M g x1 Q1) : Met l yX2_airOf (Cond.code yX2_airOf cX2_airOf 2 (some .int) :: TB) (RM 4) (va_Pc [.ref (ad g), .int x1] (WrP EC T D ad (69 + K) M sz)) (QcW EC T D ad (69 + K) (AA ad (69 + K) sz) Q1) 0 0 (AA ad (69 + K) sz) := by
  refine st_W (by decide) (Nat.le_of_ble_eq_true rfl) (fun p e s m args below meth c ls C hr hlk hsz Z hl => ?_)
  have hl : lv_has ls 2 [(0, .ref (ad g)), (1, .int x1)] := hl
  generalize AA ad (69 + K) sz = A at Z ⊢
  have hx := C.x
  have hb := C.b
  delta P_X2_airOf at hB
  refine lv_aload_n hx hb dX2_airOf_0 rfl (lv_at hl 0 rfl) ?_
  refine lv_aload_n hx hb dX2_airOf_1 rfl (lv_at hl 0 rfl) ?_
  refine lv_iload_n hx hb dX2_airOf_2 rfl (lv_at hl 1 rfl) ?_
  refine v_X2_openIn C hl.1 Z.1 hg tw_2_151 ⟨Nat.le_of_ble_eq_true rfl, Nat.le_of_ble_eq_true rfl⟩ ⟨Nat.le_refl _, Nat.le_refl _⟩ (Nat.le_of_ble_eq_true rfl) dX2_airOf_3 hB (fun v1 hB => ?_)
  refine lv_aload_n hx hb dX2_airOf_6 rfl (lv_at hl 0 rfl) ?_
  refine lv_iload_n hx hb dX2_airOf_7 rfl (lv_at hl 1 rfl) ?_
  refine v_X2_openBeside C hl.1 Z.1 hg tw_2_155 ⟨Nat.le_of_ble_eq_true rfl, Nat.le_of_ble_eq_true rfl⟩ ⟨Nat.le_refl _, Nat.le_refl _⟩ (Nat.le_of_ble_eq_true rfl) dX2_airOf_8 hB (fun v2 hB => ?_)
  refine v_X2_airBy C hl.1 Z hg tw_2_159 ⟨Nat.le_of_ble_eq_true rfl, Nat.le_of_ble_eq_true rfl⟩ ⟨Nat.le_refl _, Nat.le_refl _⟩ (Nat.le_of_ble_eq_true rfl) dX2_airOf_11 hB (fun v3 M4 H locs hB Z => ?_)
  exact e_iW C hr hlk Z dX2_airOf_14 hB
set_option maxRecDepth 100000 in
set_option maxHeartbeats 4000000 in
theorem v_X2_airOf {K : Nat} {M : Mem} {g : Nat} {x1 : Int32} {Q1 : Int32 → Mem → Prop} (C : Cx T D p s m args c cc nL own) (hls : ls.size = nL) (Z : Zz EC T D ad (69 + K) A H0 M H locs) (hg : isH g) (hlink : Cond.methodLink own index yX2_airOf ∈ TB) (hR : 4 + 1 ≤ R.frames ∧ 8 + (2 + 11) + 48 * 4 ≤ R.locals) (hcs : cells ≤ R.cells ∧ slots ≤ R.slots) (hcat : (rest.map fun v => v.category).sum ≤ 8) (hdg : decode cc pc = .ok (.invokevirtual index, 3)) (hB : P_X2_airOf K M g x1 Q1)
    (kk : ∀ (r : Int32) (M1 : Mem) (H1 : Heap) (locs1 : List Loc), Q1 r M1 → Zz EC T D ad (69 + K) A H0 M1 H1 locs1 → W p l e R s m args below meth c H1 locs1 cells slots QQ (F0 m (pc + 3) ls (.int r :: rest))) : W p l e R s m args below meth c H locs cells slots QQ (F0 m pc ls (.int x1 :: .ref (ad g) :: rest)) :=
  k_VW (ci := 2) (n := 1) (c_X2_airOf hg hB) tw_2_150 tw_2_148 tw_2_149 tw_1_10 ⟨rfl, by decide, by decide, by decide +kernel⟩ rfl rfl C hls Z (oH hg) hlink hR hcs hcat rfl hdg kk
def P_X11_air (K : Nat) (M : Mem) (x1 : Int32) (Q1 : Int32 → Mem → Prop) : Prop :=
  P_X11_isRoom x1 (fun v1 => ((¬ v1 = 0 → P_X2_airOf K M 30 x1 (fun v3 M4 => Q1 v3 M4)) ∧
    (v1 = 0 → P_X11_error K M 1 (fun v5 M6 => Q1 v5 M6))))
set_option maxRecDepth 100000 in
set_option maxHeartbeats 4000000 in
theorem c_X11_air {l : Launch} {T : Nat → ClassId} {D : va_G} {ad : Nat → Nat} {K : Nat} {M : Mem} {x1 : Int32} {sz : Nat} {Q1 : Int32 → Mem → Prop} (hB : P_X11_air K M x1 Q1) : Met l yX11_air (Cond.code yX11_air cX11_air 2 (some .int) :: TB) (RM 5) (va_Pc [.ref (ad 0), .int x1] (WrP EC T D ad (69 + K) M sz)) (QcW EC T D ad (69 + K) (AA ad (69 + K) sz) Q1) 0 0 (AA ad (69 + K) sz) := by
  refine st_W (by decide) (Nat.le_of_ble_eq_true rfl) (fun p e s m args below meth c ls C hr hlk hsz Z hl => ?_)
  have hl : lv_has ls 2 [(0, .ref (ad 0)), (1, .int x1)] := hl
  generalize AA ad (69 + K) sz = A at Z ⊢
  have hx := C.x
  have hb := C.b
  delta P_X11_air at hB
  refine lv_iload_n hx hb dX11_air_0 rfl (lv_at hl 1 rfl) ?_
  refine v_X11_isRoom C.1 hl.1 tw_2_50 ⟨Nat.le_of_ble_eq_true rfl, Nat.le_of_ble_eq_true rfl⟩ ⟨Nat.le_refl _, Nat.le_refl _⟩ (Nat.le_of_ble_eq_true rfl) dX11_air_1 hB (fun v1 hB => ?_)
  refine lv_if_ne (tgt := 13) hx hb dX11_air_4 (by decide) (fun q2 => ?_) (fun q2 => ?_)
  · have hB := hB.1 q2
    refine lv_aload_n hx hb dX11_air_13 rfl (lv_at hl 0 rfl) ?_
    refine gf_X11_5 C Z.1 tw_2_17 dX11_air_14 ?_
    refine lv_iload_n hx hb dX11_air_17 rfl (lv_at hl 1 rfl) ?_
    refine v_X2_airOf C hl.1 Z isH_0 tw_2_147 ⟨Nat.le_of_ble_eq_true rfl, Nat.le_of_ble_eq_true rfl⟩ ⟨Nat.le_refl _, Nat.le_refl _⟩ (Nat.le_of_ble_eq_true rfl) dX11_air_18 hB (fun v3 M4 H locs hB Z => ?_)
    exact e_iW C hr hlk Z dX11_air_21 hB
  · have hB := hB.2 q2
    refine lv_aload_n hx hb dX11_air_7 rfl (lv_at hl 0 rfl) ?_
    refine lv_iconst (v := 1) hx hb dX11_air_8 (by decide) ?_
    refine v_X11_error C hl.1 Z tw_2_56 ⟨Nat.le_of_ble_eq_true rfl, Nat.le_of_ble_eq_true rfl⟩ ⟨Nat.le_refl _, Nat.le_refl _⟩ (Nat.le_of_ble_eq_true rfl) dX11_air_9 hB (fun v5 M6 H locs hB Z => ?_)
    exact e_iW C hr hlk Z dX11_air_12 hB
set_option maxRecDepth 100000 in
set_option maxHeartbeats 4000000 in
theorem v_X11_air {K : Nat} {M : Mem} {x1 : Int32} {Q1 : Int32 → Mem → Prop} (C : Cx T D p s m args c cc nL own) (hls : ls.size = nL) (Z : Zz EC T D ad (69 + K) A H0 M H locs) (hlink : Cond.methodLink own index yX11_air ∈ TB) (hR : 5 + 1 ≤ R.frames ∧ 8 + (2 + 11) + 48 * 5 ≤ R.locals) (hcs : cells ≤ R.cells ∧ slots ≤ R.slots) (hcat : (rest.map fun v => v.category).sum ≤ 8) (hdg : decode cc pc = .ok (.invokevirtual index, 3)) (hB : P_X11_air K M x1 Q1)
    (kk : ∀ (r : Int32) (M1 : Mem) (H1 : Heap) (locs1 : List Loc), Q1 r M1 → Zz EC T D ad (69 + K) A H0 M1 H1 locs1 → W p l e R s m args below meth c H1 locs1 cells slots QQ (F0 m (pc + 3) ls (.int r :: rest))) : W p l e R s m args below meth c H locs cells slots QQ (F0 m pc ls (.int x1 :: .ref (ad 0) :: rest)) :=
  k_VW (ci := 11) (n := 1) (c_X11_air hB) tw_2_146 tw_2_144 tw_2_145 tw_1_1 ⟨rfl, by decide, by decide, by decide +kernel⟩ rfl rfl C hls Z oO hlink hR hcs hcat rfl hdg kk
def P_X11_isKindAndNumber (x0 : Int32) (Q1 : Int32 → Prop) : Prop :=
  ((x0 < 0 → Q1 0) ∧
    (¬ x0 < 0 → ((70 ≤ x0 → Q1 0) ∧
      (¬ 70 ≤ x0 → Q1 1))))
set_option maxRecDepth 100000 in
set_option maxHeartbeats 4000000 in
theorem c_X11_isKindAndNumber {l : Launch} {x0 : Int32} {Q1 : Int32 → Prop} (hB : P_X11_isKindAndNumber x0 Q1) : Met l yX11_isKindAndNumber (Cond.code yX11_isKindAndNumber cX11_isKindAndNumber 1 (some .boolean) :: TB) (RM 1) (va_Pc [.int x0] StP) (QcR Q1) 0 0 (fun _ => False) := by
  refine st_S (by decide) (Nat.le_of_ble_eq_true rfl) (fun p e s m args below meth c ls C hr hlk hl => ?_)
  have hl : lv_has ls 1 [(0, .int x0)] := hl
  have hx := C.1
  have hb := C.2.1
  delta P_X11_isKindAndNumber at hB
  refine lv_iload_n hx hb dX11_isKindAndNumber_0 rfl (lv_at hl 0 rfl) ?_
  refine lv_if_lt (tgt := 14) hx hb dX11_isKindAndNumber_1 (by decide) (fun q1 => ?_) (fun q1 => ?_)
  · have hB := hB.1 q1
    refine lv_iconst (v := 0) hx hb dX11_isKindAndNumber_14 (by decide) ?_
    exact e_zR C hr hlk dX11_isKindAndNumber_15 (Or.inl rfl) hB
  · have hB := hB.2 q1
    refine lv_iload_n hx hb dX11_isKindAndNumber_4 rfl (lv_at hl 0 rfl) ?_
    refine lv_bipush (v := 70) hx hb dX11_isKindAndNumber_5 (by decide) ?_
    refine lv_icmp_ge (tgt := 14) hx hb dX11_isKindAndNumber_7 (by decide) (fun q2 => ?_) (fun q2 => ?_)
    · have hB := hB.1 q2
      refine lv_iconst (v := 0) hx hb dX11_isKindAndNumber_14 (by decide) ?_
      exact e_zR C hr hlk dX11_isKindAndNumber_15 (Or.inl rfl) hB
    · have hB := hB.2 q2
      refine lv_iconst (v := 1) hx hb dX11_isKindAndNumber_10 (by decide) ?_
      refine lv_goto (tgt := 15) hx hb dX11_isKindAndNumber_11 (by decide) ?_
      exact e_zR C hr hlk dX11_isKindAndNumber_15 (Or.inr rfl) hB
set_option maxRecDepth 100000 in
set_option maxHeartbeats 4000000 in
theorem v_X11_isKindAndNumber {x0 : Int32} {Q1 : Int32 → Prop} (C : CallFix p m c cc nL s args TB own) (hls : ls.size = nL) (hlink : Cond.methodLink own index yX11_isKindAndNumber ∈ TB) (hR : 1 + 1 ≤ R.frames ∧ 8 + (1 + 11) + 48 * 1 ≤ R.locals) (hcs : cells ≤ R.cells ∧ slots ≤ R.slots) (hcat : (rest.map fun v => v.category).sum ≤ 8) (hdg : decode cc pc = .ok (.invokestatic index, 3)) (hB : P_X11_isKindAndNumber x0 Q1)
    (kk : ∀ r : Int32, Q1 r → W p l e R s m args below meth c H locs cells slots QQ (F0 m (pc + 3) ls (.int r :: rest))) : W p l e R s m args below meth c H locs cells slots QQ (F0 m pc ls (.int x0 :: rest)) :=
  k_S (n := 1) (c_X11_isKindAndNumber hB) tw_2_188 tw_2_187 tw_1_1 ⟨by decide, by decide, by decide +kernel⟩ rfl C hls  hlink hR hcs hcat rfl hdg kk
def P_X2_settle (K : Nat) (M : Mem) (g : Nat) (x1 : Int32) (x2 : Int32) (x3 : Int32) (Q1 : Mem → Prop) : Prop :=
  vp_in x1 6 ∧ ∀ M2 : Mem, M2 = sf M (g + 5) x1.toNatClampNeg x2 → vp_in x1 6 ∧ ∀ M3 : Mem, M3 = sf M2 (g + 6) x1.toNatClampNeg x3 → Q1 M3
set_option maxRecDepth 100000 in
set_option maxHeartbeats 4000000 in
theorem c_X2_settle {l : Launch} {T : Nat → ClassId} {D : va_G} {ad : Nat → Nat} {K : Nat} {M : Mem} {g : Nat} {x1 : Int32} {x2 : Int32} {x3 : Int32} {sz : Nat} {Q1 : Mem → Prop} (hg : isH g) (f2 : isKd_X3 x2) (hB : P_X2_settle K M g x1 x2 x3 Q1) : Met l yX2_settle (Cond.code yX2_settle cX2_settle 4 none :: TB) (RM 1) (va_Pc [.ref (ad g), .int x1, .ref (ad x2.toNatClampNeg), .int x3] (WrP EC T D ad (69 + K) M sz)) (QcV EC T D ad (69 + K) (AA ad (69 + K) sz) Q1) 0 0 (AA ad (69 + K) sz) := by
  refine st_W (by decide) (Nat.le_of_ble_eq_true rfl) (fun p e s m args below meth c ls C hr hlk hsz Z hl => ?_)
  have hl : lv_has ls 4 [(0, .ref (ad g)), (1, .int x1), (2, .ref (ad x2.toNatClampNeg)), (3, .int x3)] := hl
  generalize AA ad (69 + K) sz = A at Z ⊢
  have hx := C.x
  have hb := C.b
  delta P_X2_settle at hB
  refine lv_aload_n hx hb dX2_settle_0 rfl (lv_at hl 0 rfl) ?_
  refine gf_X2_7 C Z.1 hg tw_1_148 dX2_settle_1 ?_
  refine lv_iload_n hx hb dX2_settle_4 rfl (lv_at hl 1 rfl) ?_
  refine lv_aload_n hx hb dX2_settle_5 rfl (lv_at hl 2 rfl) ?_
  obtain ⟨q1, hB⟩ := hB
  refine hk_st C Z hg q1 f2 dX2_settle_6 (fun M2 H locs eM2 Z => ?_)
  have hB := hB M2 eM2
  refine lv_aload_n hx hb dX2_settle_7 rfl (lv_at hl 0 rfl) ?_
  refine gf_X2_8 C Z.1 hg tw_1_150 dX2_settle_8 ?_
  refine lv_iload_n hx hb dX2_settle_11 rfl (lv_at hl 1 rfl) ?_
  refine lv_iload_n hx hb dX2_settle_12 rfl (lv_at hl 3 rfl) ?_
  obtain ⟨q4, hB⟩ := hB
  refine a_st C Z (aH_6 hg) q4 dX2_settle_13 (fun M3 H locs eM3 Z => ?_)
  have hB := hB M3 eM3
  exact e_vW C hr hlk Z dX2_settle_14 hB
set_option maxRecDepth 100000 in
set_option maxHeartbeats 4000000 in
theorem v_X2_settle {K : Nat} {M : Mem} {g : Nat} {x1 : Int32} {x2 : Int32} {x3 : Int32} {Q1 : Mem → Prop} (C : Cx T D p s m args c cc nL own) (hls : ls.size = nL) (Z : Zz EC T D ad (69 + K) A H0 M H locs) (hg : isH g) (f2 : isKd_X3 x2) (hlink : Cond.methodLink own index yX2_settle ∈ TB) (hR : 1 + 1 ≤ R.frames ∧ 8 + (4 + 11) + 48 * 1 ≤ R.locals) (hcs : cells ≤ R.cells ∧ slots ≤ R.slots) (hcat : (rest.map fun v => v.category).sum ≤ 8) (hdg : decode cc pc = .ok (.invokevirtual index, 3)) (hB : P_X2_settle K M g x1 x2 x3 Q1)
    (kk : ∀ (M1 : Mem) (H1 : Heap) (locs1 : List Loc), Q1 M1 → Zz EC T D ad (69 + K) A H0 M1 H1 locs1 → W p l e R s m args below meth c H1 locs1 cells slots QQ (F0 m (pc + 3) ls rest)) : W p l e R s m args below meth c H locs cells slots QQ (F0 m pc ls (.int x3 :: .ref (ad x2.toNatClampNeg) :: .int x1 :: .ref (ad g) :: rest)) :=
  k_VV (ci := 2) (n := 3) (c_X2_settle hg f2 hB) tw_2_192 tw_2_190 tw_2_191 tw_1_10 ⟨rfl, by decide, by decide, by decide +kernel⟩ rfl rfl C hls Z (oH hg) hlink hR hcs hcat rfl hdg kk
def P_X11_lodger (K : Nat) (M : Mem) (x1 : Int32) (x2 : Int32) (Q1 : Int32 → Mem → Prop) : Prop :=
  P_X11_isKindAndNumber x1 (fun v1 => ((v1 = 0 → P_X11_error K M 1 (fun v3 M4 => Q1 v3 M4)) ∧
    (¬ v1 = 0 → P_X11_isRoom x2 (fun v5 => ((¬ v5 = 0 → (((M 30 2) < 6 → ∀ v8 : Int32, v8 = M 30 2 → ∀ v9 : Int32, v9 = v8 + 1 → ∀ M10 : Mem, M10 = sf M 30 2 v9 → vp_in (x1 / 10) 7 ∧ P_X2_settle K M10 30 v8 (15 + (x1 / 10)) (x1 - x1 / 10 * 10) (fun M12 => vp_in v8 6 ∧ ∀ M13 : Mem, M13 = sf M12 37 v8.toNatClampNeg x2 → Q1 v8 M13)) ∧
        (¬ (M 30 2) < 6 → P_X11_error K M 4 (fun v15 M16 => Q1 v15 M16)))) ∧
      (v5 = 0 → P_X11_error K M 1 (fun v17 M18 => Q1 v17 M18)))))))
set_option maxRecDepth 100000 in
set_option maxHeartbeats 4000000 in
theorem c_X11_lodger {l : Launch} {T : Nat → ClassId} {D : va_G} {ad : Nat → Nat} {K : Nat} {M : Mem} {x1 : Int32} {x2 : Int32} {sz : Nat} {Q1 : Int32 → Mem → Prop} (hB : P_X11_lodger K M x1 x2 Q1) : Met l yX11_lodger (Cond.code yX11_lodger cX11_lodger 4 (some .int) :: TB) (RM 2) (va_Pc [.ref (ad 0), .int x1, .int x2] (WrP EC T D ad (69 + K) M sz)) (QcW EC T D ad (69 + K) (AA ad (69 + K) sz) Q1) 0 0 (AA ad (69 + K) sz) := by
  refine st_W (by decide) (Nat.le_of_ble_eq_true rfl) (fun p e s m args below meth c ls C hr hlk hsz Z hl => ?_)
  have hl : lv_has ls 4 [(0, .ref (ad 0)), (1, .int x1), (2, .int x2)] := hl
  generalize AA ad (69 + K) sz = A at Z ⊢
  have hx := C.x
  have hb := C.b
  delta P_X11_lodger at hB
  refine lv_iload_n hx hb dX11_lodger_0 rfl (lv_at hl 1 rfl) ?_
  refine v_X11_isKindAndNumber C.1 hl.1 tw_2_186 ⟨Nat.le_of_ble_eq_true rfl, Nat.le_of_ble_eq_true rfl⟩ ⟨Nat.le_refl _, Nat.le_refl _⟩ (Nat.le_of_ble_eq_true rfl) dX11_lodger_1 hB (fun v1 hB => ?_)
  refine lv_if_eq (tgt := 14) hx hb dX11_lodger_4 (by decide) (fun q2 => ?_) (fun q2 => ?_)
  · have hB := hB.1 q2
    refine lv_aload_n hx hb dX11_lodger_14 rfl (lv_at hl 0 rfl) ?_
    refine lv_iconst (v := 1) hx hb dX11_lodger_15 (by decide) ?_
    refine v_X11_error C hl.1 Z tw_2_56 ⟨Nat.le_of_ble_eq_true rfl, Nat.le_of_ble_eq_true rfl⟩ ⟨Nat.le_refl _, Nat.le_refl _⟩ (Nat.le_of_ble_eq_true rfl) dX11_lodger_16 hB (fun v3 M4 H locs hB Z => ?_)
    exact e_iW C hr hlk Z dX11_lodger_19 hB
  · have hB := hB.2 q2
    refine lv_iload_n hx hb dX11_lodger_7 rfl (lv_at hl 2 rfl) ?_
    refine v_X11_isRoom C.1 hl.1 tw_2_50 ⟨Nat.le_of_ble_eq_true rfl, Nat.le_of_ble_eq_true rfl⟩ ⟨Nat.le_refl _, Nat.le_refl _⟩ (Nat.le_of_ble_eq_true rfl) dX11_lodger_8 hB (fun v5 hB => ?_)
    refine lv_if_ne (tgt := 20) hx hb dX11_lodger_11 (by decide) (fun q6 => ?_) (fun q6 => ?_)
    · have hB := hB.1 q6
      refine lv_aload_n hx hb dX11_lodger_20 rfl (lv_at hl 0 rfl) ?_
      refine gf_X11_5 C Z.1 tw_2_17 dX11_lodger_21 ?_
      refine gf_X2_2 C Z.1 isH_0 tw_1_135 dX11_lodger_24 ?_
      refine lv_bipush (v := 6) hx hb dX11_lodger_27 (by decide) ?_
      refine lv_icmp_lt (tgt := 38) hx hb dX11_lodger_29 (by decide) (fun q7 => ?_) (fun q7 => ?_)
      · have hB := hB.1 q7
        refine lv_aload_n hx hb dX11_lodger_38 rfl (lv_at hl 0 rfl) ?_
        refine gf_X11_5 C Z.1 tw_2_17 dX11_lodger_39 ?_
        refine lv_dup hx hb dX11_lodger_42 rfl ?_
        refine gf_X2_2 C Z.1 isH_0 tw_1_135 dX11_lodger_43 ?_
        refine lv_topi (fun v8 ev8 => ?_)
        have hB := hB v8 ev8
        refine lv_dup_x1 hx hb dX11_lodger_46 rfl rfl ?_
        refine lv_iconst (v := 1) hx hb dX11_lodger_47 (by decide) ?_
        refine lv_iadd hx hb dX11_lodger_48 ?_
        refine lv_topi (fun v9 ev9 => ?_)
        have hB := hB v9 ev9
        refine pf_X2_2 C Z isH_0 tw_1_135 dX11_lodger_49 (fun M10 H locs eM10 Z => ?_)
        have hB := hB M10 eM10
        refine lv_istore_n (lv' := [(3, .int v8), (0, .ref (ad 0)), (1, .int x1), (2, .int x2)]) hx hb dX11_lodger_52 rfl hl (by decide) rfl (fun ls hl => ?_)
        refine lv_aload_n hx hb dX11_lodger_53 rfl (lv_at hl 1 rfl) ?_
        refine gf_X11_5 C Z.1 tw_2_17 dX11_lodger_54 ?_
        refine lv_iload_n hx hb dX11_lodger_57 rfl (lv_at hl 0 rfl) ?_
        refine lv_aload_n hx hb dX11_lodger_58 rfl (lv_at hl 1 rfl) ?_
        refine gf_X11_0 C Z.1 tw_2_12 dX11_lodger_59 ?_
        refine lv_iload_n hx hb dX11_lodger_62 rfl (lv_at hl 2 rfl) ?_
        refine lv_bipush (v := 10) hx hb dX11_lodger_63 (by decide) ?_
        refine lv_idiv hx hb dX11_lodger_65 (by decide) ?_
        obtain ⟨q11, hB⟩ := hB
        refine ka_ld C Z.1 q11 dX11_lodger_66 ?_
        refine lv_iload_n hx hb dX11_lodger_67 rfl (lv_at hl 2 rfl) ?_
        refine lv_bipush (v := 10) hx hb dX11_lodger_68 (by decide) ?_
        refine lv_irem hx hb dX11_lodger_70 (by decide) ?_
        refine v_X2_settle C hl.1 Z isH_0 (kd_in q11) tw_2_189 ⟨Nat.le_of_ble_eq_true rfl, Nat.le_of_ble_eq_true rfl⟩ ⟨Nat.le_refl _, Nat.le_refl _⟩ (Nat.le_of_ble_eq_true rfl) dX11_lodger_71 hB (fun M12 H locs hB Z => ?_)
        refine lv_aload_n hx hb dX11_lodger_74 rfl (lv_at hl 1 rfl) ?_
        refine gf_X11_5 C Z.1 tw_2_17 dX11_lodger_75 ?_
        refine gf_X2_9 C Z.1 isH_0 tw_1_154 dX11_lodger_78 ?_
        refine lv_iload_n hx hb dX11_lodger_81 rfl (lv_at hl 0 rfl) ?_
        refine lv_iload_n hx hb dX11_lodger_82 rfl (lv_at hl 3 rfl) ?_
        obtain ⟨q14, hB⟩ := hB
        refine a_st C Z (aH_7 isH_0) q14 dX11_lodger_83 (fun M13 H locs eM13 Z => ?_)
        have hB := hB M13 eM13
        refine lv_iload_n hx hb dX11_lodger_84 rfl (lv_at hl 0 rfl) ?_
        exact e_iW C hr hlk Z dX11_lodger_85 hB
      · have hB := hB.2 q7
        refine lv_aload_n hx hb dX11_lodger_32 rfl (lv_at hl 0 rfl) ?_
        refine lv_iconst (v := 4) hx hb dX11_lodger_33 (by decide) ?_
        refine v_X11_error C hl.1 Z tw_2_56 ⟨Nat.le_of_ble_eq_true rfl, Nat.le_of_ble_eq_true rfl⟩ ⟨Nat.le_refl _, Nat.le_refl _⟩ (Nat.le_of_ble_eq_true rfl) dX11_lodger_34 hB (fun v15 M16 H locs hB Z => ?_)
        exact e_iW C hr hlk Z dX11_lodger_37 hB
    · have hB := hB.2 q6
      refine lv_aload_n hx hb dX11_lodger_14 rfl (lv_at hl 0 rfl) ?_
      refine lv_iconst (v := 1) hx hb dX11_lodger_15 (by decide) ?_
      refine v_X11_error C hl.1 Z tw_2_56 ⟨Nat.le_of_ble_eq_true rfl, Nat.le_of_ble_eq_true rfl⟩ ⟨Nat.le_refl _, Nat.le_refl _⟩ (Nat.le_of_ble_eq_true rfl) dX11_lodger_16 hB (fun v17 M18 H locs hB Z => ?_)
      exact e_iW C hr hlk Z dX11_lodger_19 hB
set_option maxRecDepth 100000 in
set_option maxHeartbeats 4000000 in
theorem v_X11_lodger {K : Nat} {M : Mem} {x1 : Int32} {x2 : Int32} {Q1 : Int32 → Mem → Prop} (C : Cx T D p s m args c cc nL own) (hls : ls.size = nL) (Z : Zz EC T D ad (69 + K) A H0 M H locs) (hlink : Cond.methodLink own index yX11_lodger ∈ TB) (hR : 2 + 1 ≤ R.frames ∧ 8 + (4 + 11) + 48 * 2 ≤ R.locals) (hcs : cells ≤ R.cells ∧ slots ≤ R.slots) (hcat : (rest.map fun v => v.category).sum ≤ 8) (hdg : decode cc pc = .ok (.invokevirtual index, 3)) (hB : P_X11_lodger K M x1 x2 Q1)
    (kk : ∀ (r : Int32) (M1 : Mem) (H1 : Heap) (locs1 : List Loc), Q1 r M1 → Zz EC T D ad (69 + K) A H0 M1 H1 locs1 → W p l e R s m args below meth c H1 locs1 cells slots QQ (F0 m (pc + 3) ls (.int r :: rest))) : W p l e R s m args below meth c H locs cells slots QQ (F0 m pc ls (.int x2 :: .int x1 :: .ref (ad 0) :: rest)) :=
  k_VW (ci := 11) (n := 2) (c_X11_lodger hB) tw_2_185 tw_2_183 tw_2_184 tw_1_1 ⟨rfl, by decide, by decide, by decide +kernel⟩ rfl rfl C hls Z oO hlink hR hcs hcat rfl hdg kk
def P_X11_isLodger (K : Nat) (M : Mem) (x1 : Int32) (Q1 : Int32 → Prop) : Prop :=
  ((x1 < 0 → Q1 0) ∧
    (¬ x1 < 0 → (((M 30 2) ≤ x1 → Q1 0) ∧
      (¬ (M 30 2) ≤ x1 → Q1 1))))
set_option maxRecDepth 100000 in
set_option maxHeartbeats 4000000 in
theorem c_X11_isLodger {l : Launch} {T : Nat → ClassId} {D : va_G} {ad : Nat → Nat} {K : Nat} {M : Mem} {x1 : Int32} {Q1 : Int32 → Prop} (hB : P_X11_isLodger K M x1 Q1) : Met l yX11_isLodger (Cond.code yX11_isLodger cX11_isLodger 2 (some .boolean) :: TB) (RM 1) (va_Pc [.ref (ad 0), .int x1] (RdP EC T D ad (69 + K) M)) (QcR Q1) 0 0 (fun _ => False) := by
  refine st_R (by decide) (Nat.le_of_ble_eq_true rfl) (fun p e s m args below meth c ls C hr hlk hP hl => ?_)
  have hl : lv_has ls 2 [(0, .ref (ad 0)), (1, .int x1)] := hl
  have hx := C.x
  have hb := C.b
  delta P_X11_isLodger at hB
  refine lv_iload_n hx hb dX11_isLodger_0 rfl (lv_at hl 1 rfl) ?_
  refine lv_if_lt (tgt := 19) hx hb dX11_isLodger_1 (by decide) (fun q1 => ?_) (fun q1 => ?_)
  · have hB := hB.1 q1
    refine lv_iconst (v := 0) hx hb dX11_isLodger_19 (by decide) ?_
    exact e_zR C.1 hr hlk dX11_isLodger_20 (Or.inl rfl) hB
  · have hB := hB.2 q1
    refine lv_iload_n hx hb dX11_isLodger_4 rfl (lv_at hl 1 rfl) ?_
    refine lv_aload_n hx hb dX11_isLodger_5 rfl (lv_at hl 0 rfl) ?_
    refine gf_X11_5 C hP tw_2_17 dX11_isLodger_6 ?_
    refine gf_X2_2 C hP isH_0 tw_1_135 dX11_isLodger_9 ?_
    refine lv_icmp_ge (tgt := 19) hx hb dX11_isLodger_12 (by decide) (fun q2 => ?_) (fun q2 => ?_)
    · have hB := hB.1 q2
      refine lv_iconst (v := 0) hx hb dX11_isLodger_19 (by decide) ?_
      exact e_zR C.1 hr hlk dX11_isLodger_20 (Or.inl rfl) hB
    · have hB := hB.2 q2
      refine lv_iconst (v := 1) hx hb dX11_isLodger_15 (by decide) ?_
      refine lv_goto (tgt := 20) hx hb dX11_isLodger_16 (by decide) ?_
      exact e_zR C.1 hr hlk dX11_isLodger_20 (Or.inr rfl) hB
set_option maxRecDepth 100000 in
set_option maxHeartbeats 4000000 in
theorem v_X11_isLodger {K : Nat} {M : Mem} {x1 : Int32} {Q1 : Int32 → Prop} (C : Cx T D p s m args c cc nL own) (hls : ls.size = nL) (hP : Pw EC T D ad (69 + K) M H) (hlink : Cond.methodLink own index yX11_isLodger ∈ TB) (hR : 1 + 1 ≤ R.frames ∧ 8 + (2 + 11) + 48 * 1 ≤ R.locals) (hcs : cells ≤ R.cells ∧ slots ≤ R.slots) (hcat : (rest.map fun v => v.category).sum ≤ 8) (hdg : decode cc pc = .ok (.invokevirtual index, 3)) (hB : P_X11_isLodger K M x1 Q1)
    (kk : ∀ r : Int32, Q1 r → W p l e R s m args below meth c H locs cells slots QQ (F0 m (pc + 3) ls (.int r :: rest))) : W p l e R s m args below meth c H locs cells slots QQ (F0 m pc ls (.int x1 :: .ref (ad 0) :: rest)) :=
  k_V (ci := 11) (n := 1) (c_X11_isLodger hB) tw_2_200 tw_2_199 tw_s_2 tw_1_1 ⟨rfl, by decide, by decide, by decide +kernel⟩ rfl rfl C hls hP oO hlink hR hcs hcat rfl hdg kk
def P_X0_leastAir (K : Nat) (M : Mem) (g : Int32) (x1 : Int32) (Q1 : Int32 → Prop) : Prop :=
  Q1 0
set_option maxRecDepth 100000 in
set_option maxHeartbeats 4000000 in
theorem c_X0_leastAir {l : Launch} {T : Nat → ClassId} {D : va_G} {ad : Nat → Nat} {K : Nat} {M : Mem} {g : Int32} {x1 : Int32} {Q1 : Int32 → Prop} (hg : isKd_X0 g) (hB : P_X0_leastAir K M g x1 Q1) : Met l yX0_leastAir (Cond.code yX0_leastAir cX0_leastAir 2 (some .int) :: TB) (RM 1) (va_Pc [.ref (ad g.toNatClampNeg), .int x1] (RdP EC T D ad (69 + K) M)) (QcR Q1) 0 0 (fun _ => False) := by
  refine st_R (by decide) (Nat.le_of_ble_eq_true rfl) (fun p e s m args below meth c ls C hr hlk hP hl => ?_)
  have hl : lv_has ls 2 [(0, .ref (ad g.toNatClampNeg)), (1, .int x1)] := hl
  have hx := C.x
  have hb := C.b
  delta P_X0_leastAir at hB
  refine lv_iconst (v := 0) hx hb dX0_leastAir_0 (by decide) ?_
  exact e_iR C.1 hr hlk dX0_leastAir_1 hB
def P_X1_leastAir (K : Nat) (M : Mem) (g : Int32) (x1 : Int32) (Q1 : Int32 → Prop) : Prop :=
  Q1 4
set_option maxRecDepth 100000 in
set_option maxHeartbeats 4000000 in
theorem c_X1_leastAir {l : Launch} {T : Nat → ClassId} {D : va_G} {ad : Nat → Nat} {K : Nat} {M : Mem} {g : Int32} {x1 : Int32} {Q1 : Int32 → Prop} (hg : isKd_X1 g) (hB : P_X1_leastAir K M g x1 Q1) : Met l yX1_leastAir (Cond.code yX1_leastAir cX1_leastAir 2 (some .int) :: TB) (RM 1) (va_Pc [.ref (ad g.toNatClampNeg), .int x1] (RdP EC T D ad (69 + K) M)) (QcR Q1) 0 0 (fun _ => False) := by
  refine st_R (by decide) (Nat.le_of_ble_eq_true rfl) (fun p e s m args below meth c ls C hr hlk hP hl => ?_)
  have hl : lv_has ls 2 [(0, .ref (ad g.toNatClampNeg)), (1, .int x1)] := hl
  have hx := C.x
  have hb := C.b
  delta P_X1_leastAir at hB
  refine lv_iconst (v := 4) hx hb dX1_leastAir_0 (by decide) ?_
  exact e_iR C.1 hr hlk dX1_leastAir_1 hB
def P_X3_leastAir (K : Nat) (M : Mem) (g : Int32) (x1 : Int32) (Q1 : Int32 → Prop) : Prop :=
  Q1 2
set_option maxRecDepth 100000 in
set_option maxHeartbeats 4000000 in
theorem c_X3_leastAir {l : Launch} {T : Nat → ClassId} {D : va_G} {ad : Nat → Nat} {K : Nat} {M : Mem} {g : Int32} {x1 : Int32} {Q1 : Int32 → Prop} (hg : isKd_X3 g) (hB : P_X3_leastAir K M g x1 Q1) : Met l yX3_leastAir (Cond.code yX3_leastAir cX3_leastAir 2 (some .int) :: TB) (RM 1) (va_Pc [.ref (ad g.toNatClampNeg), .int x1] (RdP EC T D ad (69 + K) M)) (QcR Q1) 0 0 (fun _ => False) := by
  refine st_R (by decide) (Nat.le_of_ble_eq_true rfl) (fun p e s m args below meth c ls C hr hlk hP hl => ?_)
  have hl : lv_has ls 2 [(0, .ref (ad g.toNatClampNeg)), (1, .int x1)] := hl
  have hx := C.x
  have hb := C.b
  delta P_X3_leastAir at hB
  refine lv_iconst (v := 2) hx hb dX3_leastAir_0 (by decide) ?_
  exact e_iR C.1 hr hlk dX3_leastAir_1 hB
def P_X7_leastAir (K : Nat) (M : Mem) (g : Int32) (x1 : Int32) (Q1 : Int32 → Prop) : Prop :=
  Q1 (5 + (x1 / 2))
set_option maxRecDepth 100000 in
set_option maxHeartbeats 4000000 in
theorem c_X7_leastAir {l : Launch} {T : Nat → ClassId} {D : va_G} {ad : Nat → Nat} {K : Nat} {M : Mem} {g : Int32} {x1 : Int32} {Q1 : Int32 → Prop} (hg : isKd_X7 g) (hB : P_X7_leastAir K M g x1 Q1) : Met l yX7_leastAir (Cond.code yX7_leastAir cX7_leastAir 2 (some .int) :: TB) (RM 1) (va_Pc [.ref (ad g.toNatClampNeg), .int x1] (RdP EC T D ad (69 + K) M)) (QcR Q1) 0 0 (fun _ => False) := by
  refine st_R (by decide) (Nat.le_of_ble_eq_true rfl) (fun p e s m args below meth c ls C hr hlk hP hl => ?_)
  have hl : lv_has ls 2 [(0, .ref (ad g.toNatClampNeg)), (1, .int x1)] := hl
  have hx := C.x
  have hb := C.b
  delta P_X7_leastAir at hB
  refine lv_iconst (v := 5) hx hb dX7_leastAir_0 (by decide) ?_
  refine lv_iload_n hx hb dX7_leastAir_1 rfl (lv_at hl 1 rfl) ?_
  refine lv_iconst (v := 2) hx hb dX7_leastAir_2 (by decide) ?_
  refine lv_idiv hx hb dX7_leastAir_3 (by decide) ?_
  refine lv_iadd hx hb dX7_leastAir_4 ?_
  exact e_iR C.1 hr hlk dX7_leastAir_5 hB
def P_X0_mostAir (K : Nat) (M : Mem) (g : Int32) (x1 : Int32) (Q1 : Int32 → Prop) : Prop :=
  Q1 (3 + x1)
set_option maxRecDepth 100000 in
set_option maxHeartbeats 4000000 in
theorem c_X0_mostAir {l : Launch} {T : Nat → ClassId} {D : va_G} {ad : Nat → Nat} {K : Nat} {M : Mem} {g : Int32} {x1 : Int32} {Q1 : Int32 → Prop} (hg : isKd_X0 g) (hB : P_X0_mostAir K M g x1 Q1) : Met l yX0_mostAir (Cond.code yX0_mostAir cX0_mostAir 2 (some .int) :: TB) (RM 1) (va_Pc [.ref (ad g.toNatClampNeg), .int x1] (RdP EC T D ad (69 + K) M)) (QcR Q1) 0 0 (fun _ => False) := by
  refine st_R (by decide) (Nat.le_of_ble_eq_true rfl) (fun p e s m args below meth c ls C hr hlk hP hl => ?_)
  have hl : lv_has ls 2 [(0, .ref (ad g.toNatClampNeg)), (1, .int x1)] := hl
  have hx := C.x
  have hb := C.b
  delta P_X0_mostAir at hB
  refine lv_iconst (v := 3) hx hb dX0_mostAir_0 (by decide) ?_
  refine lv_iload_n hx hb dX0_mostAir_1 rfl (lv_at hl 1 rfl) ?_
  refine lv_iadd hx hb dX0_mostAir_2 ?_
  exact e_iR C.1 hr hlk dX0_mostAir_3 hB
set_option maxRecDepth 100000 in
set_option maxHeartbeats 4000000 in
theorem v_S_X1_mostAir {K : Nat} {M : Mem} {g : Int32} {x1 : Int32} {Q1 : Int32 → Prop} (C : Cx T D p s m args c cc nL "OneOfTwo$Fevered") (hls : ls.size = nL) (hP : Pw EC T D ad (69 + K) M H) (hg : isKd_X1 g) (hlink : Cond.methodLink "OneOfTwo$Fevered" index (⟨"OneOfTwo$Cougher", "mostAir", "(I)I"⟩ : MethodName) ∈ TB) (hR : 1 + 1 ≤ R.frames ∧ 8 + (2 + 11) + 48 * 1 ≤ R.locals) (hcs : cells ≤ R.cells ∧ slots ≤ R.slots) (hcat : (rest.map fun v => v.category).sum ≤ 8) (hdg : decode cc pc = .ok (.invokespecial index, 3)) (hB : P_X0_mostAir K M g x1 Q1)
    (kk : ∀ r : Int32, Q1 r → W p l e R s m args below meth c H locs cells slots QQ (F0 m (pc + 3) ls (.int r :: rest))) : W p l e R s m args below meth c H locs cells slots QQ (F0 m pc ls (.int x1 :: .ref (ad g.toNatClampNeg) :: rest)) := by
  obtain rfl := hg
  exact k_SUR (lv := 1) (ci := 1) (n := 1) (c_X0_mostAir kd_X0_19 hB) (va_cwSU 1 C.1.2.2.2.2 (gdSU tw_2_224 hlink tw_7_125 tw_1_99 tw_2_223 tw_1_4) rfl rfl rfl ⟨by decide, by decide +kernel⟩ (rmr hR (by decide) (by decide))) rfl rfl C hls hP oL_19 hcs hcat rfl hdg kk
def P_X1_mostAir (K : Nat) (M : Mem) (g : Int32) (x1 : Int32) (Q1 : Int32 → Prop) : Prop :=
  P_X0_mostAir K M g x1 (fun v1 => Q1 (v1 + 1))
set_option maxRecDepth 100000 in
set_option maxHeartbeats 4000000 in
theorem c_X1_mostAir {l : Launch} {T : Nat → ClassId} {D : va_G} {ad : Nat → Nat} {K : Nat} {M : Mem} {g : Int32} {x1 : Int32} {Q1 : Int32 → Prop} (hg : isKd_X1 g) (hB : P_X1_mostAir K M g x1 Q1) : Met l yX1_mostAir (Cond.code yX1_mostAir cX1_mostAir 2 (some .int) :: TB) (RM 2) (va_Pc [.ref (ad g.toNatClampNeg), .int x1] (RdP EC T D ad (69 + K) M)) (QcR Q1) 0 0 (fun _ => False) := by
  refine st_R (by decide) (Nat.le_of_ble_eq_true rfl) (fun p e s m args below meth c ls C hr hlk hP hl => ?_)
  have hl : lv_has ls 2 [(0, .ref (ad g.toNatClampNeg)), (1, .int x1)] := hl
  have hx := C.x
  have hb := C.b
  delta P_X1_mostAir at hB
  refine lv_aload_n hx hb dX1_mostAir_0 rfl (lv_at hl 0 rfl) ?_
  refine lv_iload_n hx hb dX1_mostAir_1 rfl (lv_at hl 1 rfl) ?_
  refine v_S_X1_mostAir C hl.1 hP hg tw_2_228 ⟨Nat.le_of_ble_eq_true rfl, Nat.le_of_ble_eq_true rfl⟩ ⟨Nat.le_refl _, Nat.le_refl _⟩ (Nat.le_of_ble_eq_true rfl) dX1_mostAir_2 hB (fun v1 hB => ?_)
  refine lv_iconst (v := 1) hx hb dX1_mostAir_5 (by decide) ?_
  refine lv_iadd hx hb dX1_mostAir_6 ?_
  exact e_iR C.1 hr hlk dX1_mostAir_7 hB
def P_X3_mostAir (K : Nat) (M : Mem) (g : Int32) (x1 : Int32) (Q1 : Int32 → Prop) : Prop :=
  Q1 (9 + x1)
set_option maxRecDepth 100000 in
set_option maxHeartbeats 4000000 in
theorem c_X3_mostAir {l : Launch} {T : Nat → ClassId} {D : va_G} {ad : Nat → Nat} {K : Nat} {M : Mem} {g : Int32} {x1 : Int32} {Q1 : Int32 → Prop} (hg : isKd_X3 g) (hB : P_X3_mostAir K M g x1 Q1) : Met l yX3_mostAir (Cond.code yX3_mostAir cX3_mostAir 2 (some .int) :: TB) (RM 1) (va_Pc [.ref (ad g.toNatClampNeg), .int x1] (RdP EC T D ad (69 + K) M)) (QcR Q1) 0 0 (fun _ => False) := by
  refine st_R (by decide) (Nat.le_of_ble_eq_true rfl) (fun p e s m args below meth c ls C hr hlk hP hl => ?_)
  have hl : lv_has ls 2 [(0, .ref (ad g.toNatClampNeg)), (1, .int x1)] := hl
  have hx := C.x
  have hb := C.b
  delta P_X3_mostAir at hB
  refine lv_bipush (v := 9) hx hb dX3_mostAir_0 (by decide) ?_
  refine lv_iload_n hx hb dX3_mostAir_2 rfl (lv_at hl 1 rfl) ?_
  refine lv_iadd hx hb dX3_mostAir_3 ?_
  exact e_iR C.1 hr hlk dX3_mostAir_4 hB
def P_X7_mostAir (K : Nat) (M : Mem) (g : Int32) (x1 : Int32) (Q1 : Int32 → Prop) : Prop :=
  Q1 99
set_option maxRecDepth 100000 in
set_option maxHeartbeats 4000000 in
theorem c_X7_mostAir {l : Launch} {T : Nat → ClassId} {D : va_G} {ad : Nat → Nat} {K : Nat} {M : Mem} {g : Int32} {x1 : Int32} {Q1 : Int32 → Prop} (hg : isKd_X7 g) (hB : P_X7_mostAir K M g x1 Q1) : Met l yX7_mostAir (Cond.code yX7_mostAir cX7_mostAir 2 (some .int) :: TB) (RM 1) (va_Pc [.ref (ad g.toNatClampNeg), .int x1] (RdP EC T D ad (69 + K) M)) (QcR Q1) 0 0 (fun _ => False) := by
  refine st_R (by decide) (Nat.le_of_ble_eq_true rfl) (fun p e s m args below meth c ls C hr hlk hP hl => ?_)
  have hl : lv_has ls 2 [(0, .ref (ad g.toNatClampNeg)), (1, .int x1)] := hl
  have hx := C.x
  have hb := C.b
  delta P_X7_mostAir at hB
  refine lv_bipush (v := 99) hx hb dX7_mostAir_0 (by decide) ?_
  exact e_iR C.1 hr hlk dX7_mostAir_2 hB
def P_X3_strength (K : Nat) (M : Mem) (g : Int32) (Q1 : Int32 → Prop) : Prop :=
  Q1 1
set_option maxRecDepth 100000 in
set_option maxHeartbeats 4000000 in
theorem c_X3_strength {l : Launch} {T : Nat → ClassId} {D : va_G} {ad : Nat → Nat} {K : Nat} {M : Mem} {g : Int32} {Q1 : Int32 → Prop} (hg : isKd_X3 g) (hB : P_X3_strength K M g Q1) : Met l yX3_strength (Cond.code yX3_strength cX3_strength 1 (some .int) :: TB) (RM 1) (va_Pc [.ref (ad g.toNatClampNeg)] (RdP EC T D ad (69 + K) M)) (QcR Q1) 0 0 (fun _ => False) := by
  refine st_R (by decide) (Nat.le_of_ble_eq_true rfl) (fun p e s m args below meth c ls C hr hlk hP hl => ?_)
  have hl : lv_has ls 1 [(0, .ref (ad g.toNatClampNeg))] := hl
  have hx := C.x
  have hb := C.b
  delta P_X3_strength at hB
  refine lv_iconst (v := 1) hx hb dX3_strength_0 (by decide) ?_
  exact e_iR C.1 hr hlk dX3_strength_1 hB
def P_X9_strength (K : Nat) (M : Mem) (g : Int32) (Q1 : Int32 → Prop) : Prop :=
  Q1 2
set_option maxRecDepth 100000 in
set_option maxHeartbeats 4000000 in
theorem c_X9_strength {l : Launch} {T : Nat → ClassId} {D : va_G} {ad : Nat → Nat} {K : Nat} {M : Mem} {g : Int32} {Q1 : Int32 → Prop} (hg : isKd_X9 g) (hB : P_X9_strength K M g Q1) : Met l yX9_strength (Cond.code yX9_strength cX9_strength 1 (some .int) :: TB) (RM 1) (va_Pc [.ref (ad g.toNatClampNeg)] (RdP EC T D ad (69 + K) M)) (QcR Q1) 0 0 (fun _ => False) := by
  refine st_R (by decide) (Nat.le_of_ble_eq_true rfl) (fun p e s m args below meth c ls C hr hlk hP hl => ?_)
  have hl : lv_has ls 1 [(0, .ref (ad g.toNatClampNeg))] := hl
  have hx := C.x
  have hb := C.b
  delta P_X9_strength at hB
  refine lv_iconst (v := 2) hx hb dX9_strength_0 (by decide) ?_
  exact e_iR C.1 hr hlk dX9_strength_1 hB
def P_X3_pleased (K : Nat) (M : Mem) (g : Int32) (x1 : Int32) (x2 : Int32) (Q1 : Int32 → Prop) : Prop :=
  (x1 = 0 ∨ x1 = 1) ∧ Q1 x1
set_option maxRecDepth 100000 in
set_option maxHeartbeats 4000000 in
theorem c_X3_pleased {l : Launch} {T : Nat → ClassId} {D : va_G} {ad : Nat → Nat} {K : Nat} {M : Mem} {g : Int32} {x1 : Int32} {x2 : Int32} {Q1 : Int32 → Prop} (hg : isKd_X3 g) (hB : P_X3_pleased K M g x1 x2 Q1) : Met l yX3_pleased (Cond.code yX3_pleased cX3_pleased 3 (some .boolean) :: TB) (RM 1) (va_Pc [.ref (ad g.toNatClampNeg), .int x1, .int x2] (RdP EC T D ad (69 + K) M)) (QcR Q1) 0 0 (fun _ => False) := by
  refine st_R (by decide) (Nat.le_of_ble_eq_true rfl) (fun p e s m args below meth c ls C hr hlk hP hl => ?_)
  have hl : lv_has ls 3 [(0, .ref (ad g.toNatClampNeg)), (1, .int x1), (2, .int x2)] := hl
  have hx := C.x
  have hb := C.b
  delta P_X3_pleased at hB
  refine lv_iload_n hx hb dX3_pleased_0 rfl (lv_at hl 1 rfl) ?_
  exact e_zR C.1 hr hlk dX3_pleased_1 hB.1 hB.2
def P_X6_pleased (K : Nat) (M : Mem) (g : Int32) (x1 : Int32) (x2 : Int32) (Q1 : Int32 → Prop) : Prop :=
  ((¬ x1 = 0 → Q1 1) ∧
    (x1 = 0 → ((x2 < 6 → Q1 1) ∧
      (¬ x2 < 6 → ((x2 < 20 → Q1 0) ∧
        (¬ x2 < 20 → Q1 1))))))
set_option maxRecDepth 100000 in
set_option maxHeartbeats 4000000 in
theorem c_X6_pleased {l : Launch} {T : Nat → ClassId} {D : va_G} {ad : Nat → Nat} {K : Nat} {M : Mem} {g : Int32} {x1 : Int32} {x2 : Int32} {Q1 : Int32 → Prop} (hg : isKd_X6 g) (hB : P_X6_pleased K M g x1 x2 Q1) : Met l yX6_pleased (Cond.code yX6_pleased cX6_pleased 3 (some .boolean) :: TB) (RM 1) (va_Pc [.ref (ad g.toNatClampNeg), .int x1, .int x2] (RdP EC T D ad (69 + K) M)) (QcR Q1) 0 0 (fun _ => False) := by
  refine st_R (by decide) (Nat.le_of_ble_eq_true rfl) (fun p e s m args below meth c ls C hr hlk hP hl => ?_)
  have hl : lv_has ls 3 [(0, .ref (ad g.toNatClampNeg)), (1, .int x1), (2, .int x2)] := hl
  have hx := C.x
  have hb := C.b
  delta P_X6_pleased at hB
  refine lv_iload_n hx hb dX6_pleased_0 rfl (lv_at hl 1 rfl) ?_
  refine lv_if_ne (tgt := 16) hx hb dX6_pleased_1 (by decide) (fun q1 => ?_) (fun q1 => ?_)
  · have hB := hB.1 q1
    refine lv_iconst (v := 1) hx hb dX6_pleased_16 (by decide) ?_
    refine lv_goto (tgt := 21) hx hb dX6_pleased_17 (by decide) ?_
    exact e_zR C.1 hr hlk dX6_pleased_21 (Or.inr rfl) hB
  · have hB := hB.2 q1
    refine lv_iload_n hx hb dX6_pleased_4 rfl (lv_at hl 2 rfl) ?_
    refine lv_bipush (v := 6) hx hb dX6_pleased_5 (by decide) ?_
    refine lv_icmp_lt (tgt := 16) hx hb dX6_pleased_7 (by decide) (fun q2 => ?_) (fun q2 => ?_)
    · have hB := hB.1 q2
      refine lv_iconst (v := 1) hx hb dX6_pleased_16 (by decide) ?_
      refine lv_goto (tgt := 21) hx hb dX6_pleased_17 (by decide) ?_
      exact e_zR C.1 hr hlk dX6_pleased_21 (Or.inr rfl) hB
    · have hB := hB.2 q2
      refine lv_iload_n hx hb dX6_pleased_10 rfl (lv_at hl 2 rfl) ?_
      refine lv_bipush (v := 20) hx hb dX6_pleased_11 (by decide) ?_
      refine lv_icmp_lt (tgt := 20) hx hb dX6_pleased_13 (by decide) (fun q3 => ?_) (fun q3 => ?_)
      · have hB := hB.1 q3
        refine lv_iconst (v := 0) hx hb dX6_pleased_20 (by decide) ?_
        exact e_zR C.1 hr hlk dX6_pleased_21 (Or.inl rfl) hB
      · have hB := hB.2 q3
        refine lv_iconst (v := 1) hx hb dX6_pleased_16 (by decide) ?_
        refine lv_goto (tgt := 21) hx hb dX6_pleased_17 (by decide) ?_
        exact e_zR C.1 hr hlk dX6_pleased_21 (Or.inr rfl) hB
set_option maxRecDepth 100000 in
set_option maxHeartbeats 4000000 in
theorem v_S_X8_pleased {K : Nat} {M : Mem} {g : Int32} {x1 : Int32} {x2 : Int32} {Q1 : Int32 → Prop} (C : Cx T D p s m args c cc nL "OneOfTwo$Spiteful") (hls : ls.size = nL) (hP : Pw EC T D ad (69 + K) M H) (hg : isKd_X8 g) (hlink : Cond.methodLink "OneOfTwo$Spiteful" index (⟨"OneOfTwo$Sleeper", "pleased", "(ZI)Z"⟩ : MethodName) ∈ TB) (hR : 1 + 1 ≤ R.frames ∧ 8 + (3 + 11) + 48 * 1 ≤ R.locals) (hcs : cells ≤ R.cells ∧ slots ≤ R.slots) (hcat : (rest.map fun v => v.category).sum ≤ 8) (hdg : decode cc pc = .ok (.invokespecial index, 3)) (hB : P_X6_pleased K M g x1 x2 Q1)
    (kk : ∀ r : Int32, Q1 r → W p l e R s m args below meth c H locs cells slots QQ (F0 m (pc + 3) ls (.int r :: rest))) : W p l e R s m args below meth c H locs cells slots QQ (F0 m pc ls (.int x2 :: .int x1 :: .ref (ad g.toNatClampNeg) :: rest)) := by
  obtain rfl := hg
  exact k_SUR (lv := 1) (ci := 8) (n := 2) (c_X6_pleased kd_X6_21 hB) (va_cwSU 2 C.1.2.2.2.2 (gdSU tw_3_27 hlink tw_7_126 tw_1_115 tw_3_26 tw_1_6) rfl rfl rfl ⟨by decide, by decide +kernel⟩ (rmr hR (by decide) (by decide))) rfl rfl C hls hP oL_21 hcs hcat rfl hdg kk
def P_X8_pleased (K : Nat) (M : Mem) (g : Int32) (x1 : Int32) (x2 : Int32) (Q1 : Int32 → Prop) : Prop :=
  P_X6_pleased K M g x1 x2 (fun v1 => ((¬ v1 = 0 → Q1 0) ∧
    (v1 = 0 → Q1 1)))
set_option maxRecDepth 100000 in
set_option maxHeartbeats 4000000 in
theorem c_X8_pleased {l : Launch} {T : Nat → ClassId} {D : va_G} {ad : Nat → Nat} {K : Nat} {M : Mem} {g : Int32} {x1 : Int32} {x2 : Int32} {Q1 : Int32 → Prop} (hg : isKd_X8 g) (hB : P_X8_pleased K M g x1 x2 Q1) : Met l yX8_pleased (Cond.code yX8_pleased cX8_pleased 3 (some .boolean) :: TB) (RM 2) (va_Pc [.ref (ad g.toNatClampNeg), .int x1, .int x2] (RdP EC T D ad (69 + K) M)) (QcR Q1) 0 0 (fun _ => False) := by
  refine st_R (by decide) (Nat.le_of_ble_eq_true rfl) (fun p e s m args below meth c ls C hr hlk hP hl => ?_)
  have hl : lv_has ls 3 [(0, .ref (ad g.toNatClampNeg)), (1, .int x1), (2, .int x2)] := hl
  have hx := C.x
  have hb := C.b
  delta P_X8_pleased at hB
  refine lv_aload_n hx hb dX8_pleased_0 rfl (lv_at hl 0 rfl) ?_
  refine lv_iload_n hx hb dX8_pleased_1 rfl (lv_at hl 1 rfl) ?_
  refine lv_iload_n hx hb dX8_pleased_2 rfl (lv_at hl 2 rfl) ?_
  refine v_S_X8_pleased C hl.1 hP hg tw_3_32 ⟨Nat.le_of_ble_eq_true rfl, Nat.le_of_ble_eq_true rfl⟩ ⟨Nat.le_refl _, Nat.le_refl _⟩ (Nat.le_of_ble_eq_true rfl) dX8_pleased_3 hB (fun v1 hB => ?_)
  refine lv_if_ne (tgt := 13) hx hb dX8_pleased_6 (by decide) (fun q2 => ?_) (fun q2 => ?_)
  · have hB := hB.1 q2
    refine lv_iconst (v := 0) hx hb dX8_pleased_13 (by decide) ?_
    exact e_zR C.1 hr hlk dX8_pleased_14 (Or.inl rfl) hB
  · have hB := hB.2 q2
    refine lv_iconst (v := 1) hx hb dX8_pleased_9 (by decide) ?_
    refine lv_goto (tgt := 14) hx hb dX8_pleased_10 (by decide) ?_
    exact e_zR C.1 hr hlk dX8_pleased_14 (Or.inr rfl) hB
def P_L_X3_leastAir (K : Nat) (M : Mem) (g : Int32) (x1 : Int32) (Q1 : Int32 → Prop) : Prop :=
  (g = 15 → P_X3_leastAir K M g x1 Q1) ∧
  (g = 16 → P_X0_leastAir K M g x1 Q1) ∧
  (g = 17 → P_X7_leastAir K M g x1 Q1) ∧
  (g = 18 → P_X3_leastAir K M g x1 Q1) ∧
  (g = 19 → P_X1_leastAir K M g x1 Q1) ∧
  (g = 20 → P_X7_leastAir K M g x1 Q1) ∧
  (g = 21 → P_X3_leastAir K M g x1 Q1)
set_option maxRecDepth 100000 in
set_option maxHeartbeats 4000000 in
theorem v_L_X3_leastAir {K : Nat} {M : Mem} {g : Int32} {x1 : Int32} {Q1 : Int32 → Prop} (C : Cx T D p s m args c cc nL own) (hls : ls.size = nL) (hP : Pw EC T D ad (69 + K) M H) (hg : isKd_X3 g) (hlink : Cond.methodLink own index (⟨"OneOfTwo$Lodger", "leastAir", "(I)I"⟩ : MethodName) ∈ TB) (hR : 1 + 1 ≤ R.frames ∧ 8 + (2 + 11) + 48 * 1 ≤ R.locals) (hcs : cells ≤ R.cells ∧ slots ≤ R.slots) (hcat : (rest.map fun v => v.category).sum ≤ 8) (hdg : decode cc pc = .ok (.invokevirtual index, 3)) (hB : P_L_X3_leastAir K M g x1 Q1)
    (kk : ∀ r : Int32, Q1 r → W p l e R s m args below meth c H locs cells slots QQ (F0 m (pc + 3) ls (.int r :: rest))) : W p l e R s m args below meth c H locs cells slots QQ (F0 m pc ls (.int x1 :: .ref (ad g.toNatClampNeg) :: rest)) := by
  rcases hg with rfl | rfl | rfl | rfl | rfl | rfl | rfl
  · exact k_UR (lv := 1) (ci := 3) (n := 1) (c_X3_leastAir kd_X3_15 (hB.1 rfl)) (va_cwU (x := (⟨"OneOfTwo$Lodger", "leastAir", "(I)I"⟩ : MethodName)) 1 C.1.2.2.2.2 (gdU tw_2_217 hlink tw_2_204 tw_2_203 tw_2_202 tw_1_3) rfl rfl rfl rfl ⟨by decide, by decide, by decide +kernel⟩ (rmr hR (by decide) (by decide))) rfl rfl C hls hP oL_15 hcs hcat rfl hdg kk
  · exact k_UR (lv := 1) (ci := 0) (n := 1) (c_X0_leastAir kd_X0_16 (hB.2.1 rfl)) (va_cwO (x := (⟨"OneOfTwo$Lodger", "leastAir", "(I)I"⟩ : MethodName)) 1 C.1.2.2.2.2 (gdO tw_2_207 hlink tw_2_204 tw_2_202 tw_2_205 tw_2_206 tw_1_4) rfl rfl rfl tw_2_217 ⟨by decide, by decide, by decide +kernel⟩ (rmr hR (by decide) (by decide))) rfl rfl C hls hP oL_16 hcs hcat rfl hdg kk
  · exact k_UR (lv := 1) (ci := 7) (n := 1) (c_X7_leastAir kd_X7_17 (hB.2.2.1 rfl)) (va_cwO (x := (⟨"OneOfTwo$Lodger", "leastAir", "(I)I"⟩ : MethodName)) 1 C.1.2.2.2.2 (gdO tw_2_214 hlink tw_2_204 tw_2_202 tw_2_212 tw_2_213 tw_1_5) rfl rfl rfl tw_2_217 ⟨by decide, by decide, by decide +kernel⟩ (rmr hR (by decide) (by decide))) rfl rfl C hls hP oL_17 hcs hcat rfl hdg kk
  · exact k_UR (lv := 1) (ci := 6) (n := 1) (c_X3_leastAir kd_X3_18 (hB.2.2.2.1 rfl)) (va_cwU (x := (⟨"OneOfTwo$Lodger", "leastAir", "(I)I"⟩ : MethodName)) 1 C.1.2.2.2.2 (gdU tw_2_217 hlink tw_2_204 tw_2_211 tw_2_202 tw_1_3) rfl rfl rfl rfl ⟨by decide, by decide, by decide +kernel⟩ (rmr hR (by decide) (by decide))) rfl rfl C hls hP oL_18 hcs hcat rfl hdg kk
  · exact k_UR (lv := 1) (ci := 1) (n := 1) (c_X1_leastAir kd_X1_19 (hB.2.2.2.2.1 rfl)) (va_cwO (x := (⟨"OneOfTwo$Lodger", "leastAir", "(I)I"⟩ : MethodName)) 1 C.1.2.2.2.2 (gdO tw_2_210 hlink tw_2_204 tw_2_202 tw_2_208 tw_2_209 tw_1_7) rfl rfl rfl tw_2_217 ⟨by decide, by decide, by decide +kernel⟩ (rmr hR (by decide) (by decide))) rfl rfl C hls hP oL_19 hcs hcat rfl hdg kk
  · exact k_UR (lv := 1) (ci := 9) (n := 1) (c_X7_leastAir kd_X7_20 (hB.2.2.2.2.2.1 rfl)) (va_cwO (x := (⟨"OneOfTwo$Lodger", "leastAir", "(I)I"⟩ : MethodName)) 1 C.1.2.2.2.2 (gdO tw_2_214 hlink tw_2_204 tw_2_202 tw_2_216 tw_2_213 tw_1_5) rfl rfl rfl tw_2_217 ⟨by decide, by decide, by decide +kernel⟩ (rmr hR (by decide) (by decide))) rfl rfl C hls hP oL_20 hcs hcat rfl hdg kk
  · exact k_UR (lv := 1) (ci := 8) (n := 1) (c_X3_leastAir kd_X3_21 (hB.2.2.2.2.2.2 rfl)) (va_cwU (x := (⟨"OneOfTwo$Lodger", "leastAir", "(I)I"⟩ : MethodName)) 1 C.1.2.2.2.2 (gdU tw_2_217 hlink tw_2_204 tw_2_215 tw_2_202 tw_1_3) rfl rfl rfl rfl ⟨by decide, by decide, by decide +kernel⟩ (rmr hR (by decide) (by decide))) rfl rfl C hls hP oL_21 hcs hcat rfl hdg kk
def P_L_X3_pleased (K : Nat) (M : Mem) (g : Int32) (x1 : Int32) (x2 : Int32) (Q1 : Int32 → Prop) : Prop :=
  (g = 15 → P_X3_pleased K M g x1 x2 Q1) ∧
  (g = 16 → P_X3_pleased K M g x1 x2 Q1) ∧
  (g = 17 → P_X3_pleased K M g x1 x2 Q1) ∧
  (g = 18 → P_X6_pleased K M g x1 x2 Q1) ∧
  (g = 19 → P_X3_pleased K M g x1 x2 Q1) ∧
  (g = 20 → P_X3_pleased K M g x1 x2 Q1) ∧
  (g = 21 → P_X8_pleased K M g x1 x2 Q1)
set_option maxRecDepth 100000 in
set_option maxHeartbeats 4000000 in
theorem v_L_X3_pleased {K : Nat} {M : Mem} {g : Int32} {x1 : Int32} {x2 : Int32} {Q1 : Int32 → Prop} (C : Cx T D p s m args c cc nL own) (hls : ls.size = nL) (hP : Pw EC T D ad (69 + K) M H) (hg : isKd_X3 g) (hlink : Cond.methodLink own index (⟨"OneOfTwo$Lodger", "pleased", "(ZI)Z"⟩ : MethodName) ∈ TB) (hR : 2 + 1 ≤ R.frames ∧ 8 + (3 + 11) + 48 * 2 ≤ R.locals) (hcs : cells ≤ R.cells ∧ slots ≤ R.slots) (hcat : (rest.map fun v => v.category).sum ≤ 8) (hdg : decode cc pc = .ok (.invokevirtual index, 3)) (hB : P_L_X3_pleased K M g x1 x2 Q1)
    (kk : ∀ r : Int32, Q1 r → W p l e R s m args below meth c H locs cells slots QQ (F0 m (pc + 3) ls (.int r :: rest))) : W p l e R s m args below meth c H locs cells slots QQ (F0 m pc ls (.int x2 :: .int x1 :: .ref (ad g.toNatClampNeg) :: rest)) := by
  rcases hg with rfl | rfl | rfl | rfl | rfl | rfl | rfl
  · exact k_UR (lv := 1) (ci := 3) (n := 2) (c_X3_pleased kd_X3_15 (hB.1 rfl)) (va_cwU (x := (⟨"OneOfTwo$Lodger", "pleased", "(ZI)Z"⟩ : MethodName)) 2 C.1.2.2.2.2 (gdU tw_3_34 hlink tw_3_22 tw_3_21 tw_3_20 tw_1_3) rfl rfl rfl rfl ⟨by decide, by decide, by decide +kernel⟩ (rmr hR (by decide) (by decide))) rfl rfl C hls hP oL_15 hcs hcat rfl hdg kk
  · exact k_UR (lv := 1) (ci := 0) (n := 2) (c_X3_pleased kd_X3_16 (hB.2.1 rfl)) (va_cwU (x := (⟨"OneOfTwo$Lodger", "pleased", "(ZI)Z"⟩ : MethodName)) 2 C.1.2.2.2.2 (gdU tw_3_34 hlink tw_3_22 tw_3_23 tw_3_20 tw_1_3) rfl rfl rfl rfl ⟨by decide, by decide, by decide +kernel⟩ (rmr hR (by decide) (by decide))) rfl rfl C hls hP oL_16 hcs hcat rfl hdg kk
  · exact k_UR (lv := 1) (ci := 7) (n := 2) (c_X3_pleased kd_X3_17 (hB.2.2.1 rfl)) (va_cwU (x := (⟨"OneOfTwo$Lodger", "pleased", "(ZI)Z"⟩ : MethodName)) 2 C.1.2.2.2.2 (gdU tw_3_34 hlink tw_3_22 tw_3_28 tw_3_20 tw_1_3) rfl rfl rfl rfl ⟨by decide, by decide, by decide +kernel⟩ (rmr hR (by decide) (by decide))) rfl rfl C hls hP oL_17 hcs hcat rfl hdg kk
  · exact k_UR (lv := 1) (ci := 6) (n := 2) (c_X6_pleased kd_X6_18 (hB.2.2.2.1 rfl)) (va_cwO (x := (⟨"OneOfTwo$Lodger", "pleased", "(ZI)Z"⟩ : MethodName)) 2 C.1.2.2.2.2 (gdO tw_3_27 hlink tw_3_22 tw_3_20 tw_3_25 tw_3_26 tw_1_6) rfl rfl rfl tw_3_34 ⟨by decide, by decide, by decide +kernel⟩ (rmr hR (by decide) (by decide))) rfl rfl C hls hP oL_18 hcs hcat rfl hdg kk
  · exact k_UR (lv := 1) (ci := 1) (n := 2) (c_X3_pleased kd_X3_19 (hB.2.2.2.2.1 rfl)) (va_cwU (x := (⟨"OneOfTwo$Lodger", "pleased", "(ZI)Z"⟩ : MethodName)) 2 C.1.2.2.2.2 (gdU tw_3_34 hlink tw_3_22 tw_3_24 tw_3_20 tw_1_3) rfl rfl rfl rfl ⟨by decide, by decide, by decide +kernel⟩ (rmr hR (by decide) (by decide))) rfl rfl C hls hP oL_19 hcs hcat rfl hdg kk
  · exact k_UR (lv := 1) (ci := 9) (n := 2) (c_X3_pleased kd_X3_20 (hB.2.2.2.2.2.1 rfl)) (va_cwU (x := (⟨"OneOfTwo$Lodger", "pleased", "(ZI)Z"⟩ : MethodName)) 2 C.1.2.2.2.2 (gdU tw_3_34 hlink tw_3_22 tw_3_33 tw_3_20 tw_1_3) rfl rfl rfl rfl ⟨by decide, by decide, by decide +kernel⟩ (rmr hR (by decide) (by decide))) rfl rfl C hls hP oL_20 hcs hcat rfl hdg kk
  · exact k_UR (lv := 2) (ci := 8) (n := 2) (c_X8_pleased kd_X8_21 (hB.2.2.2.2.2.2 rfl)) (va_cwO (x := (⟨"OneOfTwo$Lodger", "pleased", "(ZI)Z"⟩ : MethodName)) 2 C.1.2.2.2.2 (gdO tw_3_31 hlink tw_3_22 tw_3_20 tw_3_29 tw_3_30 tw_1_9) rfl rfl rfl tw_3_34 ⟨by decide, by decide, by decide +kernel⟩ (rmr hR (by decide) (by decide))) rfl rfl C hls hP oL_21 hcs hcat rfl hdg kk
def P_L_X3_mostAir (K : Nat) (M : Mem) (g : Int32) (x1 : Int32) (Q1 : Int32 → Prop) : Prop :=
  (g = 15 → P_X3_mostAir K M g x1 Q1) ∧
  (g = 16 → P_X0_mostAir K M g x1 Q1) ∧
  (g = 17 → P_X7_mostAir K M g x1 Q1) ∧
  (g = 18 → P_X3_mostAir K M g x1 Q1) ∧
  (g = 19 → P_X1_mostAir K M g x1 Q1) ∧
  (g = 20 → P_X7_mostAir K M g x1 Q1) ∧
  (g = 21 → P_X3_mostAir K M g x1 Q1)
set_option maxRecDepth 100000 in
set_option maxHeartbeats 4000000 in
theorem v_L_X3_mostAir {K : Nat} {M : Mem} {g : Int32} {x1 : Int32} {Q1 : Int32 → Prop} (C : Cx T D p s m args c cc nL own) (hls : ls.size = nL) (hP : Pw EC T D ad (69 + K) M H) (hg : isKd_X3 g) (hlink : Cond.methodLink own index (⟨"OneOfTwo$Lodger", "mostAir", "(I)I"⟩ : MethodName) ∈ TB) (hR : 2 + 1 ≤ R.frames ∧ 8 + (2 + 11) + 48 * 2 ≤ R.locals) (hcs : cells ≤ R.cells ∧ slots ≤ R.slots) (hcat : (rest.map fun v => v.category).sum ≤ 8) (hdg : decode cc pc = .ok (.invokevirtual index, 3)) (hB : P_L_X3_mostAir K M g x1 Q1)
    (kk : ∀ r : Int32, Q1 r → W p l e R s m args below meth c H locs cells slots QQ (F0 m (pc + 3) ls (.int r :: rest))) : W p l e R s m args below meth c H locs cells slots QQ (F0 m pc ls (.int x1 :: .ref (ad g.toNatClampNeg) :: rest)) := by
  rcases hg with rfl | rfl | rfl | rfl | rfl | rfl | rfl
  · exact k_UR (lv := 1) (ci := 3) (n := 1) (c_X3_mostAir kd_X3_15 (hB.1 rfl)) (va_cwU (x := (⟨"OneOfTwo$Lodger", "mostAir", "(I)I"⟩ : MethodName)) 1 C.1.2.2.2.2 (gdU tw_2_235 hlink tw_2_221 tw_2_220 tw_2_219 tw_1_3) rfl rfl rfl rfl ⟨by decide, by decide, by decide +kernel⟩ (rmr hR (by decide) (by decide))) rfl rfl C hls hP oL_15 hcs hcat rfl hdg kk
  · exact k_UR (lv := 1) (ci := 0) (n := 1) (c_X0_mostAir kd_X0_16 (hB.2.1 rfl)) (va_cwO (x := (⟨"OneOfTwo$Lodger", "mostAir", "(I)I"⟩ : MethodName)) 1 C.1.2.2.2.2 (gdO tw_2_224 hlink tw_2_221 tw_2_219 tw_2_222 tw_2_223 tw_1_4) rfl rfl rfl tw_2_235 ⟨by decide, by decide, by decide +kernel⟩ (rmr hR (by decide) (by decide))) rfl rfl C hls hP oL_16 hcs hcat rfl hdg kk
  · exact k_UR (lv := 1) (ci := 7) (n := 1) (c_X7_mostAir kd_X7_17 (hB.2.2.1 rfl)) (va_cwO (x := (⟨"OneOfTwo$Lodger", "mostAir", "(I)I"⟩ : MethodName)) 1 C.1.2.2.2.2 (gdO tw_2_232 hlink tw_2_221 tw_2_219 tw_2_230 tw_2_231 tw_1_5) rfl rfl rfl tw_2_235 ⟨by decide, by decide, by decide +kernel⟩ (rmr hR (by decide) (by decide))) rfl rfl C hls hP oL_17 hcs hcat rfl hdg kk
  · exact k_UR (lv := 1) (ci := 6) (n := 1) (c_X3_mostAir kd_X3_18 (hB.2.2.2.1 rfl)) (va_cwU (x := (⟨"OneOfTwo$Lodger", "mostAir", "(I)I"⟩ : MethodName)) 1 C.1.2.2.2.2 (gdU tw_2_235 hlink tw_2_221 tw_2_229 tw_2_219 tw_1_3) rfl rfl rfl rfl ⟨by decide, by decide, by decide +kernel⟩ (rmr hR (by decide) (by decide))) rfl rfl C hls hP oL_18 hcs hcat rfl hdg kk
  · exact k_UR (lv := 2) (ci := 1) (n := 1) (c_X1_mostAir kd_X1_19 (hB.2.2.2.2.1 rfl)) (va_cwO (x := (⟨"OneOfTwo$Lodger", "mostAir", "(I)I"⟩ : MethodName)) 1 C.1.2.2.2.2 (gdO tw_2_227 hlink tw_2_221 tw_2_219 tw_2_225 tw_2_226 tw_1_7) rfl rfl rfl tw_2_235 ⟨by decide, by decide, by decide +kernel⟩ (rmr hR (by decide) (by decide))) rfl rfl C hls hP oL_19 hcs hcat rfl hdg kk
  · exact k_UR (lv := 1) (ci := 9) (n := 1) (c_X7_mostAir kd_X7_20 (hB.2.2.2.2.2.1 rfl)) (va_cwO (x := (⟨"OneOfTwo$Lodger", "mostAir", "(I)I"⟩ : MethodName)) 1 C.1.2.2.2.2 (gdO tw_2_232 hlink tw_2_221 tw_2_219 tw_2_234 tw_2_231 tw_1_5) rfl rfl rfl tw_2_235 ⟨by decide, by decide, by decide +kernel⟩ (rmr hR (by decide) (by decide))) rfl rfl C hls hP oL_20 hcs hcat rfl hdg kk
  · exact k_UR (lv := 1) (ci := 8) (n := 1) (c_X3_mostAir kd_X3_21 (hB.2.2.2.2.2.2 rfl)) (va_cwU (x := (⟨"OneOfTwo$Lodger", "mostAir", "(I)I"⟩ : MethodName)) 1 C.1.2.2.2.2 (gdU tw_2_235 hlink tw_2_221 tw_2_233 tw_2_219 tw_1_3) rfl rfl rfl rfl ⟨by decide, by decide, by decide +kernel⟩ (rmr hR (by decide) (by decide))) rfl rfl C hls hP oL_21 hcs hcat rfl hdg kk
def B_X2_isContentBy_40 (K : Nat) (g : Nat) (M : Mem) (Q1 : Int32 → Prop) (x3 : Int32) (s0 : Int32) : Prop :=
  P_L_X3_pleased K M x3 s0 (M g 10) (fun v7 => (v7 = 0 ∨ v7 = 1) ∧ Q1 v7)
def P_X2_isContentBy (K : Nat) (M : Mem) (g : Nat) (x1 : Int32) (x2 : Int32) (Q1 : Int32 → Prop) : Prop :=
  vp_in x1 6 ∧ ∀ u2 : Int32, u2 = M (g + 5) x1.toNatClampNeg → isKd_X3 u2 ∧ vp_in x1 6 ∧ P_L_X3_leastAir K M u2 (M (g + 6) x1.toNatClampNeg) (fun v5 => ((x2 < v5 → B_X2_isContentBy_40 K g M Q1 u2 0) ∧
    (¬ x2 < v5 → vp_in x1 6 ∧ P_L_X3_mostAir K M u2 (M (g + 6) x1.toNatClampNeg) (fun v9 => ((v9 < x2 → B_X2_isContentBy_40 K g M Q1 u2 0) ∧
      (¬ v9 < x2 → B_X2_isContentBy_40 K g M Q1 u2 1))))))
set_option maxRecDepth 100000 in
set_option maxHeartbeats 4000000 in
theorem w_X2_isContentBy_40 {K : Nat} {g : Nat} {M : Mem} {Q1 : Int32 → Prop} {x3 : Int32} {s0 : Int32} (C : Cx T D p s m args c cX2_isContentBy 5 "OneOfTwo$House") (hr : meth.sig.returnType = (some .boolean)) (hlk : meth.locks = false) (hP : Pw EC T D ad (69 + K) M s.heap) (hg : isH g) (f3 : isKd_X3 x3) {ls : Array Slot} (hl : lv_has ls 5 [(0, .ref (ad g)), (3, .ref (ad x3.toNatClampNeg))]) (hB : B_X2_isContentBy_40 K g M Q1 x3 s0) : W p l e (RM 3) s m args below meth c s.heap [] 0 0 (MQ below (QcR Q1) args s 0 0 (fun _ => False)) (F0 m 40 ls [.int s0]) := by
  have hx := C.x
  have hb := C.b
  delta B_X2_isContentBy_40 at hB
  refine lv_istore (lv' := [(4, .int s0), (0, .ref (ad g)), (3, .ref (ad x3.toNatClampNeg))]) hx hb dX2_isContentBy_40 hl (by decide) rfl (fun ls hl => ?_)
  refine lv_aload_n hx hb dX2_isContentBy_42 rfl (lv_at hl 2 rfl) ?_
  refine lv_iload hx hb dX2_isContentBy_43 (lv_at hl 0 rfl) ?_
  refine lv_aload_n hx hb dX2_isContentBy_45 rfl (lv_at hl 1 rfl) ?_
  refine gf_X2_10 C hP hg tw_1_155 dX2_isContentBy_46 ?_
  refine v_L_X3_pleased C hl.1 hP f3 tw_3_19 ⟨Nat.le_of_ble_eq_true rfl, Nat.le_of_ble_eq_true rfl⟩ ⟨Nat.le_refl _, Nat.le_refl _⟩ (Nat.le_of_ble_eq_true rfl) dX2_isContentBy_49 hB (fun v7 hB => ?_)
  exact e_zR C.1 hr hlk dX2_isContentBy_52 hB.1 hB.2
set_option maxRecDepth 100000 in
set_option maxHeartbeats 4000000 in
theorem c_X2_isContentBy {l : Launch} {T : Nat → ClassId} {D : va_G} {ad : Nat → Nat} {K : Nat} {M : Mem} {g : Nat} {x1 : Int32} {x2 : Int32} {Q1 : Int32 → Prop} (hg : isH g) (hB : P_X2_isContentBy K M g x1 x2 Q1) : Met l yX2_isContentBy (Cond.code yX2_isContentBy cX2_isContentBy 5 (some .boolean) :: TB) (RM 3) (va_Pc [.ref (ad g), .int x1, .int x2] (RdP EC T D ad (69 + K) M)) (QcR Q1) 0 0 (fun _ => False) := by
  refine st_R (by decide) (Nat.le_of_ble_eq_true rfl) (fun p e s m args below meth c ls C hr hlk hP hl => ?_)
  have hl : lv_has ls 5 [(0, .ref (ad g)), (1, .int x1), (2, .int x2)] := hl
  have hx := C.x
  have hb := C.b
  delta P_X2_isContentBy at hB
  refine lv_aload_n hx hb dX2_isContentBy_0 rfl (lv_at hl 0 rfl) ?_
  refine gf_X2_7 C hP hg tw_1_148 dX2_isContentBy_1 ?_
  refine lv_iload_n hx hb dX2_isContentBy_4 rfl (lv_at hl 1 rfl) ?_
  obtain ⟨q1, hB⟩ := hB
  obtain ⟨u2, eu2⟩ : ∃ y : Int32, y = M (g + 5) x1.toNatClampNeg := ⟨_, rfl⟩
  obtain ⟨fh3, hB⟩ := hB u2 eu2
  refine hk_ld C hP hg q1 eu2 fh3 dX2_isContentBy_5 ?_
  refine lv_astore_n (lv' := [(3, .ref (ad u2.toNatClampNeg)), (0, .ref (ad g)), (1, .int x1), (2, .int x2)]) hx hb dX2_isContentBy_6 rfl hl (by decide) rfl (fun ls hl => ?_)
  refine lv_iload_n hx hb dX2_isContentBy_7 rfl (lv_at hl 3 rfl) ?_
  refine lv_aload_n hx hb dX2_isContentBy_8 rfl (lv_at hl 0 rfl) ?_
  refine lv_aload_n hx hb dX2_isContentBy_9 rfl (lv_at hl 1 rfl) ?_
  refine gf_X2_8 C hP hg tw_1_150 dX2_isContentBy_10 ?_
  refine lv_iload_n hx hb dX2_isContentBy_13 rfl (lv_at hl 2 rfl) ?_
  obtain ⟨q4, hB⟩ := hB
  refine a_ld C hP (aH_6 hg) q4 dX2_isContentBy_14 ?_
  refine v_L_X3_leastAir C hl.1 hP fh3 tw_3_17 ⟨Nat.le_of_ble_eq_true rfl, Nat.le_of_ble_eq_true rfl⟩ ⟨Nat.le_refl _, Nat.le_refl _⟩ (Nat.le_of_ble_eq_true rfl) dX2_isContentBy_15 hB (fun v5 hB => ?_)
  refine lv_icmp_lt (tgt := 39) hx hb dX2_isContentBy_18 (by decide) (fun q6 => ?_) (fun q6 => ?_)
  · have hB := hB.1 q6
    refine lv_iconst (v := 0) hx hb dX2_isContentBy_39 (by decide) ?_
    exact w_X2_isContentBy_40 C hr hlk hP hg fh3 (lv_sub hl [1, 0] rfl) hB
  · have hB := hB.2 q6
    refine lv_iload_n hx hb dX2_isContentBy_21 rfl (lv_at hl 3 rfl) ?_
    refine lv_aload_n hx hb dX2_isContentBy_22 rfl (lv_at hl 0 rfl) ?_
    refine lv_aload_n hx hb dX2_isContentBy_23 rfl (lv_at hl 1 rfl) ?_
    refine gf_X2_8 C hP hg tw_1_150 dX2_isContentBy_24 ?_
    refine lv_iload_n hx hb dX2_isContentBy_27 rfl (lv_at hl 2 rfl) ?_
    obtain ⟨q8, hB⟩ := hB
    refine a_ld C hP (aH_6 hg) q8 dX2_isContentBy_28 ?_
    refine v_L_X3_mostAir C hl.1 hP fh3 tw_3_18 ⟨Nat.le_of_ble_eq_true rfl, Nat.le_of_ble_eq_true rfl⟩ ⟨Nat.le_refl _, Nat.le_refl _⟩ (Nat.le_of_ble_eq_true rfl) dX2_isContentBy_29 hB (fun v9 hB => ?_)
    refine lv_icmp_gt (tgt := 39) hx hb dX2_isContentBy_32 (by decide) (fun q10 => ?_) (fun q10 => ?_)
    · have hB := hB.1 q10
      refine lv_iconst (v := 0) hx hb dX2_isContentBy_39 (by decide) ?_
      exact w_X2_isContentBy_40 C hr hlk hP hg fh3 (lv_sub hl [1, 0] rfl) hB
    · have hB := hB.2 q10
      refine lv_iconst (v := 1) hx hb dX2_isContentBy_35 (by decide) ?_
      refine lv_goto (tgt := 40) hx hb dX2_isContentBy_36 (by decide) ?_
      exact w_X2_isContentBy_40 C hr hlk hP hg fh3 (lv_sub hl [1, 0] rfl) hB
set_option maxRecDepth 100000 in
set_option maxHeartbeats 4000000 in
theorem v_X2_isContentBy {K : Nat} {M : Mem} {g : Nat} {x1 : Int32} {x2 : Int32} {Q1 : Int32 → Prop} (C : Cx T D p s m args c cc nL own) (hls : ls.size = nL) (hP : Pw EC T D ad (69 + K) M H) (hg : isH g) (hlink : Cond.methodLink own index yX2_isContentBy ∈ TB) (hR : 3 + 1 ≤ R.frames ∧ 8 + (5 + 11) + 48 * 3 ≤ R.locals) (hcs : cells ≤ R.cells ∧ slots ≤ R.slots) (hcat : (rest.map fun v => v.category).sum ≤ 8) (hdg : decode cc pc = .ok (.invokevirtual index, 3)) (hB : P_X2_isContentBy K M g x1 x2 Q1)
    (kk : ∀ r : Int32, Q1 r → W p l e R s m args below meth c H locs cells slots QQ (F0 m (pc + 3) ls (.int r :: rest))) : W p l e R s m args below meth c H locs cells slots QQ (F0 m pc ls (.int x2 :: .int x1 :: .ref (ad g) :: rest)) :=
  k_V (ci := 2) (n := 2) (c_X2_isContentBy hg hB) tw_3_16 tw_3_14 tw_3_15 tw_1_10 ⟨rfl, by decide, by decide, by decide +kernel⟩ rfl rfl C hls hP (oH hg) hlink hR hcs hcat rfl hdg kk
def P_X2_isContent (K : Nat) (M : Mem) (g : Nat) (x1 : Int32) (Q1 : Int32 → Mem → Prop) : Prop :=
  vp_in x1 6 ∧ P_X2_openIn K M g (M (g + 7) x1.toNatClampNeg) (fun v2 => vp_in x1 6 ∧ P_X2_openBeside K M g (M (g + 7) x1.toNatClampNeg) (fun v4 => P_X2_airBy K M g v2 v4 (fun v5 M6 => P_X2_isContentBy K M6 g x1 v5 (fun v7 => (v7 = 0 ∨ v7 = 1) ∧ Q1 v7 M6))))
set_option maxRecDepth 100000 in
set_option maxHeartbeats 4000000 in
theorem c_X2_isContent {l : Launch} {T : Nat → ClassId} {D : va_G} {ad : Nat → Nat} {K : Nat} {M : Mem} {g : Nat} {x1 : Int32} {sz : Nat} {Q1 : Int32 → Mem → Prop} (hg : isH g) (hB : P_X2_isContent K M g x1 Q1) : Met l yX2_isContent (Cond.code yX2_isContent cX2_isContent 3 (some .boolean) :: TB) (RM 4) (va_Pc [.ref (ad g), .int x1] (WrP EC T D ad (69 + K) M sz)) (QcW EC T D ad (69 + K) (AA ad (69 + K) sz) Q1) 0 0 (AA ad (69 + K) sz) := by
  refine st_W (by decide) (Nat.le_of_ble_eq_true rfl) (fun p e s m args below meth c ls C hr hlk hsz Z hl => ?_)
  have hl : lv_has ls 3 [(0, .ref (ad g)), (1, .int x1)] := hl
  generalize AA ad (69 + K) sz = A at Z ⊢
  have hx := C.x
  have hb := C.b
  delta P_X2_isContent at hB
  refine lv_aload_n hx hb dX2_isContent_0 rfl (lv_at hl 0 rfl) ?_
  refine lv_aload_n hx hb dX2_isContent_1 rfl (lv_at hl 0 rfl) ?_
  refine lv_aload_n hx hb dX2_isContent_2 rfl (lv_at hl 0 rfl) ?_
  refine gf_X2_9 C Z.1 hg tw_1_152 dX2_isContent_3 ?_
  refine lv_iload_n hx hb dX2_isContent_6 rfl (lv_at hl 1 rfl) ?_
  obtain ⟨q1, hB⟩ := hB
  refine a_ld C Z.1 (aH_7 hg) q1 dX2_isContent_7 ?_
  refine v_X2_openIn C hl.1 Z.1 hg tw_2_151 ⟨Nat.le_of_ble_eq_true rfl, Nat.le_of_ble_eq_true rfl⟩ ⟨Nat.le_refl _, Nat.le_refl _⟩ (Nat.le_of_ble_eq_true rfl) dX2_isContent_8 hB (fun v2 hB => ?_)
  refine lv_aload_n hx hb dX2_isContent_11 rfl (lv_at hl 0 rfl) ?_
  refine lv_aload_n hx hb dX2_isContent_12 rfl (lv_at hl 0 rfl) ?_
  refine gf_X2_9 C Z.1 hg tw_1_152 dX2_isContent_13 ?_
  refine lv_iload_n hx hb dX2_isContent_16 rfl (lv_at hl 1 rfl) ?_
  obtain ⟨q3, hB⟩ := hB
  refine a_ld C Z.1 (aH_7 hg) q3 dX2_isContent_17 ?_
  refine v_X2_openBeside C hl.1 Z.1 hg tw_2_155 ⟨Nat.le_of_ble_eq_true rfl, Nat.le_of_ble_eq_true rfl⟩ ⟨Nat.le_refl _, Nat.le_refl _⟩ (Nat.le_of_ble_eq_true rfl) dX2_isContent_18 hB (fun v4 hB => ?_)
  refine v_X2_airBy C hl.1 Z hg tw_2_159 ⟨Nat.le_of_ble_eq_true rfl, Nat.le_of_ble_eq_true rfl⟩ ⟨Nat.le_refl _, Nat.le_refl _⟩ (Nat.le_of_ble_eq_true rfl) dX2_isContent_21 hB (fun v5 M6 H locs hB Z => ?_)
  refine lv_istore_n (lv' := [(2, .int v5), (0, .ref (ad g)), (1, .int x1)]) hx hb dX2_isContent_24 rfl hl (by decide) rfl (fun ls hl => ?_)
  refine lv_aload_n hx hb dX2_isContent_25 rfl (lv_at hl 1 rfl) ?_
  refine lv_iload_n hx hb dX2_isContent_26 rfl (lv_at hl 2 rfl) ?_
  refine lv_iload_n hx hb dX2_isContent_27 rfl (lv_at hl 0 rfl) ?_
  refine v_X2_isContentBy C hl.1 Z.1 hg tw_3_13 ⟨Nat.le_of_ble_eq_true rfl, Nat.le_of_ble_eq_true rfl⟩ ⟨Nat.le_refl _, Nat.le_refl _⟩ (Nat.le_of_ble_eq_true rfl) dX2_isContent_28 hB (fun v7 hB => ?_)
  exact e_zW C hr hlk Z dX2_isContent_31 hB.1 hB.2
set_option maxRecDepth 100000 in
set_option maxHeartbeats 4000000 in
theorem v_X2_isContent {K : Nat} {M : Mem} {g : Nat} {x1 : Int32} {Q1 : Int32 → Mem → Prop} (C : Cx T D p s m args c cc nL own) (hls : ls.size = nL) (Z : Zz EC T D ad (69 + K) A H0 M H locs) (hg : isH g) (hlink : Cond.methodLink own index yX2_isContent ∈ TB) (hR : 4 + 1 ≤ R.frames ∧ 8 + (3 + 11) + 48 * 4 ≤ R.locals) (hcs : cells ≤ R.cells ∧ slots ≤ R.slots) (hcat : (rest.map fun v => v.category).sum ≤ 8) (hdg : decode cc pc = .ok (.invokevirtual index, 3)) (hB : P_X2_isContent K M g x1 Q1)
    (kk : ∀ (r : Int32) (M1 : Mem) (H1 : Heap) (locs1 : List Loc), Q1 r M1 → Zz EC T D ad (69 + K) A H0 M1 H1 locs1 → W p l e R s m args below meth c H1 locs1 cells slots QQ (F0 m (pc + 3) ls (.int r :: rest))) : W p l e R s m args below meth c H locs cells slots QQ (F0 m pc ls (.int x1 :: .ref (ad g) :: rest)) :=
  k_VW (ci := 2) (n := 1) (c_X2_isContent hg hB) tw_3_12 tw_3_10 tw_3_11 tw_1_10 ⟨rfl, by decide, by decide, by decide +kernel⟩ rfl rfl C hls Z (oH hg) hlink hR hcs hcat rfl hdg kk
def P_L_X3_strength (K : Nat) (M : Mem) (g : Int32) (Q1 : Int32 → Prop) : Prop :=
  (g = 15 → P_X3_strength K M g Q1) ∧
  (g = 16 → P_X3_strength K M g Q1) ∧
  (g = 17 → P_X3_strength K M g Q1) ∧
  (g = 18 → P_X3_strength K M g Q1) ∧
  (g = 19 → P_X3_strength K M g Q1) ∧
  (g = 20 → P_X9_strength K M g Q1) ∧
  (g = 21 → P_X3_strength K M g Q1)
set_option maxRecDepth 100000 in
set_option maxHeartbeats 4000000 in
theorem v_L_X3_strength {K : Nat} {M : Mem} {g : Int32} {Q1 : Int32 → Prop} (C : Cx T D p s m args c cc nL own) (hls : ls.size = nL) (hP : Pw EC T D ad (69 + K) M H) (hg : isKd_X3 g) (hlink : Cond.methodLink own index (⟨"OneOfTwo$Lodger", "strength", "()I"⟩ : MethodName) ∈ TB) (hR : 1 + 1 ≤ R.frames ∧ 8 + (1 + 11) + 48 * 1 ≤ R.locals) (hcs : cells ≤ R.cells ∧ slots ≤ R.slots) (hcat : (rest.map fun v => v.category).sum ≤ 8) (hdg : decode cc pc = .ok (.invokevirtual index, 3)) (hB : P_L_X3_strength K M g Q1)
    (kk : ∀ r : Int32, Q1 r → W p l e R s m args below meth c H locs cells slots QQ (F0 m (pc + 3) ls (.int r :: rest))) : W p l e R s m args below meth c H locs cells slots QQ (F0 m pc ls (.ref (ad g.toNatClampNeg) :: rest)) := by
  rcases hg with rfl | rfl | rfl | rfl | rfl | rfl | rfl
  · exact k_UR (lv := 1) (ci := 3) (n := 0) (c_X3_strength kd_X3_15 (hB.1 rfl)) (va_cwU (x := (⟨"OneOfTwo$Lodger", "strength", "()I"⟩ : MethodName)) 0 C.1.2.2.2.2 (gdU tw_3_8 hlink tw_2_239 tw_2_238 tw_2_237 tw_1_3) rfl rfl rfl rfl ⟨by decide, by decide, by decide +kernel⟩ (rmr hR (by decide) (by decide))) rfl rfl C hls hP oL_15 hcs hcat rfl hdg kk
  · exact k_UR (lv := 1) (ci := 0) (n := 0) (c_X3_strength kd_X3_16 (hB.2.1 rfl)) (va_cwU (x := (⟨"OneOfTwo$Lodger", "strength", "()I"⟩ : MethodName)) 0 C.1.2.2.2.2 (gdU tw_3_8 hlink tw_2_239 tw_3_0 tw_2_237 tw_1_3) rfl rfl rfl rfl ⟨by decide, by decide, by decide +kernel⟩ (rmr hR (by decide) (by decide))) rfl rfl C hls hP oL_16 hcs hcat rfl hdg kk
  · exact k_UR (lv := 1) (ci := 7) (n := 0) (c_X3_strength kd_X3_17 (hB.2.2.1 rfl)) (va_cwU (x := (⟨"OneOfTwo$Lodger", "strength", "()I"⟩ : MethodName)) 0 C.1.2.2.2.2 (gdU tw_3_8 hlink tw_2_239 tw_3_3 tw_2_237 tw_1_3) rfl rfl rfl rfl ⟨by decide, by decide, by decide +kernel⟩ (rmr hR (by decide) (by decide))) rfl rfl C hls hP oL_17 hcs hcat rfl hdg kk
  · exact k_UR (lv := 1) (ci := 6) (n := 0) (c_X3_strength kd_X3_18 (hB.2.2.2.1 rfl)) (va_cwU (x := (⟨"OneOfTwo$Lodger", "strength", "()I"⟩ : MethodName)) 0 C.1.2.2.2.2 (gdU tw_3_8 hlink tw_2_239 tw_3_2 tw_2_237 tw_1_3) rfl rfl rfl rfl ⟨by decide, by decide, by decide +kernel⟩ (rmr hR (by decide) (by decide))) rfl rfl C hls hP oL_18 hcs hcat rfl hdg kk
  · exact k_UR (lv := 1) (ci := 1) (n := 0) (c_X3_strength kd_X3_19 (hB.2.2.2.2.1 rfl)) (va_cwU (x := (⟨"OneOfTwo$Lodger", "strength", "()I"⟩ : MethodName)) 0 C.1.2.2.2.2 (gdU tw_3_8 hlink tw_2_239 tw_3_1 tw_2_237 tw_1_3) rfl rfl rfl rfl ⟨by decide, by decide, by decide +kernel⟩ (rmr hR (by decide) (by decide))) rfl rfl C hls hP oL_19 hcs hcat rfl hdg kk
  · exact k_UR (lv := 1) (ci := 9) (n := 0) (c_X9_strength kd_X9_20 (hB.2.2.2.2.2.1 rfl)) (va_cwO (x := (⟨"OneOfTwo$Lodger", "strength", "()I"⟩ : MethodName)) 0 C.1.2.2.2.2 (gdO tw_3_7 hlink tw_2_239 tw_2_237 tw_3_5 tw_3_6 tw_1_8) rfl rfl rfl tw_3_8 ⟨by decide, by decide, by decide +kernel⟩ (rmr hR (by decide) (by decide))) rfl rfl C hls hP oL_20 hcs hcat rfl hdg kk
  · exact k_UR (lv := 1) (ci := 8) (n := 0) (c_X3_strength kd_X3_21 (hB.2.2.2.2.2.2 rfl)) (va_cwU (x := (⟨"OneOfTwo$Lodger", "strength", "()I"⟩ : MethodName)) 0 C.1.2.2.2.2 (gdU tw_3_8 hlink tw_2_239 tw_3_4 tw_2_237 tw_1_3) rfl rfl rfl rfl ⟨by decide, by decide, by decide +kernel⟩ (rmr hR (by decide) (by decide))) rfl rfl C hls hP oL_21 hcs hcat rfl hdg kk
def P_X11_ofLodger (K : Nat) (M : Mem) (x1 : Int32) (x2 : Int32) (Q1 : Int32 → Mem → Prop) : Prop :=
  P_X11_isLodger K M x1 (fun v1 => ((¬ v1 = 0 → vp_in x1 6 ∧ ∀ u4 : Int32, u4 = M 35 x1.toNatClampNeg → isKd_X3 u4 ∧ ((x2 = 0 → Q1 (u4 - 15) M) ∧
      (x2 = 1 → vp_in x1 6 ∧ Q1 (M 36 x1.toNatClampNeg) M) ∧
      (x2 = 2 → vp_in x1 6 ∧ Q1 (M 37 x1.toNatClampNeg) M) ∧
      (x2 = 3 → vp_in x1 6 ∧ P_L_X3_leastAir K M u4 (M 36 x1.toNatClampNeg) (fun v10 => Q1 v10 M)) ∧
      (x2 = 4 → vp_in x1 6 ∧ P_L_X3_mostAir K M u4 (M 36 x1.toNatClampNeg) (fun v12 => Q1 v12 M)) ∧
      (x2 = 5 → P_L_X3_strength K M u4 (fun v13 => Q1 v13 M)) ∧
      (x2 = 6 → P_X2_isContent K M 30 x1 (fun v14 M15 => ((v14 = 0 → Q1 0 M15) ∧
        (¬ v14 = 0 → Q1 1 M15)))) ∧
      (¬ x2 = 0 → ¬ x2 = 1 → ¬ x2 = 2 → ¬ x2 = 3 → ¬ x2 = 4 → ¬ x2 = 5 → ¬ x2 = 6 → P_X11_error K M 1 (fun v17 M18 => Q1 v17 M18)))) ∧
    (v1 = 0 → P_X11_error K M 1 (fun v19 M20 => Q1 v19 M20))))
set_option maxRecDepth 100000 in
set_option maxHeartbeats 4000000 in
theorem c_X11_ofLodger {l : Launch} {T : Nat → ClassId} {D : va_G} {ad : Nat → Nat} {K : Nat} {M : Mem} {x1 : Int32} {x2 : Int32} {sz : Nat} {Q1 : Int32 → Mem → Prop} (hB : P_X11_ofLodger K M x1 x2 Q1) : Met l yX11_ofLodger (Cond.code yX11_ofLodger cX11_ofLodger 4 (some .int) :: TB) (RM 5) (va_Pc [.ref (ad 0), .int x1, .int x2] (WrP EC T D ad (69 + K) M sz)) (QcW EC T D ad (69 + K) (AA ad (69 + K) sz) Q1) 0 0 (AA ad (69 + K) sz) := by
  refine st_W (by decide) (Nat.le_of_ble_eq_true rfl) (fun p e s m args below meth c ls C hr hlk hsz Z hl => ?_)
  have hl : lv_has ls 4 [(0, .ref (ad 0)), (1, .int x1), (2, .int x2)] := hl
  generalize AA ad (69 + K) sz = A at Z ⊢
  have hx := C.x
  have hb := C.b
  delta P_X11_ofLodger at hB
  refine lv_aload_n hx hb dX11_ofLodger_0 rfl (lv_at hl 0 rfl) ?_
  refine lv_iload_n hx hb dX11_ofLodger_1 rfl (lv_at hl 1 rfl) ?_
  refine v_X11_isLodger C hl.1 Z.1 tw_2_197 ⟨Nat.le_of_ble_eq_true rfl, Nat.le_of_ble_eq_true rfl⟩ ⟨Nat.le_refl _, Nat.le_refl _⟩ (Nat.le_of_ble_eq_true rfl) dX11_ofLodger_2 hB (fun v1 hB => ?_)
  refine lv_if_ne (tgt := 14) hx hb dX11_ofLodger_5 (by decide) (fun q2 => ?_) (fun q2 => ?_)
  · have hB := hB.1 q2
    refine lv_aload_n hx hb dX11_ofLodger_14 rfl (lv_at hl 0 rfl) ?_
    refine gf_X11_5 C Z.1 tw_2_17 dX11_ofLodger_15 ?_
    refine gf_X2_7 C Z.1 isH_0 tw_1_149 dX11_ofLodger_18 ?_
    refine lv_iload_n hx hb dX11_ofLodger_21 rfl (lv_at hl 1 rfl) ?_
    obtain ⟨q3, hB⟩ := hB
    obtain ⟨u4, eu4⟩ : ∃ y : Int32, y = M 35 x1.toNatClampNeg := ⟨_, rfl⟩
    obtain ⟨fh5, hB⟩ := hB u4 eu4
    refine hk_ld C Z.1 isH_0 q3 eu4 fh5 dX11_ofLodger_22 ?_
    refine lv_astore_n (lv' := [(3, .ref (ad u4.toNatClampNeg)), (0, .ref (ad 0)), (1, .int x1), (2, .int x2)]) hx hb dX11_ofLodger_23 rfl hl (by decide) rfl (fun ls hl => ?_)
    refine lv_iload_n hx hb dX11_ofLodger_24 rfl (lv_at hl 3 rfl) ?_
    by_cases q6_0 : x2 = 0
    · have hB := hB.1 q6_0
      refine lv_tableIn (off := 43) (tgt := 68) hx hb dX11_ofLodger_25 (by rw [q6_0]; decide) (by rw [q6_0]; decide) (by rw [q6_0]; rfl) (by decide) ?_
      refine lv_aload_n hx hb dX11_ofLodger_68 rfl (lv_at hl 0 rfl) ?_
      refine gf_number C Z.1 fh5 tw_1_64 dX11_ofLodger_69 ?_
      exact e_iW C hr hlk Z dX11_ofLodger_72 hB
    by_cases q6_1 : x2 = 1
    · have hB := hB.2.1 q6_1
      refine lv_tableIn (off := 48) (tgt := 73) hx hb dX11_ofLodger_25 (by rw [q6_1]; decide) (by rw [q6_1]; decide) (by rw [q6_1]; rfl) (by decide) ?_
      refine lv_aload_n hx hb dX11_ofLodger_73 rfl (lv_at hl 1 rfl) ?_
      refine gf_X11_5 C Z.1 tw_2_17 dX11_ofLodger_74 ?_
      refine gf_X2_8 C Z.1 isH_0 tw_1_151 dX11_ofLodger_77 ?_
      refine lv_iload_n hx hb dX11_ofLodger_80 rfl (lv_at hl 2 rfl) ?_
      obtain ⟨q7, hB⟩ := hB
      refine a_ld C Z.1 (aH_6 isH_0) q7 dX11_ofLodger_81 ?_
      exact e_iW C hr hlk Z dX11_ofLodger_82 hB
    by_cases q6_2 : x2 = 2
    · have hB := hB.2.2.1 q6_2
      refine lv_tableIn (off := 58) (tgt := 83) hx hb dX11_ofLodger_25 (by rw [q6_2]; decide) (by rw [q6_2]; decide) (by rw [q6_2]; rfl) (by decide) ?_
      refine lv_aload_n hx hb dX11_ofLodger_83 rfl (lv_at hl 1 rfl) ?_
      refine gf_X11_5 C Z.1 tw_2_17 dX11_ofLodger_84 ?_
      refine gf_X2_9 C Z.1 isH_0 tw_1_154 dX11_ofLodger_87 ?_
      refine lv_iload_n hx hb dX11_ofLodger_90 rfl (lv_at hl 2 rfl) ?_
      obtain ⟨q8, hB⟩ := hB
      refine a_ld C Z.1 (aH_7 isH_0) q8 dX11_ofLodger_91 ?_
      exact e_iW C hr hlk Z dX11_ofLodger_92 hB
    by_cases q6_3 : x2 = 3
    · have hB := hB.2.2.2.1 q6_3
      refine lv_tableIn (off := 68) (tgt := 93) hx hb dX11_ofLodger_25 (by rw [q6_3]; decide) (by rw [q6_3]; decide) (by rw [q6_3]; rfl) (by decide) ?_
      refine lv_aload_n hx hb dX11_ofLodger_93 rfl (lv_at hl 0 rfl) ?_
      refine lv_aload_n hx hb dX11_ofLodger_94 rfl (lv_at hl 1 rfl) ?_
      refine gf_X11_5 C Z.1 tw_2_17 dX11_ofLodger_95 ?_
      refine gf_X2_8 C Z.1 isH_0 tw_1_151 dX11_ofLodger_98 ?_
      refine lv_iload_n hx hb dX11_ofLodger_101 rfl (lv_at hl 2 rfl) ?_
      obtain ⟨q9, hB⟩ := hB
      refine a_ld C Z.1 (aH_6 isH_0) q9 dX11_ofLodger_102 ?_
      refine v_L_X3_leastAir C hl.1 Z.1 fh5 tw_2_201 ⟨Nat.le_of_ble_eq_true rfl, Nat.le_of_ble_eq_true rfl⟩ ⟨Nat.le_refl _, Nat.le_refl _⟩ (Nat.le_of_ble_eq_true rfl) dX11_ofLodger_103 hB (fun v10 hB => ?_)
      exact e_iW C hr hlk Z dX11_ofLodger_106 hB
    by_cases q6_4 : x2 = 4
    · have hB := hB.2.2.2.2.1 q6_4
      refine lv_tableIn (off := 82) (tgt := 107) hx hb dX11_ofLodger_25 (by rw [q6_4]; decide) (by rw [q6_4]; decide) (by rw [q6_4]; rfl) (by decide) ?_
      refine lv_aload_n hx hb dX11_ofLodger_107 rfl (lv_at hl 0 rfl) ?_
      refine lv_aload_n hx hb dX11_ofLodger_108 rfl (lv_at hl 1 rfl) ?_
      refine gf_X11_5 C Z.1 tw_2_17 dX11_ofLodger_109 ?_
      refine gf_X2_8 C Z.1 isH_0 tw_1_151 dX11_ofLodger_112 ?_
      refine lv_iload_n hx hb dX11_ofLodger_115 rfl (lv_at hl 2 rfl) ?_
      obtain ⟨q11, hB⟩ := hB
      refine a_ld C Z.1 (aH_6 isH_0) q11 dX11_ofLodger_116 ?_
      refine v_L_X3_mostAir C hl.1 Z.1 fh5 tw_2_218 ⟨Nat.le_of_ble_eq_true rfl, Nat.le_of_ble_eq_true rfl⟩ ⟨Nat.le_refl _, Nat.le_refl _⟩ (Nat.le_of_ble_eq_true rfl) dX11_ofLodger_117 hB (fun v12 hB => ?_)
      exact e_iW C hr hlk Z dX11_ofLodger_120 hB
    by_cases q6_5 : x2 = 5
    · have hB := hB.2.2.2.2.2.1 q6_5
      refine lv_tableIn (off := 96) (tgt := 121) hx hb dX11_ofLodger_25 (by rw [q6_5]; decide) (by rw [q6_5]; decide) (by rw [q6_5]; rfl) (by decide) ?_
      refine lv_aload_n hx hb dX11_ofLodger_121 rfl (lv_at hl 0 rfl) ?_
      refine v_L_X3_strength C hl.1 Z.1 fh5 tw_2_236 ⟨Nat.le_of_ble_eq_true rfl, Nat.le_of_ble_eq_true rfl⟩ ⟨Nat.le_refl _, Nat.le_refl _⟩ (Nat.le_of_ble_eq_true rfl) dX11_ofLodger_122 hB (fun v13 hB => ?_)
      exact e_iW C hr hlk Z dX11_ofLodger_125 hB
    by_cases q6_6 : x2 = 6
    · have hB := hB.2.2.2.2.2.2.1 q6_6
      refine lv_tableIn (off := 101) (tgt := 126) hx hb dX11_ofLodger_25 (by rw [q6_6]; decide) (by rw [q6_6]; decide) (by rw [q6_6]; rfl) (by decide) ?_
      refine lv_aload_n hx hb dX11_ofLodger_126 rfl (lv_at hl 1 rfl) ?_
      refine gf_X11_5 C Z.1 tw_2_17 dX11_ofLodger_127 ?_
      refine lv_iload_n hx hb dX11_ofLodger_130 rfl (lv_at hl 2 rfl) ?_
      refine v_X2_isContent C hl.1 Z isH_0 tw_3_9 ⟨Nat.le_of_ble_eq_true rfl, Nat.le_of_ble_eq_true rfl⟩ ⟨Nat.le_refl _, Nat.le_refl _⟩ (Nat.le_of_ble_eq_true rfl) dX11_ofLodger_131 hB (fun v14 M15 H locs hB Z => ?_)
      refine lv_if_eq (tgt := 141) hx hb dX11_ofLodger_134 (by decide) (fun q16 => ?_) (fun q16 => ?_)
      · have hB := hB.1 q16
        refine lv_iconst (v := 0) hx hb dX11_ofLodger_141 (by decide) ?_
        exact e_iW C hr hlk Z dX11_ofLodger_142 hB
      · have hB := hB.2 q16
        refine lv_iconst (v := 1) hx hb dX11_ofLodger_137 (by decide) ?_
        refine lv_goto (tgt := 142) hx hb dX11_ofLodger_138 (by decide) ?_
        exact e_iW C hr hlk Z dX11_ofLodger_142 hB
    have hB := hB.2.2.2.2.2.2.2 q6_0 q6_1 q6_2 q6_3 q6_4 q6_5 q6_6
    refine lv_tableOut (tgt := 143) hx hb dX11_ofLodger_25 (sw_out 0 6 7 (by decide) (lt_s (lt_s (lt_s (lt_s (lt_s (lt_s (lt_s lt_0 q6_0) q6_1) q6_2) q6_3) q6_4) q6_5) q6_6)) (by decide) ?_
    refine lv_aload_n hx hb dX11_ofLodger_143 rfl (lv_at hl 1 rfl) ?_
    refine lv_iconst (v := 1) hx hb dX11_ofLodger_144 (by decide) ?_
    refine v_X11_error C hl.1 Z tw_2_56 ⟨Nat.le_of_ble_eq_true rfl, Nat.le_of_ble_eq_true rfl⟩ ⟨Nat.le_refl _, Nat.le_refl _⟩ (Nat.le_of_ble_eq_true rfl) dX11_ofLodger_145 hB (fun v17 M18 H locs hB Z => ?_)
    exact e_iW C hr hlk Z dX11_ofLodger_148 hB
  · have hB := hB.2 q2
    refine lv_aload_n hx hb dX11_ofLodger_8 rfl (lv_at hl 0 rfl) ?_
    refine lv_iconst (v := 1) hx hb dX11_ofLodger_9 (by decide) ?_
    refine v_X11_error C hl.1 Z tw_2_56 ⟨Nat.le_of_ble_eq_true rfl, Nat.le_of_ble_eq_true rfl⟩ ⟨Nat.le_refl _, Nat.le_refl _⟩ (Nat.le_of_ble_eq_true rfl) dX11_ofLodger_10 hB (fun v19 M20 H locs hB Z => ?_)
    exact e_iW C hr hlk Z dX11_ofLodger_13 hB
set_option maxRecDepth 100000 in
set_option maxHeartbeats 4000000 in
theorem v_X11_ofLodger {K : Nat} {M : Mem} {x1 : Int32} {x2 : Int32} {Q1 : Int32 → Mem → Prop} (C : Cx T D p s m args c cc nL own) (hls : ls.size = nL) (Z : Zz EC T D ad (69 + K) A H0 M H locs) (hlink : Cond.methodLink own index yX11_ofLodger ∈ TB) (hR : 5 + 1 ≤ R.frames ∧ 8 + (4 + 11) + 48 * 5 ≤ R.locals) (hcs : cells ≤ R.cells ∧ slots ≤ R.slots) (hcat : (rest.map fun v => v.category).sum ≤ 8) (hdg : decode cc pc = .ok (.invokevirtual index, 3)) (hB : P_X11_ofLodger K M x1 x2 Q1)
    (kk : ∀ (r : Int32) (M1 : Mem) (H1 : Heap) (locs1 : List Loc), Q1 r M1 → Zz EC T D ad (69 + K) A H0 M1 H1 locs1 → W p l e R s m args below meth c H1 locs1 cells slots QQ (F0 m (pc + 3) ls (.int r :: rest))) : W p l e R s m args below meth c H locs cells slots QQ (F0 m pc ls (.int x2 :: .int x1 :: .ref (ad 0) :: rest)) :=
  k_VW (ci := 11) (n := 2) (c_X11_ofLodger hB) tw_2_196 tw_2_194 tw_2_195 tw_1_1 ⟨rfl, by decide, by decide, by decide +kernel⟩ rfl rfl C hls Z oO hlink hR hcs hcat rfl hdg kk
def P_X11_become (K : Nat) (M : Mem) (x1 : Int32) (x2 : Int32) (Q1 : Int32 → Mem → Prop) : Prop :=
  P_X11_isLodger K M x1 (fun v1 => ((v1 = 0 → P_X11_error K M 1 (fun v3 M4 => Q1 v3 M4)) ∧
    (¬ v1 = 0 → P_X11_isKindAndNumber x2 (fun v5 => ((¬ v5 = 0 → vp_in x1 6 ∧ ∀ u8 : Int32, u8 = M 35 x1.toNatClampNeg → isKd_X3 u8 ∧ ∀ x3_10 : Int32, x3_10 = u8 - 15 → vp_in (x2 / 10) 7 ∧ P_X2_settle K M 30 x1 (15 + (x2 / 10)) (x2 - x2 / 10 * 10) (fun M12 => Q1 x3_10 M12)) ∧
      (v5 = 0 → P_X11_error K M 1 (fun v13 M14 => Q1 v13 M14)))))))
set_option maxRecDepth 100000 in
set_option maxHeartbeats 4000000 in
theorem c_X11_become {l : Launch} {T : Nat → ClassId} {D : va_G} {ad : Nat → Nat} {K : Nat} {M : Mem} {x1 : Int32} {x2 : Int32} {sz : Nat} {Q1 : Int32 → Mem → Prop} (hB : P_X11_become K M x1 x2 Q1) : Met l yX11_become (Cond.code yX11_become cX11_become 4 (some .int) :: TB) (RM 2) (va_Pc [.ref (ad 0), .int x1, .int x2] (WrP EC T D ad (69 + K) M sz)) (QcW EC T D ad (69 + K) (AA ad (69 + K) sz) Q1) 0 0 (AA ad (69 + K) sz) := by
  refine st_W (by decide) (Nat.le_of_ble_eq_true rfl) (fun p e s m args below meth c ls C hr hlk hsz Z hl => ?_)
  have hl : lv_has ls 4 [(0, .ref (ad 0)), (1, .int x1), (2, .int x2)] := hl
  generalize AA ad (69 + K) sz = A at Z ⊢
  have hx := C.x
  have hb := C.b
  delta P_X11_become at hB
  refine lv_aload_n hx hb dX11_become_0 rfl (lv_at hl 0 rfl) ?_
  refine lv_iload_n hx hb dX11_become_1 rfl (lv_at hl 1 rfl) ?_
  refine v_X11_isLodger C hl.1 Z.1 tw_2_197 ⟨Nat.le_of_ble_eq_true rfl, Nat.le_of_ble_eq_true rfl⟩ ⟨Nat.le_refl _, Nat.le_refl _⟩ (Nat.le_of_ble_eq_true rfl) dX11_become_2 hB (fun v1 hB => ?_)
  refine lv_if_eq (tgt := 15) hx hb dX11_become_5 (by decide) (fun q2 => ?_) (fun q2 => ?_)
  · have hB := hB.1 q2
    refine lv_aload_n hx hb dX11_become_15 rfl (lv_at hl 0 rfl) ?_
    refine lv_iconst (v := 1) hx hb dX11_become_16 (by decide) ?_
    refine v_X11_error C hl.1 Z tw_2_56 ⟨Nat.le_of_ble_eq_true rfl, Nat.le_of_ble_eq_true rfl⟩ ⟨Nat.le_refl _, Nat.le_refl _⟩ (Nat.le_of_ble_eq_true rfl) dX11_become_17 hB (fun v3 M4 H locs hB Z => ?_)
    exact e_iW C hr hlk Z dX11_become_20 hB
  · have hB := hB.2 q2
    refine lv_iload_n hx hb dX11_become_8 rfl (lv_at hl 2 rfl) ?_
    refine v_X11_isKindAndNumber C.1 hl.1 tw_2_186 ⟨Nat.le_of_ble_eq_true rfl, Nat.le_of_ble_eq_true rfl⟩ ⟨Nat.le_refl _, Nat.le_refl _⟩ (Nat.le_of_ble_eq_true rfl) dX11_become_9 hB (fun v5 hB => ?_)
    refine lv_if_ne (tgt := 21) hx hb dX11_become_12 (by decide) (fun q6 => ?_) (fun q6 => ?_)
    · have hB := hB.1 q6
      refine lv_aload_n hx hb dX11_become_21 rfl (lv_at hl 0 rfl) ?_
      refine gf_X11_5 C Z.1 tw_2_17 dX11_become_22 ?_
      refine gf_X2_7 C Z.1 isH_0 tw_1_149 dX11_become_25 ?_
      refine lv_iload_n hx hb dX11_become_28 rfl (lv_at hl 1 rfl) ?_
      obtain ⟨q7, hB⟩ := hB
      obtain ⟨u8, eu8⟩ : ∃ y : Int32, y = M 35 x1.toNatClampNeg := ⟨_, rfl⟩
      obtain ⟨fh9, hB⟩ := hB u8 eu8
      refine hk_ld C Z.1 isH_0 q7 eu8 fh9 dX11_become_29 ?_
      refine gf_number C Z.1 fh9 tw_1_64 dX11_become_30 ?_
      refine lv_topi (fun x3_10 ex3_10 => ?_)
      have hB := hB x3_10 ex3_10
      refine lv_istore_n (lv' := [(3, .int x3_10), (0, .ref (ad 0)), (1, .int x1), (2, .int x2)]) hx hb dX11_become_33 rfl hl (by decide) rfl (fun ls hl => ?_)
      refine lv_aload_n hx hb dX11_become_34 rfl (lv_at hl 1 rfl) ?_
      refine gf_X11_5 C Z.1 tw_2_17 dX11_become_35 ?_
      refine lv_iload_n hx hb dX11_become_38 rfl (lv_at hl 2 rfl) ?_
      refine lv_aload_n hx hb dX11_become_39 rfl (lv_at hl 1 rfl) ?_
      refine gf_X11_0 C Z.1 tw_2_12 dX11_become_40 ?_
      refine lv_iload_n hx hb dX11_become_43 rfl (lv_at hl 3 rfl) ?_
      refine lv_bipush (v := 10) hx hb dX11_become_44 (by decide) ?_
      refine lv_idiv hx hb dX11_become_46 (by decide) ?_
      obtain ⟨q11, hB⟩ := hB
      refine ka_ld C Z.1 q11 dX11_become_47 ?_
      refine lv_iload_n hx hb dX11_become_48 rfl (lv_at hl 3 rfl) ?_
      refine lv_bipush (v := 10) hx hb dX11_become_49 (by decide) ?_
      refine lv_irem hx hb dX11_become_51 (by decide) ?_
      refine v_X2_settle C hl.1 Z isH_0 (kd_in q11) tw_2_189 ⟨Nat.le_of_ble_eq_true rfl, Nat.le_of_ble_eq_true rfl⟩ ⟨Nat.le_refl _, Nat.le_refl _⟩ (Nat.le_of_ble_eq_true rfl) dX11_become_52 hB (fun M12 H locs hB Z => ?_)
      refine lv_iload_n hx hb dX11_become_55 rfl (lv_at hl 0 rfl) ?_
      exact e_iW C hr hlk Z dX11_become_56 hB
    · have hB := hB.2 q6
      refine lv_aload_n hx hb dX11_become_15 rfl (lv_at hl 0 rfl) ?_
      refine lv_iconst (v := 1) hx hb dX11_become_16 (by decide) ?_
      refine v_X11_error C hl.1 Z tw_2_56 ⟨Nat.le_of_ble_eq_true rfl, Nat.le_of_ble_eq_true rfl⟩ ⟨Nat.le_refl _, Nat.le_refl _⟩ (Nat.le_of_ble_eq_true rfl) dX11_become_17 hB (fun v13 M14 H locs hB Z => ?_)
      exact e_iW C hr hlk Z dX11_become_20 hB
set_option maxRecDepth 100000 in
set_option maxHeartbeats 4000000 in
theorem v_X11_become {K : Nat} {M : Mem} {x1 : Int32} {x2 : Int32} {Q1 : Int32 → Mem → Prop} (C : Cx T D p s m args c cc nL own) (hls : ls.size = nL) (Z : Zz EC T D ad (69 + K) A H0 M H locs) (hlink : Cond.methodLink own index yX11_become ∈ TB) (hR : 2 + 1 ≤ R.frames ∧ 8 + (4 + 11) + 48 * 2 ≤ R.locals) (hcs : cells ≤ R.cells ∧ slots ≤ R.slots) (hcat : (rest.map fun v => v.category).sum ≤ 8) (hdg : decode cc pc = .ok (.invokevirtual index, 3)) (hB : P_X11_become K M x1 x2 Q1)
    (kk : ∀ (r : Int32) (M1 : Mem) (H1 : Heap) (locs1 : List Loc), Q1 r M1 → Zz EC T D ad (69 + K) A H0 M1 H1 locs1 → W p l e R s m args below meth c H1 locs1 cells slots QQ (F0 m (pc + 3) ls (.int r :: rest))) : W p l e R s m args below meth c H locs cells slots QQ (F0 m pc ls (.int x2 :: .int x1 :: .ref (ad 0) :: rest)) :=
  k_VW (ci := 11) (n := 2) (c_X11_become hB) tw_3_38 tw_3_36 tw_3_37 tw_1_1 ⟨rfl, by decide, by decide, by decide +kernel⟩ rfl rfl C hls Z oO hlink hR hcs hcat rfl hdg kk
def P_X11_goes (K : Nat) (M : Mem) (x1 : Int32) (x2 : Int32) (Q1 : Int32 → Mem → Prop) : Prop :=
  P_X11_isLodger K M x1 (fun v1 => ((v1 = 0 → P_X11_error K M 1 (fun v3 M4 => Q1 v3 M4)) ∧
    (¬ v1 = 0 → P_X11_isRoom x2 (fun v5 => ((¬ v5 = 0 → vp_in x1 6 ∧ ∀ x3_8 : Int32, x3_8 = M 37 x1.toNatClampNeg → vp_in x1 6 ∧ ∀ M9 : Mem, M9 = sf M 37 x1.toNatClampNeg x2 → Q1 x3_8 M9) ∧
      (v5 = 0 → P_X11_error K M 1 (fun v11 M12 => Q1 v11 M12)))))))
set_option maxRecDepth 100000 in
set_option maxHeartbeats 4000000 in
theorem c_X11_goes {l : Launch} {T : Nat → ClassId} {D : va_G} {ad : Nat → Nat} {K : Nat} {M : Mem} {x1 : Int32} {x2 : Int32} {sz : Nat} {Q1 : Int32 → Mem → Prop} (hB : P_X11_goes K M x1 x2 Q1) : Met l yX11_goes (Cond.code yX11_goes cX11_goes 4 (some .int) :: TB) (RM 2) (va_Pc [.ref (ad 0), .int x1, .int x2] (WrP EC T D ad (69 + K) M sz)) (QcW EC T D ad (69 + K) (AA ad (69 + K) sz) Q1) 0 0 (AA ad (69 + K) sz) := by
  refine st_W (by decide) (Nat.le_of_ble_eq_true rfl) (fun p e s m args below meth c ls C hr hlk hsz Z hl => ?_)
  have hl : lv_has ls 4 [(0, .ref (ad 0)), (1, .int x1), (2, .int x2)] := hl
  generalize AA ad (69 + K) sz = A at Z ⊢
  have hx := C.x
  have hb := C.b
  delta P_X11_goes at hB
  refine lv_aload_n hx hb dX11_goes_0 rfl (lv_at hl 0 rfl) ?_
  refine lv_iload_n hx hb dX11_goes_1 rfl (lv_at hl 1 rfl) ?_
  refine v_X11_isLodger C hl.1 Z.1 tw_2_197 ⟨Nat.le_of_ble_eq_true rfl, Nat.le_of_ble_eq_true rfl⟩ ⟨Nat.le_refl _, Nat.le_refl _⟩ (Nat.le_of_ble_eq_true rfl) dX11_goes_2 hB (fun v1 hB => ?_)
  refine lv_if_eq (tgt := 15) hx hb dX11_goes_5 (by decide) (fun q2 => ?_) (fun q2 => ?_)
  · have hB := hB.1 q2
    refine lv_aload_n hx hb dX11_goes_15 rfl (lv_at hl 0 rfl) ?_
    refine lv_iconst (v := 1) hx hb dX11_goes_16 (by decide) ?_
    refine v_X11_error C hl.1 Z tw_2_56 ⟨Nat.le_of_ble_eq_true rfl, Nat.le_of_ble_eq_true rfl⟩ ⟨Nat.le_refl _, Nat.le_refl _⟩ (Nat.le_of_ble_eq_true rfl) dX11_goes_17 hB (fun v3 M4 H locs hB Z => ?_)
    exact e_iW C hr hlk Z dX11_goes_20 hB
  · have hB := hB.2 q2
    refine lv_iload_n hx hb dX11_goes_8 rfl (lv_at hl 2 rfl) ?_
    refine v_X11_isRoom C.1 hl.1 tw_2_50 ⟨Nat.le_of_ble_eq_true rfl, Nat.le_of_ble_eq_true rfl⟩ ⟨Nat.le_refl _, Nat.le_refl _⟩ (Nat.le_of_ble_eq_true rfl) dX11_goes_9 hB (fun v5 hB => ?_)
    refine lv_if_ne (tgt := 21) hx hb dX11_goes_12 (by decide) (fun q6 => ?_) (fun q6 => ?_)
    · have hB := hB.1 q6
      refine lv_aload_n hx hb dX11_goes_21 rfl (lv_at hl 0 rfl) ?_
      refine gf_X11_5 C Z.1 tw_2_17 dX11_goes_22 ?_
      refine gf_X2_9 C Z.1 isH_0 tw_1_154 dX11_goes_25 ?_
      refine lv_iload_n hx hb dX11_goes_28 rfl (lv_at hl 1 rfl) ?_
      obtain ⟨q7, hB⟩ := hB
      refine a_ld C Z.1 (aH_7 isH_0) q7 dX11_goes_29 ?_
      refine lv_topi (fun x3_8 ex3_8 => ?_)
      have hB := hB x3_8 ex3_8
      refine lv_istore_n (lv' := [(3, .int x3_8), (0, .ref (ad 0)), (1, .int x1), (2, .int x2)]) hx hb dX11_goes_30 rfl hl (by decide) rfl (fun ls hl => ?_)
      refine lv_aload_n hx hb dX11_goes_31 rfl (lv_at hl 1 rfl) ?_
      refine gf_X11_5 C Z.1 tw_2_17 dX11_goes_32 ?_
      refine gf_X2_9 C Z.1 isH_0 tw_1_154 dX11_goes_35 ?_
      refine lv_iload_n hx hb dX11_goes_38 rfl (lv_at hl 2 rfl) ?_
      refine lv_iload_n hx hb dX11_goes_39 rfl (lv_at hl 3 rfl) ?_
      obtain ⟨q10, hB⟩ := hB
      refine a_st C Z (aH_7 isH_0) q10 dX11_goes_40 (fun M9 H locs eM9 Z => ?_)
      have hB := hB M9 eM9
      refine lv_iload_n hx hb dX11_goes_41 rfl (lv_at hl 0 rfl) ?_
      exact e_iW C hr hlk Z dX11_goes_42 hB
    · have hB := hB.2 q6
      refine lv_aload_n hx hb dX11_goes_15 rfl (lv_at hl 0 rfl) ?_
      refine lv_iconst (v := 1) hx hb dX11_goes_16 (by decide) ?_
      refine v_X11_error C hl.1 Z tw_2_56 ⟨Nat.le_of_ble_eq_true rfl, Nat.le_of_ble_eq_true rfl⟩ ⟨Nat.le_refl _, Nat.le_refl _⟩ (Nat.le_of_ble_eq_true rfl) dX11_goes_17 hB (fun v11 M12 H locs hB Z => ?_)
      exact e_iW C hr hlk Z dX11_goes_20 hB
set_option maxRecDepth 100000 in
set_option maxHeartbeats 4000000 in
theorem v_X11_goes {K : Nat} {M : Mem} {x1 : Int32} {x2 : Int32} {Q1 : Int32 → Mem → Prop} (C : Cx T D p s m args c cc nL own) (hls : ls.size = nL) (Z : Zz EC T D ad (69 + K) A H0 M H locs) (hlink : Cond.methodLink own index yX11_goes ∈ TB) (hR : 2 + 1 ≤ R.frames ∧ 8 + (4 + 11) + 48 * 2 ≤ R.locals) (hcs : cells ≤ R.cells ∧ slots ≤ R.slots) (hcat : (rest.map fun v => v.category).sum ≤ 8) (hdg : decode cc pc = .ok (.invokevirtual index, 3)) (hB : P_X11_goes K M x1 x2 Q1)
    (kk : ∀ (r : Int32) (M1 : Mem) (H1 : Heap) (locs1 : List Loc), Q1 r M1 → Zz EC T D ad (69 + K) A H0 M1 H1 locs1 → W p l e R s m args below meth c H1 locs1 cells slots QQ (F0 m (pc + 3) ls (.int r :: rest))) : W p l e R s m args below meth c H locs cells slots QQ (F0 m pc ls (.int x2 :: .int x1 :: .ref (ad 0) :: rest)) :=
  k_VW (ci := 11) (n := 2) (c_X11_goes hB) tw_3_51 tw_3_49 tw_3_50 tw_1_1 ⟨rfl, by decide, by decide, by decide +kernel⟩ rfl rfl C hls Z oO hlink hR hcs hcat rfl hdg kk
def B_X2_contentSet_4 (K : Nat) (g : Nat) (Q1 : Int32 → Mem → Prop) (x1 : Int32) (x2 : Int32) (M : Mem) : Prop :=
  ∀ X4 : Int32 → Int32 → Mem → Prop, (∀ (x1 : Int32) (x2 : Int32) (M : Mem), ((((M g 2) ≤ x2 → Q1 x1 M) ∧
    (¬ (M g 2) ≤ x2 → P_X2_isContent K M g x2 (fun v2 M3 => ((v2 = 0 → ∀ x2_5 : Int32, x2_5 = x2 + 1 → X4 x1 x2_5 M3) ∧
      (¬ v2 = 0 → ∀ x1_6 : Int32, x1_6 = x1 ||| (1 <<< (x2 &&& 31)) → ∀ x2_7 : Int32, x2_7 = x2 + 1 → X4 x1_6 x2_7 M3)))))) → X4 x1 x2 M) → X4 x1 x2 M
def P_X2_contentSet (K : Nat) (M : Mem) (g : Nat) (Q1 : Int32 → Mem → Prop) : Prop :=
  B_X2_contentSet_4 K g Q1 0 0 M
set_option maxRecDepth 100000 in
set_option maxHeartbeats 4000000 in
theorem w_X2_contentSet_4 {K : Nat} {g : Nat} {M : Mem} {Q1 : Int32 → Mem → Prop} {x1 : Int32} {x2 : Int32} (C : Cx T D p s m args c cX2_contentSet 3 "OneOfTwo$House") (hr : meth.sig.returnType = (some .int)) (hlk : meth.locks = false) (Z : Zz EC T D ad (69 + K) A s.heap M H locs) (hg : isH g) {ls : Array Slot} (hl : lv_has ls 3 [(0, .ref (ad g)), (1, .int x1), (2, .int x2)]) (hB : B_X2_contentSet_4 K g Q1 x1 x2 M) : W p l e (RM 5) s m args below meth c H locs 0 0 (MQ below (QcW EC T D ad (69 + K) A Q1) args s 0 0 A) (F0 m 4 ls []) := by
  delta B_X2_contentSet_4 at hB
  obtain ⟨X4, hX4, hY4⟩ : ∃ X4 : Int32 → Int32 → Mem → Prop, (∀ (x1 : Int32) (x2 : Int32) (M : Mem), X4 x1 x2 M → ∀ (H : Heap) (locs : List Loc) (ls : Array Slot), Zz EC T D ad (69 + K) A s.heap M H locs → lv_has ls 3 [(0, .ref (ad g)), (1, .int x1), (2, .int x2)] → W p l e (RM 5) s m args below meth c H locs 0 0 (MQ below (QcW EC T D ad (69 + K) A Q1) args s 0 0 A) (F0 m 4 ls [])) ∧ (∀ (x1 : Int32) (x2 : Int32) (M : Mem), (∀ (H : Heap) (locs : List Loc) (ls : Array Slot), Zz EC T D ad (69 + K) A s.heap M H locs → lv_has ls 3 [(0, .ref (ad g)), (1, .int x1), (2, .int x2)] → W p l e (RM 5) s m args below meth c H locs 0 0 (MQ below (QcW EC T D ad (69 + K) A Q1) args s 0 0 A) (F0 m 4 ls [])) → X4 x1 x2 M) := ⟨fun (x1 : Int32) (x2 : Int32) (M : Mem) => ∀ (H : Heap) (locs : List Loc) (ls : Array Slot), Zz EC T D ad (69 + K) A s.heap M H locs → lv_has ls 3 [(0, .ref (ad g)), (1, .int x1), (2, .int x2)] → W p l e (RM 5) s m args below meth c H locs 0 0 (MQ below (QcW EC T D ad (69 + K) A Q1) args s 0 0 A) (F0 m 4 ls []), fun _ _ _ h => h, fun _ _ _ h => h⟩
  refine hX4 _ _ _ (hB X4 (fun x1 x2 M hB => hY4 _ _ _ (fun H locs ls Z hl => ?_))) _ _ _ Z hl
  have hx := C.x
  have hb := C.b
  refine lv_iload_n hx hb dX2_contentSet_4 rfl (lv_at hl 2 rfl) ?_
  refine lv_aload_n hx hb dX2_contentSet_5 rfl (lv_at hl 0 rfl) ?_
  refine gf_X2_2 C Z.1 hg tw_1_133 dX2_contentSet_6 ?_
  refine lv_icmp_ge (tgt := 32) hx hb dX2_contentSet_9 (by decide) (fun q1 => ?_) (fun q1 => ?_)
  · have hB := hB.1 q1
    refine lv_iload_n hx hb dX2_contentSet_32 rfl (lv_at hl 1 rfl) ?_
    exact e_iW C hr hlk Z dX2_contentSet_33 hB
  · have hB := hB.2 q1
    refine lv_aload_n hx hb dX2_contentSet_12 rfl (lv_at hl 0 rfl) ?_
    refine lv_iload_n hx hb dX2_contentSet_13 rfl (lv_at hl 2 rfl) ?_
    refine v_X2_isContent C hl.1 Z hg tw_3_60 ⟨Nat.le_of_ble_eq_true rfl, Nat.le_of_ble_eq_true rfl⟩ ⟨Nat.le_refl _, Nat.le_refl _⟩ (Nat.le_of_ble_eq_true rfl) dX2_contentSet_14 hB (fun v2 M3 H locs hB Z => ?_)
    refine lv_if_eq (tgt := 26) hx hb dX2_contentSet_17 (by decide) (fun q4 => ?_) (fun q4 => ?_)
    · have hB := hB.1 q4
      obtain ⟨x2_5, ex2_5⟩ : ∃ y : Int32, y = x2 + 1 := ⟨_, rfl⟩
      have hB := hB x2_5 ex2_5
      refine lv_iinc (v := x2_5) (lv' := [(2, .int x2_5), (0, .ref (ad g)), (1, .int x1)]) hx hb dX2_contentSet_26 hl (k := 2) rfl (by rw [ex2_5]; rfl) (by decide) rfl (fun ls hl => ?_)
      refine lv_goto (tgt := 4) hx hb dX2_contentSet_29 (by decide) ?_
      exact hX4 _ _ _ hB _ _ _ Z (lv_sub hl [1, 2, 0] rfl)
    · have hB := hB.2 q4
      refine lv_iload_n hx hb dX2_contentSet_20 rfl (lv_at hl 1 rfl) ?_
      refine lv_iconst (v := 1) hx hb dX2_contentSet_21 (by decide) ?_
      refine lv_iload_n hx hb dX2_contentSet_22 rfl (lv_at hl 2 rfl) ?_
      refine lv_ishl hx hb dX2_contentSet_23 ?_
      refine lv_ior hx hb dX2_contentSet_24 ?_
      refine lv_topi (fun x1_6 ex1_6 => ?_)
      have hB := hB x1_6 ex1_6
      refine lv_istore_n (lv' := [(1, .int x1_6), (0, .ref (ad g)), (2, .int x2)]) hx hb dX2_contentSet_25 rfl hl (by decide) rfl (fun ls hl => ?_)
      obtain ⟨x2_7, ex2_7⟩ : ∃ y : Int32, y = x2 + 1 := ⟨_, rfl⟩
      have hB := hB x2_7 ex2_7
      refine lv_iinc (v := x2_7) (lv' := [(2, .int x2_7), (1, .int x1_6), (0, .ref (ad g))]) hx hb dX2_contentSet_26 hl (k := 2) rfl (by rw [ex2_7]; rfl) (by decide) rfl (fun ls hl => ?_)
      refine lv_goto (tgt := 4) hx hb dX2_contentSet_29 (by decide) ?_
      exact hX4 _ _ _ hB _ _ _ Z (lv_sub hl [2, 1, 0] rfl)
set_option maxRecDepth 100000 in
set_option maxHeartbeats 4000000 in
theorem c_X2_contentSet {l : Launch} {T : Nat → ClassId} {D : va_G} {ad : Nat → Nat} {K : Nat} {M : Mem} {g : Nat} {sz : Nat} {Q1 : Int32 → Mem → Prop} (hg : isH g) (hB : P_X2_contentSet K M g Q1) : Met l yX2_contentSet (Cond.code yX2_contentSet cX2_contentSet 3 (some .int) :: TB) (RM 5) (va_Pc [.ref (ad g)] (WrP EC T D ad (69 + K) M sz)) (QcW EC T D ad (69 + K) (AA ad (69 + K) sz) Q1) 0 0 (AA ad (69 + K) sz) := by
  refine st_W (by decide) (Nat.le_of_ble_eq_true rfl) (fun p e s m args below meth c ls C hr hlk hsz Z hl => ?_)
  have hl : lv_has ls 3 [(0, .ref (ad g))] := hl
  generalize AA ad (69 + K) sz = A at Z ⊢
  have hx := C.x
  have hb := C.b
  delta P_X2_contentSet at hB
  refine lv_iconst (v := 0) hx hb dX2_contentSet_0 (by decide) ?_
  refine lv_istore_n (lv' := [(1, .int 0), (0, .ref (ad g))]) hx hb dX2_contentSet_1 rfl hl (by decide) rfl (fun ls hl => ?_)
  refine lv_iconst (v := 0) hx hb dX2_contentSet_2 (by decide) ?_
  refine lv_istore_n (lv' := [(2, .int 0), (1, .int 0), (0, .ref (ad g))]) hx hb dX2_contentSet_3 rfl hl (by decide) rfl (fun ls hl => ?_)
  exact w_X2_contentSet_4 C hr hlk Z hg (lv_sub hl [2, 1, 0] rfl) hB
set_option maxRecDepth 100000 in
set_option maxHeartbeats 4000000 in
theorem v_X2_contentSet {K : Nat} {M : Mem} {g : Nat} {Q1 : Int32 → Mem → Prop} (C : Cx T D p s m args c cc nL own) (hls : ls.size = nL) (Z : Zz EC T D ad (69 + K) A H0 M H locs) (hg : isH g) (hlink : Cond.methodLink own index yX2_contentSet ∈ TB) (hR : 5 + 1 ≤ R.frames ∧ 8 + (3 + 11) + 48 * 5 ≤ R.locals) (hcs : cells ≤ R.cells ∧ slots ≤ R.slots) (hcat : (rest.map fun v => v.category).sum ≤ 8) (hdg : decode cc pc = .ok (.invokevirtual index, 3)) (hB : P_X2_contentSet K M g Q1)
    (kk : ∀ (r : Int32) (M1 : Mem) (H1 : Heap) (locs1 : List Loc), Q1 r M1 → Zz EC T D ad (69 + K) A H0 M1 H1 locs1 → W p l e R s m args below meth c H1 locs1 cells slots QQ (F0 m (pc + 3) ls (.int r :: rest))) : W p l e R s m args below meth c H locs cells slots QQ (F0 m pc ls (.ref (ad g) :: rest)) :=
  k_VW (ci := 2) (n := 0) (c_X2_contentSet hg hB) tw_3_59 tw_3_57 tw_3_58 tw_1_10 ⟨rfl, by decide, by decide, by decide +kernel⟩ rfl rfl C hls Z (oH hg) hlink hR hcs hcat rfl hdg kk
def P_X11_content (K : Nat) (M : Mem) (Q1 : Int32 → Mem → Prop) : Prop :=
  P_X2_contentSet K M 30 (fun v1 M2 => Q1 v1 M2)
set_option maxRecDepth 100000 in
set_option maxHeartbeats 4000000 in
theorem c_X11_content {l : Launch} {T : Nat → ClassId} {D : va_G} {ad : Nat → Nat} {K : Nat} {M : Mem} {sz : Nat} {Q1 : Int32 → Mem → Prop} (hB : P_X11_content K M Q1) : Met l yX11_content (Cond.code yX11_content cX11_content 1 (some .int) :: TB) (RM 6) (va_Pc [.ref (ad 0)] (WrP EC T D ad (69 + K) M sz)) (QcW EC T D ad (69 + K) (AA ad (69 + K) sz) Q1) 0 0 (AA ad (69 + K) sz) := by
  refine st_W (by decide) (Nat.le_of_ble_eq_true rfl) (fun p e s m args below meth c ls C hr hlk hsz Z hl => ?_)
  have hl : lv_has ls 1 [(0, .ref (ad 0))] := hl
  generalize AA ad (69 + K) sz = A at Z ⊢
  have hx := C.x
  have hb := C.b
  delta P_X11_content at hB
  refine lv_aload_n hx hb dX11_content_0 rfl (lv_at hl 0 rfl) ?_
  refine gf_X11_5 C Z.1 tw_2_17 dX11_content_1 ?_
  refine v_X2_contentSet C hl.1 Z isH_0 tw_3_56 ⟨Nat.le_of_ble_eq_true rfl, Nat.le_of_ble_eq_true rfl⟩ ⟨Nat.le_refl _, Nat.le_refl _⟩ (Nat.le_of_ble_eq_true rfl) dX11_content_4 hB (fun v1 M2 H locs hB Z => ?_)
  exact e_iW C hr hlk Z dX11_content_7 hB
set_option maxRecDepth 100000 in
set_option maxHeartbeats 4000000 in
theorem v_X11_content {K : Nat} {M : Mem} {Q1 : Int32 → Mem → Prop} (C : Cx T D p s m args c cc nL own) (hls : ls.size = nL) (Z : Zz EC T D ad (69 + K) A H0 M H locs) (hlink : Cond.methodLink own index yX11_content ∈ TB) (hR : 6 + 1 ≤ R.frames ∧ 8 + (1 + 11) + 48 * 6 ≤ R.locals) (hcs : cells ≤ R.cells ∧ slots ≤ R.slots) (hcat : (rest.map fun v => v.category).sum ≤ 8) (hdg : decode cc pc = .ok (.invokevirtual index, 3)) (hB : P_X11_content K M Q1)
    (kk : ∀ (r : Int32) (M1 : Mem) (H1 : Heap) (locs1 : List Loc), Q1 r M1 → Zz EC T D ad (69 + K) A H0 M1 H1 locs1 → W p l e R s m args below meth c H1 locs1 cells slots QQ (F0 m (pc + 3) ls (.int r :: rest))) : W p l e R s m args below meth c H locs cells slots QQ (F0 m pc ls (.ref (ad 0) :: rest)) :=
  k_VW (ci := 11) (n := 0) (c_X11_content hB) tw_3_55 tw_3_53 tw_3_54 tw_1_1 ⟨rfl, by decide, by decide, by decide +kernel⟩ rfl rfl C hls Z oO hlink hR hcs hcat rfl hdg kk
def P_X4_add (K : Nat) (M : Mem) (g : Nat) (x1 : Int32) (Q1 : Mem → Prop) : Prop :=
  (((Int32.ofNat (rLen g)) ≤ (M g 1) → Q1 M) ∧
    (¬ (Int32.ofNat (rLen g)) ≤ (M g 1) → vp_in (M g 1) (rLen g) ∧ ∀ M2 : Mem, M2 = sf M (g + 1) (M g 1).toNatClampNeg x1 → ∀ v4 : Int32, v4 = (M2 g 1) + 1 → ∀ M5 : Mem, M5 = sf M2 g 1 v4 → Q1 M5))
set_option maxRecDepth 100000 in
set_option maxHeartbeats 4000000 in
theorem c_X4_add {l : Launch} {T : Nat → ClassId} {D : va_G} {ad : Nat → Nat} {K : Nat} {M : Mem} {g : Nat} {x1 : Int32} {sz : Nat} {Q1 : Mem → Prop} (hg : isR g) (hB : P_X4_add K M g x1 Q1) : Met l yX4_add (Cond.code yX4_add cX4_add 2 none :: TB) (RM 1) (va_Pc [.ref (ad g), .int x1] (WrP EC T D ad (69 + K) M sz)) (QcV EC T D ad (69 + K) (AA ad (69 + K) sz) Q1) 0 0 (AA ad (69 + K) sz) := by
  refine st_W (by decide) (Nat.le_of_ble_eq_true rfl) (fun p e s m args below meth c ls C hr hlk hsz Z hl => ?_)
  have hl : lv_has ls 2 [(0, .ref (ad g)), (1, .int x1)] := hl
  generalize AA ad (69 + K) sz = A at Z ⊢
  have hx := C.x
  have hb := C.b
  delta P_X4_add at hB
  refine lv_aload_n hx hb dX4_add_0 rfl (lv_at hl 0 rfl) ?_
  refine gf_X4_1 C Z.1 hg tw_1_44 dX4_add_1 ?_
  refine lv_aload_n hx hb dX4_add_4 rfl (lv_at hl 0 rfl) ?_
  refine gf_X4_0 C Z.1 hg tw_1_40 dX4_add_5 ?_
  refine a_len (v := Int32.ofNat (rLen g)) C Z.1 (aR hg) rfl dX4_add_8 ?_
  refine lv_icmp_ge (tgt := 32) hx hb dX4_add_9 (by decide) (fun q1 => ?_) (fun q1 => ?_)
  · have hB := hB.1 q1
    exact e_vW C hr hlk Z dX4_add_32 hB
  · have hB := hB.2 q1
    refine lv_aload_n hx hb dX4_add_12 rfl (lv_at hl 0 rfl) ?_
    refine gf_X4_0 C Z.1 hg tw_1_40 dX4_add_13 ?_
    refine lv_aload_n hx hb dX4_add_16 rfl (lv_at hl 0 rfl) ?_
    refine gf_X4_1 C Z.1 hg tw_1_44 dX4_add_17 ?_
    refine lv_iload_n hx hb dX4_add_20 rfl (lv_at hl 1 rfl) ?_
    obtain ⟨q3, hB⟩ := hB
    refine a_st C Z (aR hg) q3 dX4_add_21 (fun M2 H locs eM2 Z => ?_)
    have hB := hB M2 eM2
    refine lv_aload_n hx hb dX4_add_22 rfl (lv_at hl 0 rfl) ?_
    refine lv_dup hx hb dX4_add_23 rfl ?_
    refine gf_X4_1 C Z.1 hg tw_1_44 dX4_add_24 ?_
    refine lv_iconst (v := 1) hx hb dX4_add_27 (by decide) ?_
    refine lv_iadd hx hb dX4_add_28 ?_
    refine lv_topi (fun v4 ev4 => ?_)
    have hB := hB v4 ev4
    refine pf_X4_1 C Z hg tw_1_44 dX4_add_29 (fun M5 H locs eM5 Z => ?_)
    have hB := hB M5 eM5
    exact e_vW C hr hlk Z dX4_add_32 hB
set_option maxRecDepth 100000 in
set_option maxHeartbeats 4000000 in
theorem v_X4_add {K : Nat} {M : Mem} {g : Nat} {x1 : Int32} {Q1 : Mem → Prop} (C : Cx T D p s m args c cc nL own) (hls : ls.size = nL) (Z : Zz EC T D ad (69 + K) A H0 M H locs) (hg : isR g) (hlink : Cond.methodLink own index yX4_add ∈ TB) (hR : 1 + 1 ≤ R.frames ∧ 8 + (2 + 11) + 48 * 1 ≤ R.locals) (hcs : cells ≤ R.cells ∧ slots ≤ R.slots) (hcat : (rest.map fun v => v.category).sum ≤ 8) (hdg : decode cc pc = .ok (.invokevirtual index, 3)) (hB : P_X4_add K M g x1 Q1)
    (kk : ∀ (M1 : Mem) (H1 : Heap) (locs1 : List Loc), Q1 M1 → Zz EC T D ad (69 + K) A H0 M1 H1 locs1 → W p l e R s m args below meth c H1 locs1 cells slots QQ (F0 m (pc + 3) ls rest)) : W p l e R s m args below meth c H locs cells slots QQ (F0 m pc ls (.int x1 :: .ref (ad g) :: rest)) :=
  k_VV (ci := 4) (n := 1) (c_X4_add hg hB) tw_3_68 tw_3_66 tw_3_67 tw_1_2 ⟨rfl, by decide, by decide, by decide +kernel⟩ rfl rfl C hls Z (oR hg) hlink hR hcs hcat rfl hdg kk
def B_X11_feed_43 (K : Nat) (Q1 : Int32 → Mem → Prop) (x1 : Int64) (x3 : Int32) (x4 : Int32) (M : Mem) : Prop :=
  ∀ X43 : Int32 → Mem → Prop, (∀ (x4 : Int32) (M : Mem), (((x3 ≤ x4 → Q1 (M 38 1) M) ∧
    (¬ x3 ≤ x4 → P_X4_add K M 38 ((((x1.toUInt64 >>> ((8 * x4).toInt64.toUInt64 &&& Int64.toUInt64 63)).toInt64).toInt32) &&& 255) (fun M7 => ∀ x4_8 : Int32, x4_8 = x4 + 1 → X43 x4_8 M7)))) → X43 x4 M) → X43 x4 M
def P_X11_feed (K : Nat) (M : Mem) (x1 : Int64) (x3 : Int32) (Q1 : Int32 → Mem → Prop) : Prop :=
  ((x3 < 1 → P_X11_error K M 1 (fun v2 M3 => Q1 v2 M3)) ∧
    (¬ x3 < 1 → ((x3 ≤ 8 → ((((M 38 1) + x3) ≤ 50 → B_X11_feed_43 K Q1 x1 x3 0 M) ∧
        (¬ ((M 38 1) + x3) ≤ 50 → P_X11_error K M 4 (fun v9 M10 => Q1 v9 M10)))) ∧
      (¬ x3 ≤ 8 → P_X11_error K M 1 (fun v11 M12 => Q1 v11 M12)))))
set_option maxRecDepth 100000 in
set_option maxHeartbeats 4000000 in
theorem w_X11_feed_43 {K : Nat} {M : Mem} {Q1 : Int32 → Mem → Prop} {x1 : Int64} {x3 : Int32} {x4 : Int32} (C : Cx T D p s m args c cX11_feed 5 "OneOfTwo") (hr : meth.sig.returnType = (some .int)) (hlk : meth.locks = false) (Z : Zz EC T D ad (69 + K) A s.heap M H locs) {ls : Array Slot} (hl : lv_has ls 5 [(0, .ref (ad 0)), (1, .long x1), (3, .int x3), (4, .int x4)]) (hB : B_X11_feed_43 K Q1 x1 x3 x4 M) : W p l e (RM 2) s m args below meth c H locs 0 0 (MQ below (QcW EC T D ad (69 + K) A Q1) args s 0 0 A) (F0 m 43 ls []) := by
  delta B_X11_feed_43 at hB
  obtain ⟨X43, hX43, hY43⟩ : ∃ X43 : Int32 → Mem → Prop, (∀ (x4 : Int32) (M : Mem), X43 x4 M → ∀ (H : Heap) (locs : List Loc) (ls : Array Slot), Zz EC T D ad (69 + K) A s.heap M H locs → lv_has ls 5 [(0, .ref (ad 0)), (1, .long x1), (3, .int x3), (4, .int x4)] → W p l e (RM 2) s m args below meth c H locs 0 0 (MQ below (QcW EC T D ad (69 + K) A Q1) args s 0 0 A) (F0 m 43 ls [])) ∧ (∀ (x4 : Int32) (M : Mem), (∀ (H : Heap) (locs : List Loc) (ls : Array Slot), Zz EC T D ad (69 + K) A s.heap M H locs → lv_has ls 5 [(0, .ref (ad 0)), (1, .long x1), (3, .int x3), (4, .int x4)] → W p l e (RM 2) s m args below meth c H locs 0 0 (MQ below (QcW EC T D ad (69 + K) A Q1) args s 0 0 A) (F0 m 43 ls [])) → X43 x4 M) := ⟨fun (x4 : Int32) (M : Mem) => ∀ (H : Heap) (locs : List Loc) (ls : Array Slot), Zz EC T D ad (69 + K) A s.heap M H locs → lv_has ls 5 [(0, .ref (ad 0)), (1, .long x1), (3, .int x3), (4, .int x4)] → W p l e (RM 2) s m args below meth c H locs 0 0 (MQ below (QcW EC T D ad (69 + K) A Q1) args s 0 0 A) (F0 m 43 ls []), fun _ _ h => h, fun _ _ h => h⟩
  refine hX43 _ _ (hB X43 (fun x4 M hB => hY43 _ _ (fun H locs ls Z hl => ?_))) _ _ _ Z hl
  have hx := C.x
  have hb := C.b
  refine lv_iload hx hb dX11_feed_43 (lv_at hl 3 rfl) ?_
  refine lv_iload_n hx hb dX11_feed_45 rfl (lv_at hl 2 rfl) ?_
  refine lv_icmp_ge (tgt := 77) hx hb dX11_feed_46 (by decide) (fun q6 => ?_) (fun q6 => ?_)
  · have hB := hB.1 q6
    refine lv_aload_n hx hb dX11_feed_77 rfl (lv_at hl 0 rfl) ?_
    refine gf_X11_5 C Z.1 tw_2_17 dX11_feed_78 ?_
    refine gf_X2_16 C Z.1 isH_0 tw_1_168 dX11_feed_81 ?_
    refine gf_X4_1 C Z.1 (isR_t isH_0) tw_1_47 dX11_feed_84 ?_
    exact e_iW C hr hlk Z dX11_feed_87 hB
  · have hB := hB.2 q6
    refine lv_aload_n hx hb dX11_feed_49 rfl (lv_at hl 0 rfl) ?_
    refine gf_X11_5 C Z.1 tw_2_17 dX11_feed_50 ?_
    refine gf_X2_16 C Z.1 isH_0 tw_1_168 dX11_feed_53 ?_
    refine lv_lload_n hx hb dX11_feed_56 rfl (lv_at hl 1 rfl) ?_
    refine lv_bipush (v := 8) hx hb dX11_feed_57 (by decide) ?_
    refine lv_iload hx hb dX11_feed_59 (lv_at hl 3 rfl) ?_
    refine lv_imul hx hb dX11_feed_61 ?_
    refine lv_lushr hx hb dX11_feed_62 rfl ?_
    refine lv_l2i hx hb dX11_feed_63 rfl ?_
    refine lv_sipush (v := 255) hx hb dX11_feed_64 (by decide) ?_
    refine lv_iand hx hb dX11_feed_67 ?_
    refine v_X4_add C hl.1 Z (isR_t isH_0) tw_3_65 ⟨Nat.le_of_ble_eq_true rfl, Nat.le_of_ble_eq_true rfl⟩ ⟨Nat.le_refl _, Nat.le_refl _⟩ (Nat.le_of_ble_eq_true rfl) dX11_feed_68 hB (fun M7 H locs hB Z => ?_)
    obtain ⟨x4_8, ex4_8⟩ : ∃ y : Int32, y = x4 + 1 := ⟨_, rfl⟩
    have hB := hB x4_8 ex4_8
    refine lv_iinc (v := x4_8) (lv' := [(4, .int x4_8), (0, .ref (ad 0)), (1, .long x1), (3, .int x3)]) hx hb dX11_feed_71 hl (k := 3) rfl (by rw [ex4_8]; rfl) (by decide) rfl (fun ls hl => ?_)
    refine lv_goto (tgt := 43) hx hb dX11_feed_74 (by decide) ?_
    exact hX43 _ _ hB _ _ _ Z (lv_sub hl [1, 2, 3, 0] rfl)
set_option maxRecDepth 100000 in
set_option maxHeartbeats 4000000 in
theorem c_X11_feed {l : Launch} {T : Nat → ClassId} {D : va_G} {ad : Nat → Nat} {K : Nat} {M : Mem} {x1 : Int64} {x3 : Int32} {sz : Nat} {Q1 : Int32 → Mem → Prop} (hB : P_X11_feed K M x1 x3 Q1) : Met l yX11_feed (Cond.code yX11_feed cX11_feed 5 (some .int) :: TB) (RM 2) (va_Pc [.ref (ad 0), .long x1, .int x3] (WrP EC T D ad (69 + K) M sz)) (QcW EC T D ad (69 + K) (AA ad (69 + K) sz) Q1) 0 0 (AA ad (69 + K) sz) := by
  refine st_W (by decide) (Nat.le_of_ble_eq_true rfl) (fun p e s m args below meth c ls C hr hlk hsz Z hl => ?_)
  have hl : lv_has ls 5 [(0, .ref (ad 0)), (1, .long x1), (3, .int x3)] := hl
  generalize AA ad (69 + K) sz = A at Z ⊢
  have hx := C.x
  have hb := C.b
  delta P_X11_feed at hB
  refine lv_iload_n hx hb dX11_feed_0 rfl (lv_at hl 2 rfl) ?_
  refine lv_iconst (v := 1) hx hb dX11_feed_1 (by decide) ?_
  refine lv_icmp_lt (tgt := 11) hx hb dX11_feed_2 (by decide) (fun q1 => ?_) (fun q1 => ?_)
  · have hB := hB.1 q1
    refine lv_aload_n hx hb dX11_feed_11 rfl (lv_at hl 0 rfl) ?_
    refine lv_iconst (v := 1) hx hb dX11_feed_12 (by decide) ?_
    refine v_X11_error C hl.1 Z tw_2_56 ⟨Nat.le_of_ble_eq_true rfl, Nat.le_of_ble_eq_true rfl⟩ ⟨Nat.le_refl _, Nat.le_refl _⟩ (Nat.le_of_ble_eq_true rfl) dX11_feed_13 hB (fun v2 M3 H locs hB Z => ?_)
    exact e_iW C hr hlk Z dX11_feed_16 hB
  · have hB := hB.2 q1
    refine lv_iload_n hx hb dX11_feed_5 rfl (lv_at hl 2 rfl) ?_
    refine lv_bipush (v := 8) hx hb dX11_feed_6 (by decide) ?_
    refine lv_icmp_le (tgt := 17) hx hb dX11_feed_8 (by decide) (fun q4 => ?_) (fun q4 => ?_)
    · have hB := hB.1 q4
      refine lv_aload_n hx hb dX11_feed_17 rfl (lv_at hl 0 rfl) ?_
      refine gf_X11_5 C Z.1 tw_2_17 dX11_feed_18 ?_
      refine gf_X2_16 C Z.1 isH_0 tw_1_168 dX11_feed_21 ?_
      refine gf_X4_1 C Z.1 (isR_t isH_0) tw_1_47 dX11_feed_24 ?_
      refine lv_iload_n hx hb dX11_feed_27 rfl (lv_at hl 2 rfl) ?_
      refine lv_iadd hx hb dX11_feed_28 ?_
      refine lv_bipush (v := 50) hx hb dX11_feed_29 (by decide) ?_
      refine lv_icmp_le (tgt := 40) hx hb dX11_feed_31 (by decide) (fun q5 => ?_) (fun q5 => ?_)
      · have hB := hB.1 q5
        refine lv_iconst (v := 0) hx hb dX11_feed_40 (by decide) ?_
        refine lv_istore (lv' := [(4, .int 0), (0, .ref (ad 0)), (1, .long x1), (3, .int x3)]) hx hb dX11_feed_41 hl (by decide) rfl (fun ls hl => ?_)
        exact w_X11_feed_43 C hr hlk Z (lv_sub hl [1, 2, 3, 0] rfl) hB
      · have hB := hB.2 q5
        refine lv_aload_n hx hb dX11_feed_34 rfl (lv_at hl 0 rfl) ?_
        refine lv_iconst (v := 4) hx hb dX11_feed_35 (by decide) ?_
        refine v_X11_error C hl.1 Z tw_2_56 ⟨Nat.le_of_ble_eq_true rfl, Nat.le_of_ble_eq_true rfl⟩ ⟨Nat.le_refl _, Nat.le_refl _⟩ (Nat.le_of_ble_eq_true rfl) dX11_feed_36 hB (fun v9 M10 H locs hB Z => ?_)
        exact e_iW C hr hlk Z dX11_feed_39 hB
    · have hB := hB.2 q4
      refine lv_aload_n hx hb dX11_feed_11 rfl (lv_at hl 0 rfl) ?_
      refine lv_iconst (v := 1) hx hb dX11_feed_12 (by decide) ?_
      refine v_X11_error C hl.1 Z tw_2_56 ⟨Nat.le_of_ble_eq_true rfl, Nat.le_of_ble_eq_true rfl⟩ ⟨Nat.le_refl _, Nat.le_refl _⟩ (Nat.le_of_ble_eq_true rfl) dX11_feed_13 hB (fun v11 M12 H locs hB Z => ?_)
      exact e_iW C hr hlk Z dX11_feed_16 hB
set_option maxRecDepth 100000 in
set_option maxHeartbeats 4000000 in
theorem v_X11_feed {K : Nat} {M : Mem} {x1 : Int64} {x3 : Int32} {Q1 : Int32 → Mem → Prop} (C : Cx T D p s m args c cc nL own) (hls : ls.size = nL) (Z : Zz EC T D ad (69 + K) A H0 M H locs) (hlink : Cond.methodLink own index yX11_feed ∈ TB) (hR : 2 + 1 ≤ R.frames ∧ 8 + (5 + 11) + 48 * 2 ≤ R.locals) (hcs : cells ≤ R.cells ∧ slots ≤ R.slots) (hcat : (rest.map fun v => v.category).sum ≤ 8) (hdg : decode cc pc = .ok (.invokevirtual index, 3)) (hB : P_X11_feed K M x1 x3 Q1)
    (kk : ∀ (r : Int32) (M1 : Mem) (H1 : Heap) (locs1 : List Loc), Q1 r M1 → Zz EC T D ad (69 + K) A H0 M1 H1 locs1 → W p l e R s m args below meth c H1 locs1 cells slots QQ (F0 m (pc + 3) ls (.int r :: rest))) : W p l e R s m args below meth c H locs cells slots QQ (F0 m pc ls (.int x3 :: .long x1 :: .ref (ad 0) :: rest)) :=
  k_VW (ci := 11) (n := 2) (c_X11_feed hB) tw_3_64 tw_3_62 tw_3_63 tw_1_1 ⟨rfl, by decide, by decide, by decide +kernel⟩ rfl rfl C hls Z oO hlink hR hcs hcat rfl hdg kk
def P_X11_isUse (x0 : Int32) (Q1 : Int32 → Prop) : Prop :=
  ((x0 = 0 → Q1 1) ∧
    (¬ x0 = 0 → ((¬ x0 = 1 → Q1 0) ∧
      (x0 = 1 → Q1 1))))
set_option maxRecDepth 100000 in
set_option maxHeartbeats 4000000 in
theorem c_X11_isUse {l : Launch} {x0 : Int32} {Q1 : Int32 → Prop} (hB : P_X11_isUse x0 Q1) : Met l yX11_isUse (Cond.code yX11_isUse cX11_isUse 1 (some .boolean) :: TB) (RM 1) (va_Pc [.int x0] StP) (QcR Q1) 0 0 (fun _ => False) := by
  refine st_S (by decide) (Nat.le_of_ble_eq_true rfl) (fun p e s m args below meth c ls C hr hlk hl => ?_)
  have hl : lv_has ls 1 [(0, .int x0)] := hl
  have hx := C.1
  have hb := C.2.1
  delta P_X11_isUse at hB
  refine lv_iload_n hx hb dX11_isUse_0 rfl (lv_at hl 0 rfl) ?_
  refine lv_if_eq (tgt := 9) hx hb dX11_isUse_1 (by decide) (fun q1 => ?_) (fun q1 => ?_)
  · have hB := hB.1 q1
    refine lv_iconst (v := 1) hx hb dX11_isUse_9 (by decide) ?_
    refine lv_goto (tgt := 14) hx hb dX11_isUse_10 (by decide) ?_
    exact e_zR C hr hlk dX11_isUse_14 (Or.inr rfl) hB
  · have hB := hB.2 q1
    refine lv_iload_n hx hb dX11_isUse_4 rfl (lv_at hl 0 rfl) ?_
    refine lv_iconst (v := 1) hx hb dX11_isUse_5 (by decide) ?_
    refine lv_icmp_ne (tgt := 13) hx hb dX11_isUse_6 (by decide) (fun q2 => ?_) (fun q2 => ?_)
    · have hB := hB.1 q2
      refine lv_iconst (v := 0) hx hb dX11_isUse_13 (by decide) ?_
      exact e_zR C hr hlk dX11_isUse_14 (Or.inl rfl) hB
    · have hB := hB.2 q2
      refine lv_iconst (v := 1) hx hb dX11_isUse_9 (by decide) ?_
      refine lv_goto (tgt := 14) hx hb dX11_isUse_10 (by decide) ?_
      exact e_zR C hr hlk dX11_isUse_14 (Or.inr rfl) hB
set_option maxRecDepth 100000 in
set_option maxHeartbeats 4000000 in
theorem v_X11_isUse {x0 : Int32} {Q1 : Int32 → Prop} (C : CallFix p m c cc nL s args TB own) (hls : ls.size = nL) (hlink : Cond.methodLink own index yX11_isUse ∈ TB) (hR : 1 + 1 ≤ R.frames ∧ 8 + (1 + 11) + 48 * 1 ≤ R.locals) (hcs : cells ≤ R.cells ∧ slots ≤ R.slots) (hcat : (rest.map fun v => v.category).sum ≤ 8) (hdg : decode cc pc = .ok (.invokestatic index, 3)) (hB : P_X11_isUse x0 Q1)
    (kk : ∀ r : Int32, Q1 r → W p l e R s m args below meth c H locs cells slots QQ (F0 m (pc + 3) ls (.int r :: rest))) : W p l e R s m args below meth c H locs cells slots QQ (F0 m pc ls (.int x0 :: rest)) :=
  k_S (n := 1) (c_X11_isUse hB) tw_3_75 tw_3_74 tw_1_1 ⟨by decide, by decide, by decide +kernel⟩ rfl C hls  hlink hR hcs hcat rfl hdg kk
def B_X2_lawBy_58 (K : Nat) (g : Nat) (Q1 : Int32 → Mem → Prop) (s0 : Int32) (M : Mem) : Prop :=
  ∀ v6 : Int32, v6 = (if s0 < 99 then s0 else 99) → ∀ v7 : Int32, v7 = (if (-99) < v6 then v6 else (-99)) → Q1 v7 M
def P_X2_lawBy (K : Nat) (M : Mem) (g : Nat) (x1 : Int32) (x2 : Int32) (x3 : Int32) (x4 : Int32) (Q1 : Int32 → Mem → Prop) : Prop :=
  vp_in x1 2 ∧ ∀ u2 : Int32, u2 = M (g + 12) x1.toNatClampNeg → ((u2 = 0 → ((¬ x1 = 0 → B_X2_lawBy_58 K g Q1 x2 M) ∧
      (x1 = 0 → P_X2_heldAir ((2 * x2) + (x3 / 2)) (fun v8 => Q1 v8 M)))) ∧
    (¬ u2 = 0 → isT K u2.toNatClampNeg ∧ ((¬ x1 = 0 → P_X10_value K M (u2.toNatClampNeg) x2 x3 x4 (fun v10 M11 => B_X2_lawBy_58 K g Q1 v10 M11)) ∧
      (x1 = 0 → P_X10_value K M (u2.toNatClampNeg) x2 x3 x4 (fun v12 M13 => P_X2_heldAir v12 (fun v14 => Q1 v14 M13))))))
set_option maxRecDepth 100000 in
set_option maxHeartbeats 4000000 in
theorem w_X2_lawBy_58 {K : Nat} {g : Nat} {M : Mem} {Q1 : Int32 → Mem → Prop} {s0 : Int32} (C : Cx T D p s m args c cX2_lawBy 7 "OneOfTwo$House") (hr : meth.sig.returnType = (some .int)) (hlk : meth.locks = false) (Z : Zz EC T D ad (69 + K) A s.heap M H locs) (hg : isH g) {ls : Array Slot} (hl : lv_has ls 7 []) (hB : B_X2_lawBy_58 K g Q1 s0 M) : W p l e (RM 3) s m args below meth c H locs 0 0 (MQ below (QcW EC T D ad (69 + K) A Q1) args s 0 0 A) (F0 m 58 ls [.int s0]) := by
  have hx := C.x
  have hb := C.b
  delta B_X2_lawBy_58 at hB
  refine lv_istore (lv' := [(6, .int s0)]) hx hb dX2_lawBy_58 hl (by decide) rfl (fun ls hl => ?_)
  refine lv_bipush (v := (-99)) hx hb dX2_lawBy_60 (by decide) ?_
  refine lv_bipush (v := 99) hx hb dX2_lawBy_62 (by decide) ?_
  refine lv_iload hx hb dX2_lawBy_64 (lv_at hl 0 rfl) ?_
  refine m_min C.1 hl.1 tw_2_166 (Nat.le_of_ble_eq_true rfl) (Nat.le_of_ble_eq_true rfl) dX2_lawBy_66 ?_
  refine lv_topi (fun v6 ev6 => ?_)
  have hB := hB v6 ev6
  refine m_max C.1 hl.1 tw_2_169 (Nat.le_of_ble_eq_true rfl) (Nat.le_of_ble_eq_true rfl) dX2_lawBy_69 ?_
  refine lv_topi (fun v7 ev7 => ?_)
  have hB := hB v7 ev7
  exact e_iW C hr hlk Z dX2_lawBy_72 hB
set_option maxRecDepth 100000 in
set_option maxHeartbeats 4000000 in
theorem c_X2_lawBy {l : Launch} {T : Nat → ClassId} {D : va_G} {ad : Nat → Nat} {K : Nat} {M : Mem} {g : Nat} {x1 : Int32} {x2 : Int32} {x3 : Int32} {x4 : Int32} {sz : Nat} {Q1 : Int32 → Mem → Prop} (hg : isH g) (hB : P_X2_lawBy K M g x1 x2 x3 x4 Q1) : Met l yX2_lawBy (Cond.code yX2_lawBy cX2_lawBy 7 (some .int) :: TB) (RM 3) (va_Pc [.ref (ad g), .int x1, .int x2, .int x3, .int x4] (WrP EC T D ad (69 + K) M sz)) (QcW EC T D ad (69 + K) (AA ad (69 + K) sz) Q1) 0 0 (AA ad (69 + K) sz) := by
  refine st_W (by decide) (Nat.le_of_ble_eq_true rfl) (fun p e s m args below meth c ls C hr hlk hsz Z hl => ?_)
  have hl : lv_has ls 7 [(0, .ref (ad g)), (1, .int x1), (2, .int x2), (3, .int x3), (4, .int x4)] := hl
  generalize AA ad (69 + K) sz = A at Z ⊢
  have hx := C.x
  have hb := C.b
  delta P_X2_lawBy at hB
  refine lv_aload_n hx hb dX2_lawBy_0 rfl (lv_at hl 0 rfl) ?_
  refine gf_X2_18 C Z.1 hg tw_1_171 dX2_lawBy_1 ?_
  refine lv_iload_n hx hb dX2_lawBy_4 rfl (lv_at hl 1 rfl) ?_
  obtain ⟨q1, hB⟩ := hB
  obtain ⟨u2, eu2⟩ : ∃ y : Int32, y = M (g + 12) x1.toNatClampNeg := ⟨_, rfl⟩
  have hB := hB u2 eu2
  by_cases z3 : u2 = 0
  · have hB := hB.1 z3
    refine la_ldN C Z.1 hg q1 eu2 z3 rfl dX2_lawBy_5 ?_
    refine lv_astoreN (lv' := [(5, .null), (0, .ref (ad g)), (1, .int x1), (2, .int x2), (3, .int x3), (4, .int x4)]) hx hb dX2_lawBy_6 hl (by decide) rfl (fun ls hl => ?_)
    refine lv_iload_n hx hb dX2_lawBy_8 rfl (lv_at hl 2 rfl) ?_
    refine lv_if_ne (tgt := 40) hx hb dX2_lawBy_9 (by decide) (fun q5 => ?_) (fun q5 => ?_)
    · have hB := hB.1 q5
      refine lv_aloadN hx hb dX2_lawBy_40 (lv_at hl 0 rfl) ?_
      refine lv_ifnonnullN hx hb dX2_lawBy_42 ?_
      refine lv_iload_n hx hb dX2_lawBy_45 rfl (lv_at hl 3 rfl) ?_
      refine lv_goto (tgt := 58) hx hb dX2_lawBy_46 (by decide) ?_
      exact w_X2_lawBy_58 C hr hlk Z hg (lv_sub hl [] rfl) hB
    · have hB := hB.2 q5
      refine lv_aloadN hx hb dX2_lawBy_12 (lv_at hl 0 rfl) ?_
      refine lv_ifnonnullN hx hb dX2_lawBy_14 ?_
      refine lv_iconst (v := 2) hx hb dX2_lawBy_17 (by decide) ?_
      refine lv_iload_n hx hb dX2_lawBy_18 rfl (lv_at hl 3 rfl) ?_
      refine lv_imul hx hb dX2_lawBy_19 ?_
      refine lv_iload_n hx hb dX2_lawBy_20 rfl (lv_at hl 4 rfl) ?_
      refine lv_iconst (v := 2) hx hb dX2_lawBy_21 (by decide) ?_
      refine lv_idiv hx hb dX2_lawBy_22 (by decide) ?_
      refine lv_iadd hx hb dX2_lawBy_23 ?_
      refine lv_goto (tgt := 36) hx hb dX2_lawBy_24 (by decide) ?_
      refine v_X2_heldAir C.1 hl.1 tw_2_163 ⟨Nat.le_of_ble_eq_true rfl, Nat.le_of_ble_eq_true rfl⟩ ⟨Nat.le_refl _, Nat.le_refl _⟩ (Nat.le_of_ble_eq_true rfl) dX2_lawBy_36 hB (fun v8 hB => ?_)
      exact e_iW C hr hlk Z dX2_lawBy_39 hB
  · obtain ⟨fh4, hB⟩ := hB.2 z3
    refine la_ld C Z.1 hg q1 eu2 z3 rfl dX2_lawBy_5 ?_
    refine lv_astore (lv' := [(5, .ref (ad (u2.toNatClampNeg))), (0, .ref (ad g)), (1, .int x1), (2, .int x2), (3, .int x3), (4, .int x4)]) hx hb dX2_lawBy_6 hl (by decide) rfl (fun ls hl => ?_)
    refine lv_iload_n hx hb dX2_lawBy_8 rfl (lv_at hl 2 rfl) ?_
    refine lv_if_ne (tgt := 40) hx hb dX2_lawBy_9 (by decide) (fun q9 => ?_) (fun q9 => ?_)
    · have hB := hB.1 q9
      refine lv_aload hx hb dX2_lawBy_40 (lv_at hl 0 rfl) ?_
      refine lv_ifnonnull (tgt := 49) hx hb dX2_lawBy_42 (by decide) ?_
      refine lv_aload hx hb dX2_lawBy_49 (lv_at hl 0 rfl) ?_
      refine lv_iload_n hx hb dX2_lawBy_51 rfl (lv_at hl 3 rfl) ?_
      refine lv_iload_n hx hb dX2_lawBy_52 rfl (lv_at hl 4 rfl) ?_
      refine lv_iload hx hb dX2_lawBy_53 (lv_at hl 5 rfl) ?_
      refine v_X10_value C hl.1 Z fh4 tw_2_175 ⟨Nat.le_of_ble_eq_true rfl, Nat.le_of_ble_eq_true rfl⟩ ⟨Nat.le_refl _, Nat.le_refl _⟩ (Nat.le_of_ble_eq_true rfl) dX2_lawBy_55 hB (fun v10 M11 H locs hB Z => ?_)
      exact w_X2_lawBy_58 C hr hlk Z hg (lv_sub hl [] rfl) hB
    · have hB := hB.2 q9
      refine lv_aload hx hb dX2_lawBy_12 (lv_at hl 0 rfl) ?_
      refine lv_ifnonnull (tgt := 27) hx hb dX2_lawBy_14 (by decide) ?_
      refine lv_aload hx hb dX2_lawBy_27 (lv_at hl 0 rfl) ?_
      refine lv_iload_n hx hb dX2_lawBy_29 rfl (lv_at hl 3 rfl) ?_
      refine lv_iload_n hx hb dX2_lawBy_30 rfl (lv_at hl 4 rfl) ?_
      refine lv_iload hx hb dX2_lawBy_31 (lv_at hl 5 rfl) ?_
      refine v_X10_value C hl.1 Z fh4 tw_2_175 ⟨Nat.le_of_ble_eq_true rfl, Nat.le_of_ble_eq_true rfl⟩ ⟨Nat.le_refl _, Nat.le_refl _⟩ (Nat.le_of_ble_eq_true rfl) dX2_lawBy_33 hB (fun v12 M13 H locs hB Z => ?_)
      refine v_X2_heldAir C.1 hl.1 tw_2_163 ⟨Nat.le_of_ble_eq_true rfl, Nat.le_of_ble_eq_true rfl⟩ ⟨Nat.le_refl _, Nat.le_refl _⟩ (Nat.le_of_ble_eq_true rfl) dX2_lawBy_36 hB (fun v14 hB => ?_)
      exact e_iW C hr hlk Z dX2_lawBy_39 hB
set_option maxRecDepth 100000 in
set_option maxHeartbeats 4000000 in
theorem v_X2_lawBy {K : Nat} {M : Mem} {g : Nat} {x1 : Int32} {x2 : Int32} {x3 : Int32} {x4 : Int32} {Q1 : Int32 → Mem → Prop} (C : Cx T D p s m args c cc nL own) (hls : ls.size = nL) (Z : Zz EC T D ad (69 + K) A H0 M H locs) (hg : isH g) (hlink : Cond.methodLink own index yX2_lawBy ∈ TB) (hR : 3 + 1 ≤ R.frames ∧ 8 + (7 + 11) + 48 * 3 ≤ R.locals) (hcs : cells ≤ R.cells ∧ slots ≤ R.slots) (hcat : (rest.map fun v => v.category).sum ≤ 8) (hdg : decode cc pc = .ok (.invokevirtual index, 3)) (hB : P_X2_lawBy K M g x1 x2 x3 x4 Q1)
    (kk : ∀ (r : Int32) (M1 : Mem) (H1 : Heap) (locs1 : List Loc), Q1 r M1 → Zz EC T D ad (69 + K) A H0 M1 H1 locs1 → W p l e R s m args below meth c H1 locs1 cells slots QQ (F0 m (pc + 3) ls (.int r :: rest))) : W p l e R s m args below meth c H locs cells slots QQ (F0 m pc ls (.int x4 :: .int x3 :: .int x2 :: .int x1 :: .ref (ad g) :: rest)) :=
  k_VW (ci := 2) (n := 4) (c_X2_lawBy hg hB) tw_4_10 tw_4_8 tw_4_9 tw_1_10 ⟨rfl, by decide, by decide, by decide +kernel⟩ rfl rfl C hls Z (oH hg) hlink hR hcs hcat rfl hdg kk
def P_X11_law (K : Nat) (M : Mem) (x1 : Int32) (x2 : Int32) (x3 : Int32) (x4 : Int32) (Q1 : Int32 → Mem → Prop) : Prop :=
  P_X11_isUse x1 (fun v1 => ((¬ v1 = 0 → P_X2_lawBy K M 30 x1 x2 x3 x4 (fun v3 M4 => Q1 v3 M4)) ∧
    (v1 = 0 → P_X11_error K M 1 (fun v5 M6 => Q1 v5 M6))))
set_option maxRecDepth 100000 in
set_option maxHeartbeats 4000000 in
theorem c_X11_law {l : Launch} {T : Nat → ClassId} {D : va_G} {ad : Nat → Nat} {K : Nat} {M : Mem} {x1 : Int32} {x2 : Int32} {x3 : Int32} {x4 : Int32} {sz : Nat} {Q1 : Int32 → Mem → Prop} (hB : P_X11_law K M x1 x2 x3 x4 Q1) : Met l yX11_law (Cond.code yX11_law cX11_law 5 (some .int) :: TB) (RM 4) (va_Pc [.ref (ad 0), .int x1, .int x2, .int x3, .int x4] (WrP EC T D ad (69 + K) M sz)) (QcW EC T D ad (69 + K) (AA ad (69 + K) sz) Q1) 0 0 (AA ad (69 + K) sz) := by
  refine st_W (by decide) (Nat.le_of_ble_eq_true rfl) (fun p e s m args below meth c ls C hr hlk hsz Z hl => ?_)
  have hl : lv_has ls 5 [(0, .ref (ad 0)), (1, .int x1), (2, .int x2), (3, .int x3), (4, .int x4)] := hl
  generalize AA ad (69 + K) sz = A at Z ⊢
  have hx := C.x
  have hb := C.b
  delta P_X11_law at hB
  refine lv_iload_n hx hb dX11_law_0 rfl (lv_at hl 1 rfl) ?_
  refine v_X11_isUse C.1 hl.1 tw_3_73 ⟨Nat.le_of_ble_eq_true rfl, Nat.le_of_ble_eq_true rfl⟩ ⟨Nat.le_refl _, Nat.le_refl _⟩ (Nat.le_of_ble_eq_true rfl) dX11_law_1 hB (fun v1 hB => ?_)
  refine lv_if_ne (tgt := 13) hx hb dX11_law_4 (by decide) (fun q2 => ?_) (fun q2 => ?_)
  · have hB := hB.1 q2
    refine lv_aload_n hx hb dX11_law_13 rfl (lv_at hl 0 rfl) ?_
    refine gf_X11_5 C Z.1 tw_2_17 dX11_law_14 ?_
    refine lv_iload_n hx hb dX11_law_17 rfl (lv_at hl 1 rfl) ?_
    refine lv_iload_n hx hb dX11_law_18 rfl (lv_at hl 2 rfl) ?_
    refine lv_iload_n hx hb dX11_law_19 rfl (lv_at hl 3 rfl) ?_
    refine lv_iload hx hb dX11_law_20 (lv_at hl 4 rfl) ?_
    refine v_X2_lawBy C hl.1 Z isH_0 tw_4_7 ⟨Nat.le_of_ble_eq_true rfl, Nat.le_of_ble_eq_true rfl⟩ ⟨Nat.le_refl _, Nat.le_refl _⟩ (Nat.le_of_ble_eq_true rfl) dX11_law_22 hB (fun v3 M4 H locs hB Z => ?_)
    exact e_iW C hr hlk Z dX11_law_25 hB
  · have hB := hB.2 q2
    refine lv_aload_n hx hb dX11_law_7 rfl (lv_at hl 0 rfl) ?_
    refine lv_iconst (v := 1) hx hb dX11_law_8 (by decide) ?_
    refine v_X11_error C hl.1 Z tw_2_56 ⟨Nat.le_of_ble_eq_true rfl, Nat.le_of_ble_eq_true rfl⟩ ⟨Nat.le_refl _, Nat.le_refl _⟩ (Nat.le_of_ble_eq_true rfl) dX11_law_9 hB (fun v5 M6 H locs hB Z => ?_)
    exact e_iW C hr hlk Z dX11_law_12 hB
set_option maxRecDepth 100000 in
set_option maxHeartbeats 4000000 in
theorem v_X11_law {K : Nat} {M : Mem} {x1 : Int32} {x2 : Int32} {x3 : Int32} {x4 : Int32} {Q1 : Int32 → Mem → Prop} (C : Cx T D p s m args c cc nL own) (hls : ls.size = nL) (Z : Zz EC T D ad (69 + K) A H0 M H locs) (hlink : Cond.methodLink own index yX11_law ∈ TB) (hR : 4 + 1 ≤ R.frames ∧ 8 + (5 + 11) + 48 * 4 ≤ R.locals) (hcs : cells ≤ R.cells ∧ slots ≤ R.slots) (hcat : (rest.map fun v => v.category).sum ≤ 8) (hdg : decode cc pc = .ok (.invokevirtual index, 3)) (hB : P_X11_law K M x1 x2 x3 x4 Q1)
    (kk : ∀ (r : Int32) (M1 : Mem) (H1 : Heap) (locs1 : List Loc), Q1 r M1 → Zz EC T D ad (69 + K) A H0 M1 H1 locs1 → W p l e R s m args below meth c H1 locs1 cells slots QQ (F0 m (pc + 3) ls (.int r :: rest))) : W p l e R s m args below meth c H locs cells slots QQ (F0 m pc ls (.int x4 :: .int x3 :: .int x2 :: .int x1 :: .ref (ad 0) :: rest)) :=
  k_VW (ci := 11) (n := 4) (c_X11_law hB) tw_4_6 tw_4_4 tw_4_5 tw_1_1 ⟨rfl, by decide, by decide, by decide +kernel⟩ rfl rfl C hls Z oO hlink hR hcs hcat rfl hdg kk
def P_X2_farFromWanted (K : Nat) (M : Mem) (g : Nat) (x1 : Int32) (x2 : Int32) (Q1 : Int32 → Prop) : Prop :=
  vp_in x1 6 ∧ ∀ u2 : Int32, u2 = M (g + 5) x1.toNatClampNeg → isKd_X3 u2 ∧ vp_in x1 6 ∧ P_L_X3_leastAir K M u2 (M (g + 6) x1.toNatClampNeg) (fun v5 => ∀ x3_6 : Int32, x3_6 = v5 - x2 → vp_in x1 6 ∧ ∀ u8 : Int32, u8 = M (g + 5) x1.toNatClampNeg → isKd_X3 u8 ∧ vp_in x1 6 ∧ P_L_X3_mostAir K M u8 (M (g + 6) x1.toNatClampNeg) (fun v11 => ∀ x4_12 : Int32, x4_12 = x2 - v11 → ∀ v13 : Int32, v13 = (if x3_6 < x4_12 then x4_12 else x3_6) → ∀ v14 : Int32, v14 = (if 0 < v13 then v13 else 0) → Q1 v14))
set_option maxRecDepth 100000 in
set_option maxHeartbeats 4000000 in
theorem c_X2_farFromWanted {l : Launch} {T : Nat → ClassId} {D : va_G} {ad : Nat → Nat} {K : Nat} {M : Mem} {g : Nat} {x1 : Int32} {x2 : Int32} {Q1 : Int32 → Prop} (hg : isH g) (hB : P_X2_farFromWanted K M g x1 x2 Q1) : Met l yX2_farFromWanted (Cond.code yX2_farFromWanted cX2_farFromWanted 5 (some .int) :: TB) (RM 3) (va_Pc [.ref (ad g), .int x1, .int x2] (RdP EC T D ad (69 + K) M)) (QcR Q1) 0 0 (fun _ => False) := by
  refine st_R (by decide) (Nat.le_of_ble_eq_true rfl) (fun p e s m args below meth c ls C hr hlk hP hl => ?_)
  have hl : lv_has ls 5 [(0, .ref (ad g)), (1, .int x1), (2, .int x2)] := hl
  have hx := C.x
  have hb := C.b
  delta P_X2_farFromWanted at hB
  refine lv_aload_n hx hb dX2_farFromWanted_0 rfl (lv_at hl 0 rfl) ?_
  refine gf_X2_7 C hP hg tw_1_148 dX2_farFromWanted_1 ?_
  refine lv_iload_n hx hb dX2_farFromWanted_4 rfl (lv_at hl 1 rfl) ?_
  obtain ⟨q1, hB⟩ := hB
  obtain ⟨u2, eu2⟩ : ∃ y : Int32, y = M (g + 5) x1.toNatClampNeg := ⟨_, rfl⟩
  obtain ⟨fh3, hB⟩ := hB u2 eu2
  refine hk_ld C hP hg q1 eu2 fh3 dX2_farFromWanted_5 ?_
  refine lv_aload_n hx hb dX2_farFromWanted_6 rfl (lv_at hl 0 rfl) ?_
  refine gf_X2_8 C hP hg tw_1_150 dX2_farFromWanted_7 ?_
  refine lv_iload_n hx hb dX2_farFromWanted_10 rfl (lv_at hl 1 rfl) ?_
  obtain ⟨q4, hB⟩ := hB
  refine a_ld C hP (aH_6 hg) q4 dX2_farFromWanted_11 ?_
  refine v_L_X3_leastAir C hl.1 hP fh3 tw_3_17 ⟨Nat.le_of_ble_eq_true rfl, Nat.le_of_ble_eq_true rfl⟩ ⟨Nat.le_refl _, Nat.le_refl _⟩ (Nat.le_of_ble_eq_true rfl) dX2_farFromWanted_12 hB (fun v5 hB => ?_)
  refine lv_iload_n hx hb dX2_farFromWanted_15 rfl (lv_at hl 2 rfl) ?_
  refine lv_isub hx hb dX2_farFromWanted_16 ?_
  refine lv_topi (fun x3_6 ex3_6 => ?_)
  have hB := hB x3_6 ex3_6
  refine lv_istore_n (lv' := [(3, .int x3_6), (0, .ref (ad g)), (1, .int x1), (2, .int x2)]) hx hb dX2_farFromWanted_17 rfl hl (by decide) rfl (fun ls hl => ?_)
  refine lv_iload_n hx hb dX2_farFromWanted_18 rfl (lv_at hl 3 rfl) ?_
  refine lv_aload_n hx hb dX2_farFromWanted_19 rfl (lv_at hl 1 rfl) ?_
  refine gf_X2_7 C hP hg tw_1_148 dX2_farFromWanted_20 ?_
  refine lv_iload_n hx hb dX2_farFromWanted_23 rfl (lv_at hl 2 rfl) ?_
  obtain ⟨q7, hB⟩ := hB
  obtain ⟨u8, eu8⟩ : ∃ y : Int32, y = M (g + 5) x1.toNatClampNeg := ⟨_, rfl⟩
  obtain ⟨fh9, hB⟩ := hB u8 eu8
  refine hk_ld C hP hg q7 eu8 fh9 dX2_farFromWanted_24 ?_
  refine lv_aload_n hx hb dX2_farFromWanted_25 rfl (lv_at hl 1 rfl) ?_
  refine gf_X2_8 C hP hg tw_1_150 dX2_farFromWanted_26 ?_
  refine lv_iload_n hx hb dX2_farFromWanted_29 rfl (lv_at hl 2 rfl) ?_
  obtain ⟨q10, hB⟩ := hB
  refine a_ld C hP (aH_6 hg) q10 dX2_farFromWanted_30 ?_
  refine v_L_X3_mostAir C hl.1 hP fh9 tw_3_18 ⟨Nat.le_of_ble_eq_true rfl, Nat.le_of_ble_eq_true rfl⟩ ⟨Nat.le_refl _, Nat.le_refl _⟩ (Nat.le_of_ble_eq_true rfl) dX2_farFromWanted_31 hB (fun v11 hB => ?_)
  refine lv_isub hx hb dX2_farFromWanted_34 ?_
  refine lv_topi (fun x4_12 ex4_12 => ?_)
  have hB := hB x4_12 ex4_12
  refine lv_istore (lv' := [(4, .int x4_12), (3, .int x3_6), (0, .ref (ad g)), (1, .int x1), (2, .int x2)]) hx hb dX2_farFromWanted_35 hl (by decide) rfl (fun ls hl => ?_)
  refine lv_iconst (v := 0) hx hb dX2_farFromWanted_37 (by decide) ?_
  refine lv_iload_n hx hb dX2_farFromWanted_38 rfl (lv_at hl 1 rfl) ?_
  refine lv_iload hx hb dX2_farFromWanted_39 (lv_at hl 0 rfl) ?_
  refine m_max C.1 hl.1 tw_2_169 (Nat.le_of_ble_eq_true rfl) (Nat.le_of_ble_eq_true rfl) dX2_farFromWanted_41 ?_
  refine lv_topi (fun v13 ev13 => ?_)
  have hB := hB v13 ev13
  refine m_max C.1 hl.1 tw_2_169 (Nat.le_of_ble_eq_true rfl) (Nat.le_of_ble_eq_true rfl) dX2_farFromWanted_44 ?_
  refine lv_topi (fun v14 ev14 => ?_)
  have hB := hB v14 ev14
  exact e_iR C.1 hr hlk dX2_farFromWanted_47 hB
set_option maxRecDepth 100000 in
set_option maxHeartbeats 4000000 in
theorem v_X2_farFromWanted {K : Nat} {M : Mem} {g : Nat} {x1 : Int32} {x2 : Int32} {Q1 : Int32 → Prop} (C : Cx T D p s m args c cc nL own) (hls : ls.size = nL) (hP : Pw EC T D ad (69 + K) M H) (hg : isH g) (hlink : Cond.methodLink own index yX2_farFromWanted ∈ TB) (hR : 3 + 1 ≤ R.frames ∧ 8 + (5 + 11) + 48 * 3 ≤ R.locals) (hcs : cells ≤ R.cells ∧ slots ≤ R.slots) (hcat : (rest.map fun v => v.category).sum ≤ 8) (hdg : decode cc pc = .ok (.invokevirtual index, 3)) (hB : P_X2_farFromWanted K M g x1 x2 Q1)
    (kk : ∀ r : Int32, Q1 r → W p l e R s m args below meth c H locs cells slots QQ (F0 m (pc + 3) ls (.int r :: rest))) : W p l e R s m args below meth c H locs cells slots QQ (F0 m pc ls (.int x2 :: .int x1 :: .ref (ad g) :: rest)) :=
  k_V (ci := 2) (n := 2) (c_X2_farFromWanted hg hB) tw_4_28 tw_4_26 tw_4_27 tw_1_10 ⟨rfl, by decide, by decide, by decide +kernel⟩ rfl rfl C hls hP (oH hg) hlink hR hcs hcat rfl hdg kk
def P_X2_ofOne (x0 : Int32) (Q1 : Int32 → Prop) : Prop :=
  ((x0 = 0 → Q1 0) ∧
    (¬ x0 = 0 → Q1 1))
set_option maxRecDepth 100000 in
set_option maxHeartbeats 4000000 in
theorem c_X2_ofOne {l : Launch} {x0 : Int32} {Q1 : Int32 → Prop} (hB : P_X2_ofOne x0 Q1) : Met l yX2_ofOne (Cond.code yX2_ofOne cX2_ofOne 1 (some .int) :: TB) (RM 1) (va_Pc [.int x0] StP) (QcR Q1) 0 0 (fun _ => False) := by
  refine st_S (by decide) (Nat.le_of_ble_eq_true rfl) (fun p e s m args below meth c ls C hr hlk hl => ?_)
  have hl : lv_has ls 1 [(0, .int x0)] := hl
  have hx := C.1
  have hb := C.2.1
  delta P_X2_ofOne at hB
  refine lv_iload_n hx hb dX2_ofOne_0 rfl (lv_at hl 0 rfl) ?_
  refine lv_if_eq (tgt := 8) hx hb dX2_ofOne_1 (by decide) (fun q1 => ?_) (fun q1 => ?_)
  · have hB := hB.1 q1
    refine lv_iconst (v := 0) hx hb dX2_ofOne_8 (by decide) ?_
    exact e_iR C hr hlk dX2_ofOne_9 hB
  · have hB := hB.2 q1
    refine lv_iconst (v := 1) hx hb dX2_ofOne_4 (by decide) ?_
    refine lv_goto (tgt := 9) hx hb dX2_ofOne_5 (by decide) ?_
    exact e_iR C hr hlk dX2_ofOne_9 hB
set_option maxRecDepth 100000 in
set_option maxHeartbeats 4000000 in
theorem v_X2_ofOne {x0 : Int32} {Q1 : Int32 → Prop} (C : CallFix p m c cc nL s args TB own) (hls : ls.size = nL) (hlink : Cond.methodLink own index yX2_ofOne ∈ TB) (hR : 1 + 1 ≤ R.frames ∧ 8 + (1 + 11) + 48 * 1 ≤ R.locals) (hcs : cells ≤ R.cells ∧ slots ≤ R.slots) (hcat : (rest.map fun v => v.category).sum ≤ 8) (hdg : decode cc pc = .ok (.invokestatic index, 3)) (hB : P_X2_ofOne x0 Q1)
    (kk : ∀ r : Int32, Q1 r → W p l e R s m args below meth c H locs cells slots QQ (F0 m (pc + 3) ls (.int r :: rest))) : W p l e R s m args below meth c H locs cells slots QQ (F0 m pc ls (.int x0 :: rest)) :=
  k_S (n := 1) (c_X2_ofOne hB) tw_4_35 tw_4_34 tw_1_10 ⟨by decide, by decide, by decide +kernel⟩ rfl C hls  hlink hR hcs hcat rfl hdg kk
def B_X2_pairToPull_178 (K : Nat) (g : Nat) (Q1 : Int32 → Mem → Prop) (X41 : Int32 → Int32 → Mem → Prop) (X72 : Int32 → Int32 → Mem → Prop) (x1 : Int32) (x2 : Int32) (x3 : Int32) (x4 : Int32) (x5 : Int32) (x6 : Int32) (x7 : Int32) (x8 : Int32) (x10 : Int32) (s0 : Int32) (s1 : Int32) (M : Mem) : Prop :=
  P_X2_ofOne s1 (fun v28 => ∀ x11_29 : Int32, x11_29 = s0 - v28 → P_X2_airBy K M g (x2 + x10) (x3 + x11_29) (fun v30 M31 => P_X2_isContentBy K M31 g x1 v30 (fun v32 => ((v32 = 0 → ((0 ≤ x5 → ∀ x8_35 : Int32, x8_35 = x8 + 1 → X72 x5 x8_35 M31) ∧
      (¬ 0 ≤ x5 → P_X2_farFromWanted K M31 g x1 v30 (fun v36 => ((x4 ≤ v36 → ∀ x8_38 : Int32, x8_38 = x8 + 1 → X72 x5 x8_38 M31) ∧
        (¬ x4 ≤ v36 → ∀ x5_39 : Int32, x5_39 = (x6 * 8) + x8 → ∀ x8_40 : Int32, x8_40 = x8 + 1 → X72 x5_39 x8_40 M31)))))) ∧
    (¬ v32 = 0 → Q1 ((x6 * 8) + x8) M31)))))
def B_X2_pairToPull_164 (K : Nat) (g : Nat) (Q1 : Int32 → Mem → Prop) (X41 : Int32 → Int32 → Mem → Prop) (X72 : Int32 → Int32 → Mem → Prop) (x1 : Int32) (x2 : Int32) (x3 : Int32) (x4 : Int32) (x5 : Int32) (x6 : Int32) (x7 : Int32) (x8 : Int32) (x9 : Int32) (x10 : Int32) (s0 : Int32) (M : Mem) : Prop :=
  P_X2_ofOne s0 (fun v26 => ((¬ x9 = 1 → B_X2_pairToPull_178 K g Q1 X41 X72 x1 x2 x3 x4 x5 x6 x7 x8 x10 v26 0 M) ∧
    (x9 = 1 → B_X2_pairToPull_178 K g Q1 X41 X72 x1 x2 x3 x4 x5 x6 x7 x8 x10 v26 1 M)))
def B_X2_pairToPull_147 (K : Nat) (g : Nat) (Q1 : Int32 → Mem → Prop) (X41 : Int32 → Int32 → Mem → Prop) (X72 : Int32 → Int32 → Mem → Prop) (x1 : Int32) (x2 : Int32) (x3 : Int32) (x4 : Int32) (x5 : Int32) (x6 : Int32) (x7 : Int32) (x8 : Int32) (x9 : Int32) (s0 : Int32) (s1 : Int32) (M : Mem) : Prop :=
  P_X2_ofOne s1 (fun v23 => ∀ x10_24 : Int32, x10_24 = s0 - v23 → ((¬ x7 = 1 → B_X2_pairToPull_164 K g Q1 X41 X72 x1 x2 x3 x4 x5 x6 x7 x8 x9 x10_24 0 M) ∧
    (x7 = 1 → B_X2_pairToPull_164 K g Q1 X41 X72 x1 x2 x3 x4 x5 x6 x7 x8 x9 x10_24 1 M)))
def B_X2_pairToPull_134 (K : Nat) (g : Nat) (Q1 : Int32 → Mem → Prop) (X41 : Int32 → Int32 → Mem → Prop) (X72 : Int32 → Int32 → Mem → Prop) (x1 : Int32) (x2 : Int32) (x3 : Int32) (x4 : Int32) (x5 : Int32) (x6 : Int32) (x7 : Int32) (x8 : Int32) (x9 : Int32) (s0 : Int32) (M : Mem) : Prop :=
  P_X2_ofOne s0 (fun v21 => ((¬ x9 = 0 → B_X2_pairToPull_147 K g Q1 X41 X72 x1 x2 x3 x4 x5 x6 x7 x8 x9 v21 0 M) ∧
    (x9 = 0 → B_X2_pairToPull_147 K g Q1 X41 X72 x1 x2 x3 x4 x5 x6 x7 x8 x9 v21 1 M)))
def B_X2_pairToPull_110 (K : Nat) (g : Nat) (Q1 : Int32 → Mem → Prop) (X41 : Int32 → Int32 → Mem → Prop) (X72 : Int32 → Int32 → Mem → Prop) (x1 : Int32) (x2 : Int32) (x3 : Int32) (x4 : Int32) (x5 : Int32) (x6 : Int32) (x7 : Int32) (x8 : Int32) (x9 : Int32) (M : Mem) : Prop :=
  P_X2_canPull K M g x6 x8 (fun v18 => ((¬ v18 = 0 → ((¬ x7 = 0 → B_X2_pairToPull_134 K g Q1 X41 X72 x1 x2 x3 x4 x5 x6 x7 x8 x9 0 M) ∧
      (x7 = 0 → B_X2_pairToPull_134 K g Q1 X41 X72 x1 x2 x3 x4 x5 x6 x7 x8 x9 1 M))) ∧
    (v18 = 0 → ∀ x8_41 : Int32, x8_41 = x8 + 1 → X72 x5 x8_41 M)))
def B_X2_pairToPull_72 (K : Nat) (g : Nat) (Q1 : Int32 → Mem → Prop) (X41 : Int32 → Int32 → Mem → Prop) (x1 : Int32) (x2 : Int32) (x3 : Int32) (x4 : Int32) (x5 : Int32) (x6 : Int32) (x7 : Int32) (x8 : Int32) (M : Mem) : Prop :=
  ∀ X72 : Int32 → Int32 → Mem → Prop, (∀ (x5 : Int32) (x8 : Int32) (M : Mem), ((((M g 0) ≤ x8 → ∀ x6_13 : Int32, x6_13 = x6 + 1 → X41 x5 x6_13 M) ∧
    (¬ (M g 0) ≤ x8 → vp_in x8 8 ∧ vp_in x1 6 ∧ ∀ v16 : Int32, v16 = (if 0 ≤ ((M (g + 1) x8.toNatClampNeg) - (M (g + 7) x1.toNatClampNeg)) then ((M (g + 1) x8.toNatClampNeg) - (M (g + 7) x1.toNatClampNeg)) else 0 - ((M (g + 1) x8.toNatClampNeg) - (M (g + 7) x1.toNatClampNeg))) → ((x7 = 0 → B_X2_pairToPull_110 K g Q1 X41 X72 x1 x2 x3 x4 x5 x6 x7 x8 v16 M) ∧
      (¬ x7 = 0 → ((¬ v16 = 0 → ∀ x8_43 : Int32, x8_43 = x8 + 1 → X72 x5 x8_43 M) ∧
        (v16 = 0 → B_X2_pairToPull_110 K g Q1 X41 X72 x1 x2 x3 x4 x5 x6 x7 x8 v16 M))))))) → X72 x5 x8 M) → X72 x5 x8 M
def B_X2_pairToPull_41 (K : Nat) (g : Nat) (Q1 : Int32 → Mem → Prop) (x1 : Int32) (x2 : Int32) (x3 : Int32) (x4 : Int32) (x5 : Int32) (x6 : Int32) (M : Mem) : Prop :=
  ∀ X41 : Int32 → Int32 → Mem → Prop, (∀ (x5 : Int32) (x6 : Int32) (M : Mem), ((((M g 0) ≤ x6 → Q1 x5 M) ∧
    (¬ (M g 0) ≤ x6 → vp_in x6 8 ∧ vp_in x1 6 ∧ ∀ v11 : Int32, v11 = (if 0 ≤ ((M (g + 1) x6.toNatClampNeg) - (M (g + 7) x1.toNatClampNeg)) then ((M (g + 1) x6.toNatClampNeg) - (M (g + 7) x1.toNatClampNeg)) else 0 - ((M (g + 1) x6.toNatClampNeg) - (M (g + 7) x1.toNatClampNeg))) → B_X2_pairToPull_72 K g Q1 X41 x1 x2 x3 x4 x5 x6 v11 0 M))) → X41 x5 x6 M) → X41 x5 x6 M
def P_X2_pairToPull (K : Nat) (M : Mem) (g : Nat) (x1 : Int32) (Q1 : Int32 → Mem → Prop) : Prop :=
  vp_in x1 6 ∧ P_X2_openIn K M g (M (g + 7) x1.toNatClampNeg) (fun v2 => vp_in x1 6 ∧ P_X2_openBeside K M g (M (g + 7) x1.toNatClampNeg) (fun v4 => P_X2_airBy K M g v2 v4 (fun v5 M6 => P_X2_farFromWanted K M6 g x1 v5 (fun v7 => B_X2_pairToPull_41 K g Q1 x1 v2 v4 v7 (-1) 0 M6))))
set_option maxRecDepth 100000 in
set_option maxHeartbeats 4000000 in
theorem w_X2_pairToPull_178 {K : Nat} {g : Nat} {M : Mem} {Q1 : Int32 → Mem → Prop} {X41 : Int32 → Int32 → Mem → Prop} {X72 : Int32 → Int32 → Mem → Prop} {x1 : Int32} {x2 : Int32} {x3 : Int32} {x4 : Int32} {x5 : Int32} {x6 : Int32} {x7 : Int32} {x8 : Int32} {x10 : Int32} {s0 : Int32} {s1 : Int32} (C : Cx T D p s m args c cX2_pairToPull 13 "OneOfTwo$House") (hr : meth.sig.returnType = (some .int)) (hlk : meth.locks = false) (Z : Zz EC T D ad (69 + K) A s.heap M H locs) (hg : isH g) (hX41 : ∀ (x5 : Int32) (x6 : Int32) (M : Mem), X41 x5 x6 M → ∀ (H : Heap) (locs : List Loc) (ls : Array Slot), Zz EC T D ad (69 + K) A s.heap M H locs → lv_has ls 13 [(0, .ref (ad g)), (1, .int x1), (2, .int x2), (3, .int x3), (4, .int x4), (5, .int x5), (6, .int x6)] → W p l e (RM 4) s m args below meth c H locs 0 0 (MQ below (QcW EC T D ad (69 + K) A Q1) args s 0 0 A) (F0 m 41 ls [])) (hX72 : ∀ (x5 : Int32) (x8 : Int32) (M : Mem), X72 x5 x8 M → ∀ (H : Heap) (locs : List Loc) (ls : Array Slot), Zz EC T D ad (69 + K) A s.heap M H locs → lv_has ls 13 [(0, .ref (ad g)), (1, .int x1), (2, .int x2), (3, .int x3), (4, .int x4), (5, .int x5), (6, .int x6), (7, .int x7), (8, .int x8)] → W p l e (RM 4) s m args below meth c H locs 0 0 (MQ below (QcW EC T D ad (69 + K) A Q1) args s 0 0 A) (F0 m 72 ls [])) {ls : Array Slot} (hl : lv_has ls 13 [(0, .ref (ad g)), (1, .int x1), (2, .int x2), (3, .int x3), (4, .int x4), (5, .int x5), (6, .int x6), (7, .int x7), (8, .int x8), (10, .int x10)]) (hB : B_X2_pairToPull_178 K g Q1 X41 X72 x1 x2 x3 x4 x5 x6 x7 x8 x10 s0 s1 M) : W p l e (RM 4) s m args below meth c H locs 0 0 (MQ below (QcW EC T D ad (69 + K) A Q1) args s 0 0 A) (F0 m 178 ls [.int s1, .int s0]) := by
  have hx := C.x
  have hb := C.b
  delta B_X2_pairToPull_178 at hB
  refine v_X2_ofOne C.1 hl.1 tw_4_33 ⟨Nat.le_of_ble_eq_true rfl, Nat.le_of_ble_eq_true rfl⟩ ⟨Nat.le_refl _, Nat.le_refl _⟩ (Nat.le_of_ble_eq_true rfl) dX2_pairToPull_178 hB (fun v28 hB => ?_)
  refine lv_isub hx hb dX2_pairToPull_181 ?_
  refine lv_topi (fun x11_29 ex11_29 => ?_)
  have hB := hB x11_29 ex11_29
  refine lv_istore (lv' := [(11, .int x11_29), (0, .ref (ad g)), (1, .int x1), (2, .int x2), (3, .int x3), (4, .int x4), (5, .int x5), (6, .int x6), (7, .int x7), (8, .int x8), (10, .int x10)]) hx hb dX2_pairToPull_182 hl (by decide) rfl (fun ls hl => ?_)
  refine lv_aload_n hx hb dX2_pairToPull_184 rfl (lv_at hl 1 rfl) ?_
  refine lv_iload_n hx hb dX2_pairToPull_185 rfl (lv_at hl 3 rfl) ?_
  refine lv_iload hx hb dX2_pairToPull_186 (lv_at hl 10 rfl) ?_
  refine lv_iadd hx hb dX2_pairToPull_188 ?_
  refine lv_iload_n hx hb dX2_pairToPull_189 rfl (lv_at hl 4 rfl) ?_
  refine lv_iload hx hb dX2_pairToPull_190 (lv_at hl 0 rfl) ?_
  refine lv_iadd hx hb dX2_pairToPull_192 ?_
  refine v_X2_airBy C hl.1 Z hg tw_2_159 ⟨Nat.le_of_ble_eq_true rfl, Nat.le_of_ble_eq_true rfl⟩ ⟨Nat.le_refl _, Nat.le_refl _⟩ (Nat.le_of_ble_eq_true rfl) dX2_pairToPull_193 hB (fun v30 M31 H locs hB Z => ?_)
  refine lv_istore (lv' := [(12, .int v30), (11, .int x11_29), (0, .ref (ad g)), (1, .int x1), (2, .int x2), (3, .int x3), (4, .int x4), (5, .int x5), (6, .int x6), (7, .int x7), (8, .int x8), (10, .int x10)]) hx hb dX2_pairToPull_196 hl (by decide) rfl (fun ls hl => ?_)
  refine lv_aload_n hx hb dX2_pairToPull_198 rfl (lv_at hl 2 rfl) ?_
  refine lv_iload_n hx hb dX2_pairToPull_199 rfl (lv_at hl 3 rfl) ?_
  refine lv_iload hx hb dX2_pairToPull_200 (lv_at hl 0 rfl) ?_
  refine v_X2_isContentBy C hl.1 Z.1 hg tw_3_13 ⟨Nat.le_of_ble_eq_true rfl, Nat.le_of_ble_eq_true rfl⟩ ⟨Nat.le_refl _, Nat.le_refl _⟩ (Nat.le_of_ble_eq_true rfl) dX2_pairToPull_202 hB (fun v32 hB => ?_)
  refine lv_if_eq (tgt := 217) hx hb dX2_pairToPull_205 (by decide) (fun q33 => ?_) (fun q33 => ?_)
  · have hB := hB.1 q33
    refine lv_iload hx hb dX2_pairToPull_217 (lv_at hl 7 rfl) ?_
    refine lv_if_ge (tgt := 244) hx hb dX2_pairToPull_219 (by decide) (fun q34 => ?_) (fun q34 => ?_)
    · have hB := hB.1 q34
      obtain ⟨x8_35, ex8_35⟩ : ∃ y : Int32, y = x8 + 1 := ⟨_, rfl⟩
      have hB := hB x8_35 ex8_35
      refine lv_iinc (v := x8_35) (lv' := [(8, .int x8_35), (12, .int v30), (11, .int x11_29), (0, .ref (ad g)), (1, .int x1), (2, .int x2), (3, .int x3), (4, .int x4), (5, .int x5), (6, .int x6), (7, .int x7), (10, .int x10)]) hx hb dX2_pairToPull_244 hl (k := 10) rfl (by rw [ex8_35]; rfl) (by decide) rfl (fun ls hl => ?_)
      refine lv_goto (tgt := 72) hx hb dX2_pairToPull_247 (by decide) ?_
      exact hX72 _ _ _ hB _ _ _ Z (lv_sub hl [3, 4, 5, 6, 7, 8, 9, 10, 0] rfl)
    · have hB := hB.2 q34
      refine lv_aload_n hx hb dX2_pairToPull_222 rfl (lv_at hl 2 rfl) ?_
      refine lv_iload_n hx hb dX2_pairToPull_223 rfl (lv_at hl 3 rfl) ?_
      refine lv_iload hx hb dX2_pairToPull_224 (lv_at hl 0 rfl) ?_
      refine v_X2_farFromWanted C hl.1 Z.1 hg tw_4_25 ⟨Nat.le_of_ble_eq_true rfl, Nat.le_of_ble_eq_true rfl⟩ ⟨Nat.le_refl _, Nat.le_refl _⟩ (Nat.le_of_ble_eq_true rfl) dX2_pairToPull_226 hB (fun v36 hB => ?_)
      refine lv_iload hx hb dX2_pairToPull_229 (lv_at hl 6 rfl) ?_
      refine lv_icmp_ge (tgt := 244) hx hb dX2_pairToPull_231 (by decide) (fun q37 => ?_) (fun q37 => ?_)
      · have hB := hB.1 q37
        obtain ⟨x8_38, ex8_38⟩ : ∃ y : Int32, y = x8 + 1 := ⟨_, rfl⟩
        have hB := hB x8_38 ex8_38
        refine lv_iinc (v := x8_38) (lv' := [(8, .int x8_38), (12, .int v30), (11, .int x11_29), (0, .ref (ad g)), (1, .int x1), (2, .int x2), (3, .int x3), (4, .int x4), (5, .int x5), (6, .int x6), (7, .int x7), (10, .int x10)]) hx hb dX2_pairToPull_244 hl (k := 10) rfl (by rw [ex8_38]; rfl) (by decide) rfl (fun ls hl => ?_)
        refine lv_goto (tgt := 72) hx hb dX2_pairToPull_247 (by decide) ?_
        exact hX72 _ _ _ hB _ _ _ Z (lv_sub hl [3, 4, 5, 6, 7, 8, 9, 10, 0] rfl)
      · have hB := hB.2 q37
        refine lv_iload hx hb dX2_pairToPull_234 (lv_at hl 8 rfl) ?_
        refine lv_bipush (v := 8) hx hb dX2_pairToPull_236 (by decide) ?_
        refine lv_imul hx hb dX2_pairToPull_238 ?_
        refine lv_iload hx hb dX2_pairToPull_239 (lv_at hl 10 rfl) ?_
        refine lv_iadd hx hb dX2_pairToPull_241 ?_
        refine lv_topi (fun x5_39 ex5_39 => ?_)
        have hB := hB x5_39 ex5_39
        refine lv_istore (lv' := [(5, .int x5_39), (12, .int v30), (11, .int x11_29), (0, .ref (ad g)), (1, .int x1), (2, .int x2), (3, .int x3), (4, .int x4), (6, .int x6), (7, .int x7), (8, .int x8), (10, .int x10)]) hx hb dX2_pairToPull_242 hl (by decide) rfl (fun ls hl => ?_)
        obtain ⟨x8_40, ex8_40⟩ : ∃ y : Int32, y = x8 + 1 := ⟨_, rfl⟩
        have hB := hB x8_40 ex8_40
        refine lv_iinc (v := x8_40) (lv' := [(8, .int x8_40), (5, .int x5_39), (12, .int v30), (11, .int x11_29), (0, .ref (ad g)), (1, .int x1), (2, .int x2), (3, .int x3), (4, .int x4), (6, .int x6), (7, .int x7), (10, .int x10)]) hx hb dX2_pairToPull_244 hl (k := 10) rfl (by rw [ex8_40]; rfl) (by decide) rfl (fun ls hl => ?_)
        refine lv_goto (tgt := 72) hx hb dX2_pairToPull_247 (by decide) ?_
        exact hX72 _ _ _ hB _ _ _ Z (lv_sub hl [4, 5, 6, 7, 8, 1, 9, 10, 0] rfl)
  · have hB := hB.2 q33
    refine lv_iload hx hb dX2_pairToPull_208 (lv_at hl 8 rfl) ?_
    refine lv_bipush (v := 8) hx hb dX2_pairToPull_210 (by decide) ?_
    refine lv_imul hx hb dX2_pairToPull_212 ?_
    refine lv_iload hx hb dX2_pairToPull_213 (lv_at hl 10 rfl) ?_
    refine lv_iadd hx hb dX2_pairToPull_215 ?_
    exact e_iW C hr hlk Z dX2_pairToPull_216 hB
set_option maxRecDepth 100000 in
set_option maxHeartbeats 4000000 in
theorem w_X2_pairToPull_164 {K : Nat} {g : Nat} {M : Mem} {Q1 : Int32 → Mem → Prop} {X41 : Int32 → Int32 → Mem → Prop} {X72 : Int32 → Int32 → Mem → Prop} {x1 : Int32} {x2 : Int32} {x3 : Int32} {x4 : Int32} {x5 : Int32} {x6 : Int32} {x7 : Int32} {x8 : Int32} {x9 : Int32} {x10 : Int32} {s0 : Int32} (C : Cx T D p s m args c cX2_pairToPull 13 "OneOfTwo$House") (hr : meth.sig.returnType = (some .int)) (hlk : meth.locks = false) (Z : Zz EC T D ad (69 + K) A s.heap M H locs) (hg : isH g) (hX41 : ∀ (x5 : Int32) (x6 : Int32) (M : Mem), X41 x5 x6 M → ∀ (H : Heap) (locs : List Loc) (ls : Array Slot), Zz EC T D ad (69 + K) A s.heap M H locs → lv_has ls 13 [(0, .ref (ad g)), (1, .int x1), (2, .int x2), (3, .int x3), (4, .int x4), (5, .int x5), (6, .int x6)] → W p l e (RM 4) s m args below meth c H locs 0 0 (MQ below (QcW EC T D ad (69 + K) A Q1) args s 0 0 A) (F0 m 41 ls [])) (hX72 : ∀ (x5 : Int32) (x8 : Int32) (M : Mem), X72 x5 x8 M → ∀ (H : Heap) (locs : List Loc) (ls : Array Slot), Zz EC T D ad (69 + K) A s.heap M H locs → lv_has ls 13 [(0, .ref (ad g)), (1, .int x1), (2, .int x2), (3, .int x3), (4, .int x4), (5, .int x5), (6, .int x6), (7, .int x7), (8, .int x8)] → W p l e (RM 4) s m args below meth c H locs 0 0 (MQ below (QcW EC T D ad (69 + K) A Q1) args s 0 0 A) (F0 m 72 ls [])) {ls : Array Slot} (hl : lv_has ls 13 [(0, .ref (ad g)), (1, .int x1), (2, .int x2), (3, .int x3), (4, .int x4), (5, .int x5), (6, .int x6), (7, .int x7), (8, .int x8), (9, .int x9), (10, .int x10)]) (hB : B_X2_pairToPull_164 K g Q1 X41 X72 x1 x2 x3 x4 x5 x6 x7 x8 x9 x10 s0 M) : W p l e (RM 4) s m args below meth c H locs 0 0 (MQ below (QcW EC T D ad (69 + K) A Q1) args s 0 0 A) (F0 m 164 ls [.int s0]) := by
  have hx := C.x
  have hb := C.b
  delta B_X2_pairToPull_164 at hB
  refine v_X2_ofOne C.1 hl.1 tw_4_33 ⟨Nat.le_of_ble_eq_true rfl, Nat.le_of_ble_eq_true rfl⟩ ⟨Nat.le_refl _, Nat.le_refl _⟩ (Nat.le_of_ble_eq_true rfl) dX2_pairToPull_164 hB (fun v26 hB => ?_)
  refine lv_iload hx hb dX2_pairToPull_167 (lv_at hl 9 rfl) ?_
  refine lv_iconst (v := 1) hx hb dX2_pairToPull_169 (by decide) ?_
  refine lv_icmp_ne (tgt := 177) hx hb dX2_pairToPull_170 (by decide) (fun q27 => ?_) (fun q27 => ?_)
  · have hB := hB.1 q27
    refine lv_iconst (v := 0) hx hb dX2_pairToPull_177 (by decide) ?_
    exact w_X2_pairToPull_178 C hr hlk Z hg hX41 hX72 (lv_sub hl [0, 1, 2, 3, 4, 5, 6, 7, 8, 10] rfl) hB
  · have hB := hB.2 q27
    refine lv_iconst (v := 1) hx hb dX2_pairToPull_173 (by decide) ?_
    refine lv_goto (tgt := 178) hx hb dX2_pairToPull_174 (by decide) ?_
    exact w_X2_pairToPull_178 C hr hlk Z hg hX41 hX72 (lv_sub hl [0, 1, 2, 3, 4, 5, 6, 7, 8, 10] rfl) hB
set_option maxRecDepth 100000 in
set_option maxHeartbeats 4000000 in
theorem w_X2_pairToPull_147 {K : Nat} {g : Nat} {M : Mem} {Q1 : Int32 → Mem → Prop} {X41 : Int32 → Int32 → Mem → Prop} {X72 : Int32 → Int32 → Mem → Prop} {x1 : Int32} {x2 : Int32} {x3 : Int32} {x4 : Int32} {x5 : Int32} {x6 : Int32} {x7 : Int32} {x8 : Int32} {x9 : Int32} {s0 : Int32} {s1 : Int32} (C : Cx T D p s m args c cX2_pairToPull 13 "OneOfTwo$House") (hr : meth.sig.returnType = (some .int)) (hlk : meth.locks = false) (Z : Zz EC T D ad (69 + K) A s.heap M H locs) (hg : isH g) (hX41 : ∀ (x5 : Int32) (x6 : Int32) (M : Mem), X41 x5 x6 M → ∀ (H : Heap) (locs : List Loc) (ls : Array Slot), Zz EC T D ad (69 + K) A s.heap M H locs → lv_has ls 13 [(0, .ref (ad g)), (1, .int x1), (2, .int x2), (3, .int x3), (4, .int x4), (5, .int x5), (6, .int x6)] → W p l e (RM 4) s m args below meth c H locs 0 0 (MQ below (QcW EC T D ad (69 + K) A Q1) args s 0 0 A) (F0 m 41 ls [])) (hX72 : ∀ (x5 : Int32) (x8 : Int32) (M : Mem), X72 x5 x8 M → ∀ (H : Heap) (locs : List Loc) (ls : Array Slot), Zz EC T D ad (69 + K) A s.heap M H locs → lv_has ls 13 [(0, .ref (ad g)), (1, .int x1), (2, .int x2), (3, .int x3), (4, .int x4), (5, .int x5), (6, .int x6), (7, .int x7), (8, .int x8)] → W p l e (RM 4) s m args below meth c H locs 0 0 (MQ below (QcW EC T D ad (69 + K) A Q1) args s 0 0 A) (F0 m 72 ls [])) {ls : Array Slot} (hl : lv_has ls 13 [(0, .ref (ad g)), (1, .int x1), (2, .int x2), (3, .int x3), (4, .int x4), (5, .int x5), (6, .int x6), (7, .int x7), (8, .int x8), (9, .int x9)]) (hB : B_X2_pairToPull_147 K g Q1 X41 X72 x1 x2 x3 x4 x5 x6 x7 x8 x9 s0 s1 M) : W p l e (RM 4) s m args below meth c H locs 0 0 (MQ below (QcW EC T D ad (69 + K) A Q1) args s 0 0 A) (F0 m 147 ls [.int s1, .int s0]) := by
  have hx := C.x
  have hb := C.b
  delta B_X2_pairToPull_147 at hB
  refine v_X2_ofOne C.1 hl.1 tw_4_33 ⟨Nat.le_of_ble_eq_true rfl, Nat.le_of_ble_eq_true rfl⟩ ⟨Nat.le_refl _, Nat.le_refl _⟩ (Nat.le_of_ble_eq_true rfl) dX2_pairToPull_147 hB (fun v23 hB => ?_)
  refine lv_isub hx hb dX2_pairToPull_150 ?_
  refine lv_topi (fun x10_24 ex10_24 => ?_)
  have hB := hB x10_24 ex10_24
  refine lv_istore (lv' := [(10, .int x10_24), (0, .ref (ad g)), (1, .int x1), (2, .int x2), (3, .int x3), (4, .int x4), (5, .int x5), (6, .int x6), (7, .int x7), (8, .int x8), (9, .int x9)]) hx hb dX2_pairToPull_151 hl (by decide) rfl (fun ls hl => ?_)
  refine lv_iload hx hb dX2_pairToPull_153 (lv_at hl 8 rfl) ?_
  refine lv_iconst (v := 1) hx hb dX2_pairToPull_155 (by decide) ?_
  refine lv_icmp_ne (tgt := 163) hx hb dX2_pairToPull_156 (by decide) (fun q25 => ?_) (fun q25 => ?_)
  · have hB := hB.1 q25
    refine lv_iconst (v := 0) hx hb dX2_pairToPull_163 (by decide) ?_
    exact w_X2_pairToPull_164 C hr hlk Z hg hX41 hX72 (lv_sub hl [1, 2, 3, 4, 5, 6, 7, 8, 9, 10, 0] rfl) hB
  · have hB := hB.2 q25
    refine lv_iconst (v := 1) hx hb dX2_pairToPull_159 (by decide) ?_
    refine lv_goto (tgt := 164) hx hb dX2_pairToPull_160 (by decide) ?_
    exact w_X2_pairToPull_164 C hr hlk Z hg hX41 hX72 (lv_sub hl [1, 2, 3, 4, 5, 6, 7, 8, 9, 10, 0] rfl) hB
set_option maxRecDepth 100000 in
set_option maxHeartbeats 4000000 in
theorem w_X2_pairToPull_134 {K : Nat} {g : Nat} {M : Mem} {Q1 : Int32 → Mem → Prop} {X41 : Int32 → Int32 → Mem → Prop} {X72 : Int32 → Int32 → Mem → Prop} {x1 : Int32} {x2 : Int32} {x3 : Int32} {x4 : Int32} {x5 : Int32} {x6 : Int32} {x7 : Int32} {x8 : Int32} {x9 : Int32} {s0 : Int32} (C : Cx T D p s m args c cX2_pairToPull 13 "OneOfTwo$House") (hr : meth.sig.returnType = (some .int)) (hlk : meth.locks = false) (Z : Zz EC T D ad (69 + K) A s.heap M H locs) (hg : isH g) (hX41 : ∀ (x5 : Int32) (x6 : Int32) (M : Mem), X41 x5 x6 M → ∀ (H : Heap) (locs : List Loc) (ls : Array Slot), Zz EC T D ad (69 + K) A s.heap M H locs → lv_has ls 13 [(0, .ref (ad g)), (1, .int x1), (2, .int x2), (3, .int x3), (4, .int x4), (5, .int x5), (6, .int x6)] → W p l e (RM 4) s m args below meth c H locs 0 0 (MQ below (QcW EC T D ad (69 + K) A Q1) args s 0 0 A) (F0 m 41 ls [])) (hX72 : ∀ (x5 : Int32) (x8 : Int32) (M : Mem), X72 x5 x8 M → ∀ (H : Heap) (locs : List Loc) (ls : Array Slot), Zz EC T D ad (69 + K) A s.heap M H locs → lv_has ls 13 [(0, .ref (ad g)), (1, .int x1), (2, .int x2), (3, .int x3), (4, .int x4), (5, .int x5), (6, .int x6), (7, .int x7), (8, .int x8)] → W p l e (RM 4) s m args below meth c H locs 0 0 (MQ below (QcW EC T D ad (69 + K) A Q1) args s 0 0 A) (F0 m 72 ls [])) {ls : Array Slot} (hl : lv_has ls 13 [(0, .ref (ad g)), (1, .int x1), (2, .int x2), (3, .int x3), (4, .int x4), (5, .int x5), (6, .int x6), (7, .int x7), (8, .int x8), (9, .int x9)]) (hB : B_X2_pairToPull_134 K g Q1 X41 X72 x1 x2 x3 x4 x5 x6 x7 x8 x9 s0 M) : W p l e (RM 4) s m args below meth c H locs 0 0 (MQ below (QcW EC T D ad (69 + K) A Q1) args s 0 0 A) (F0 m 134 ls [.int s0]) := by
  have hx := C.x
  have hb := C.b
  delta B_X2_pairToPull_134 at hB
  refine v_X2_ofOne C.1 hl.1 tw_4_33 ⟨Nat.le_of_ble_eq_true rfl, Nat.le_of_ble_eq_true rfl⟩ ⟨Nat.le_refl _, Nat.le_refl _⟩ (Nat.le_of_ble_eq_true rfl) dX2_pairToPull_134 hB (fun v21 hB => ?_)
  refine lv_iload hx hb dX2_pairToPull_137 (lv_at hl 9 rfl) ?_
  refine lv_if_ne (tgt := 146) hx hb dX2_pairToPull_139 (by decide) (fun q22 => ?_) (fun q22 => ?_)
  · have hB := hB.1 q22
    refine lv_iconst (v := 0) hx hb dX2_pairToPull_146 (by decide) ?_
    exact w_X2_pairToPull_147 C hr hlk Z hg hX41 hX72 (lv_sub hl [0, 1, 2, 3, 4, 5, 6, 7, 8, 9] rfl) hB
  · have hB := hB.2 q22
    refine lv_iconst (v := 1) hx hb dX2_pairToPull_142 (by decide) ?_
    refine lv_goto (tgt := 147) hx hb dX2_pairToPull_143 (by decide) ?_
    exact w_X2_pairToPull_147 C hr hlk Z hg hX41 hX72 (lv_sub hl [0, 1, 2, 3, 4, 5, 6, 7, 8, 9] rfl) hB
set_option maxRecDepth 100000 in
set_option maxHeartbeats 4000000 in
theorem w_X2_pairToPull_110 {K : Nat} {g : Nat} {M : Mem} {Q1 : Int32 → Mem → Prop} {X41 : Int32 → Int32 → Mem → Prop} {X72 : Int32 → Int32 → Mem → Prop} {x1 : Int32} {x2 : Int32} {x3 : Int32} {x4 : Int32} {x5 : Int32} {x6 : Int32} {x7 : Int32} {x8 : Int32} {x9 : Int32} (C : Cx T D p s m args c cX2_pairToPull 13 "OneOfTwo$House") (hr : meth.sig.returnType = (some .int)) (hlk : meth.locks = false) (Z : Zz EC T D ad (69 + K) A s.heap M H locs) (hg : isH g) (hX41 : ∀ (x5 : Int32) (x6 : Int32) (M : Mem), X41 x5 x6 M → ∀ (H : Heap) (locs : List Loc) (ls : Array Slot), Zz EC T D ad (69 + K) A s.heap M H locs → lv_has ls 13 [(0, .ref (ad g)), (1, .int x1), (2, .int x2), (3, .int x3), (4, .int x4), (5, .int x5), (6, .int x6)] → W p l e (RM 4) s m args below meth c H locs 0 0 (MQ below (QcW EC T D ad (69 + K) A Q1) args s 0 0 A) (F0 m 41 ls [])) (hX72 : ∀ (x5 : Int32) (x8 : Int32) (M : Mem), X72 x5 x8 M → ∀ (H : Heap) (locs : List Loc) (ls : Array Slot), Zz EC T D ad (69 + K) A s.heap M H locs → lv_has ls 13 [(0, .ref (ad g)), (1, .int x1), (2, .int x2), (3, .int x3), (4, .int x4), (5, .int x5), (6, .int x6), (7, .int x7), (8, .int x8)] → W p l e (RM 4) s m args below meth c H locs 0 0 (MQ below (QcW EC T D ad (69 + K) A Q1) args s 0 0 A) (F0 m 72 ls [])) {ls : Array Slot} (hl : lv_has ls 13 [(0, .ref (ad g)), (1, .int x1), (2, .int x2), (3, .int x3), (4, .int x4), (5, .int x5), (6, .int x6), (7, .int x7), (8, .int x8), (9, .int x9)]) (hB : B_X2_pairToPull_110 K g Q1 X41 X72 x1 x2 x3 x4 x5 x6 x7 x8 x9 M) : W p l e (RM 4) s m args below meth c H locs 0 0 (MQ below (QcW EC T D ad (69 + K) A Q1) args s 0 0 A) (F0 m 110 ls []) := by
  have hx := C.x
  have hb := C.b
  delta B_X2_pairToPull_110 at hB
  refine lv_aload_n hx hb dX2_pairToPull_110 rfl (lv_at hl 0 rfl) ?_
  refine lv_iload hx hb dX2_pairToPull_111 (lv_at hl 6 rfl) ?_
  refine lv_iload hx hb dX2_pairToPull_113 (lv_at hl 8 rfl) ?_
  refine v_X2_canPull C hl.1 Z.1 hg tw_4_32 ⟨Nat.le_of_ble_eq_true rfl, Nat.le_of_ble_eq_true rfl⟩ ⟨Nat.le_refl _, Nat.le_refl _⟩ (Nat.le_of_ble_eq_true rfl) dX2_pairToPull_115 hB (fun v18 hB => ?_)
  refine lv_if_ne (tgt := 124) hx hb dX2_pairToPull_118 (by decide) (fun q19 => ?_) (fun q19 => ?_)
  · have hB := hB.1 q19
    refine lv_iload hx hb dX2_pairToPull_124 (lv_at hl 7 rfl) ?_
    refine lv_if_ne (tgt := 133) hx hb dX2_pairToPull_126 (by decide) (fun q20 => ?_) (fun q20 => ?_)
    · have hB := hB.1 q20
      refine lv_iconst (v := 0) hx hb dX2_pairToPull_133 (by decide) ?_
      exact w_X2_pairToPull_134 C hr hlk Z hg hX41 hX72 (lv_sub hl [0, 1, 2, 3, 4, 5, 6, 7, 8, 9] rfl) hB
    · have hB := hB.2 q20
      refine lv_iconst (v := 1) hx hb dX2_pairToPull_129 (by decide) ?_
      refine lv_goto (tgt := 134) hx hb dX2_pairToPull_130 (by decide) ?_
      exact w_X2_pairToPull_134 C hr hlk Z hg hX41 hX72 (lv_sub hl [0, 1, 2, 3, 4, 5, 6, 7, 8, 9] rfl) hB
  · have hB := hB.2 q19
    refine lv_goto (tgt := 244) hx hb dX2_pairToPull_121 (by decide) ?_
    obtain ⟨x8_41, ex8_41⟩ : ∃ y : Int32, y = x8 + 1 := ⟨_, rfl⟩
    have hB := hB x8_41 ex8_41
    refine lv_iinc (v := x8_41) (lv' := [(8, .int x8_41), (0, .ref (ad g)), (1, .int x1), (2, .int x2), (3, .int x3), (4, .int x4), (5, .int x5), (6, .int x6), (7, .int x7), (9, .int x9)]) hx hb dX2_pairToPull_244 hl (k := 8) rfl (by rw [ex8_41]; rfl) (by decide) rfl (fun ls hl => ?_)
    refine lv_goto (tgt := 72) hx hb dX2_pairToPull_247 (by decide) ?_
    exact hX72 _ _ _ hB _ _ _ Z (lv_sub hl [1, 2, 3, 4, 5, 6, 7, 8, 0] rfl)
set_option maxRecDepth 100000 in
set_option maxHeartbeats 4000000 in
theorem w_X2_pairToPull_72 {K : Nat} {g : Nat} {M : Mem} {Q1 : Int32 → Mem → Prop} {X41 : Int32 → Int32 → Mem → Prop} {x1 : Int32} {x2 : Int32} {x3 : Int32} {x4 : Int32} {x5 : Int32} {x6 : Int32} {x7 : Int32} {x8 : Int32} (C : Cx T D p s m args c cX2_pairToPull 13 "OneOfTwo$House") (hr : meth.sig.returnType = (some .int)) (hlk : meth.locks = false) (Z : Zz EC T D ad (69 + K) A s.heap M H locs) (hg : isH g) (hX41 : ∀ (x5 : Int32) (x6 : Int32) (M : Mem), X41 x5 x6 M → ∀ (H : Heap) (locs : List Loc) (ls : Array Slot), Zz EC T D ad (69 + K) A s.heap M H locs → lv_has ls 13 [(0, .ref (ad g)), (1, .int x1), (2, .int x2), (3, .int x3), (4, .int x4), (5, .int x5), (6, .int x6)] → W p l e (RM 4) s m args below meth c H locs 0 0 (MQ below (QcW EC T D ad (69 + K) A Q1) args s 0 0 A) (F0 m 41 ls [])) {ls : Array Slot} (hl : lv_has ls 13 [(0, .ref (ad g)), (1, .int x1), (2, .int x2), (3, .int x3), (4, .int x4), (5, .int x5), (6, .int x6), (7, .int x7), (8, .int x8)]) (hB : B_X2_pairToPull_72 K g Q1 X41 x1 x2 x3 x4 x5 x6 x7 x8 M) : W p l e (RM 4) s m args below meth c H locs 0 0 (MQ below (QcW EC T D ad (69 + K) A Q1) args s 0 0 A) (F0 m 72 ls []) := by
  delta B_X2_pairToPull_72 at hB
  obtain ⟨X72, hX72, hY72⟩ : ∃ X72 : Int32 → Int32 → Mem → Prop, (∀ (x5 : Int32) (x8 : Int32) (M : Mem), X72 x5 x8 M → ∀ (H : Heap) (locs : List Loc) (ls : Array Slot), Zz EC T D ad (69 + K) A s.heap M H locs → lv_has ls 13 [(0, .ref (ad g)), (1, .int x1), (2, .int x2), (3, .int x3), (4, .int x4), (5, .int x5), (6, .int x6), (7, .int x7), (8, .int x8)] → W p l e (RM 4) s m args below meth c H locs 0 0 (MQ below (QcW EC T D ad (69 + K) A Q1) args s 0 0 A) (F0 m 72 ls [])) ∧ (∀ (x5 : Int32) (x8 : Int32) (M : Mem), (∀ (H : Heap) (locs : List Loc) (ls : Array Slot), Zz EC T D ad (69 + K) A s.heap M H locs → lv_has ls 13 [(0, .ref (ad g)), (1, .int x1), (2, .int x2), (3, .int x3), (4, .int x4), (5, .int x5), (6, .int x6), (7, .int x7), (8, .int x8)] → W p l e (RM 4) s m args below meth c H locs 0 0 (MQ below (QcW EC T D ad (69 + K) A Q1) args s 0 0 A) (F0 m 72 ls [])) → X72 x5 x8 M) := ⟨fun (x5 : Int32) (x8 : Int32) (M : Mem) => ∀ (H : Heap) (locs : List Loc) (ls : Array Slot), Zz EC T D ad (69 + K) A s.heap M H locs → lv_has ls 13 [(0, .ref (ad g)), (1, .int x1), (2, .int x2), (3, .int x3), (4, .int x4), (5, .int x5), (6, .int x6), (7, .int x7), (8, .int x8)] → W p l e (RM 4) s m args below meth c H locs 0 0 (MQ below (QcW EC T D ad (69 + K) A Q1) args s 0 0 A) (F0 m 72 ls []), fun _ _ _ h => h, fun _ _ _ h => h⟩
  refine hX72 _ _ _ (hB X72 (fun x5 x8 M hB => hY72 _ _ _ (fun H locs ls Z hl => ?_))) _ _ _ Z hl
  have hx := C.x
  have hb := C.b
  refine lv_iload hx hb dX2_pairToPull_72 (lv_at hl 8 rfl) ?_
  refine lv_aload_n hx hb dX2_pairToPull_74 rfl (lv_at hl 0 rfl) ?_
  refine gf_X2_0 C Z.1 hg tw_1_127 dX2_pairToPull_75 ?_
  refine lv_icmp_ge (tgt := 250) hx hb dX2_pairToPull_78 (by decide) (fun q12 => ?_) (fun q12 => ?_)
  · have hB := hB.1 q12
    obtain ⟨x6_13, ex6_13⟩ : ∃ y : Int32, y = x6 + 1 := ⟨_, rfl⟩
    have hB := hB x6_13 ex6_13
    refine lv_iinc (v := x6_13) (lv' := [(6, .int x6_13), (0, .ref (ad g)), (1, .int x1), (2, .int x2), (3, .int x3), (4, .int x4), (5, .int x5), (7, .int x7), (8, .int x8)]) hx hb dX2_pairToPull_250 hl (k := 6) rfl (by rw [ex6_13]; rfl) (by decide) rfl (fun ls hl => ?_)
    refine lv_goto (tgt := 41) hx hb dX2_pairToPull_253 (by decide) ?_
    exact hX41 _ _ _ hB _ _ _ Z (lv_sub hl [1, 2, 3, 4, 5, 6, 0] rfl)
  · have hB := hB.2 q12
    refine lv_aload_n hx hb dX2_pairToPull_81 rfl (lv_at hl 0 rfl) ?_
    refine gf_X2_3 C Z.1 hg tw_1_136 dX2_pairToPull_82 ?_
    refine lv_iload hx hb dX2_pairToPull_85 (lv_at hl 8 rfl) ?_
    obtain ⟨q14, hB⟩ := hB
    refine a_ld C Z.1 (aH_1 hg) q14 dX2_pairToPull_87 ?_
    refine lv_aload_n hx hb dX2_pairToPull_88 rfl (lv_at hl 0 rfl) ?_
    refine gf_X2_9 C Z.1 hg tw_1_152 dX2_pairToPull_89 ?_
    refine lv_iload_n hx hb dX2_pairToPull_92 rfl (lv_at hl 1 rfl) ?_
    obtain ⟨q15, hB⟩ := hB
    refine a_ld C Z.1 (aH_7 hg) q15 dX2_pairToPull_93 ?_
    refine lv_isub hx hb dX2_pairToPull_94 ?_
    refine m_abs C.1 hl.1 tw_4_29 (Nat.le_of_ble_eq_true rfl) (Nat.le_of_ble_eq_true rfl) dX2_pairToPull_95 ?_
    refine lv_topi (fun v16 ev16 => ?_)
    have hB := hB v16 ev16
    refine lv_istore (lv' := [(9, .int v16), (0, .ref (ad g)), (1, .int x1), (2, .int x2), (3, .int x3), (4, .int x4), (5, .int x5), (6, .int x6), (7, .int x7), (8, .int x8)]) hx hb dX2_pairToPull_98 hl (by decide) rfl (fun ls hl => ?_)
    refine lv_iload hx hb dX2_pairToPull_100 (lv_at hl 8 rfl) ?_
    refine lv_if_eq (tgt := 110) hx hb dX2_pairToPull_102 (by decide) (fun q17 => ?_) (fun q17 => ?_)
    · have hB := hB.1 q17
      exact w_X2_pairToPull_110 C hr hlk Z hg hX41 hX72 (lv_sub hl [1, 2, 3, 4, 5, 6, 7, 8, 9, 0] rfl) hB
    · have hB := hB.2 q17
      refine lv_iload hx hb dX2_pairToPull_105 (lv_at hl 0 rfl) ?_
      refine lv_if_ne (tgt := 244) hx hb dX2_pairToPull_107 (by decide) (fun q42 => ?_) (fun q42 => ?_)
      · have hB := hB.1 q42
        obtain ⟨x8_43, ex8_43⟩ : ∃ y : Int32, y = x8 + 1 := ⟨_, rfl⟩
        have hB := hB x8_43 ex8_43
        refine lv_iinc (v := x8_43) (lv' := [(8, .int x8_43), (9, .int v16), (0, .ref (ad g)), (1, .int x1), (2, .int x2), (3, .int x3), (4, .int x4), (5, .int x5), (6, .int x6), (7, .int x7)]) hx hb dX2_pairToPull_244 hl (k := 9) rfl (by rw [ex8_43]; rfl) (by decide) rfl (fun ls hl => ?_)
        refine lv_goto (tgt := 72) hx hb dX2_pairToPull_247 (by decide) ?_
        exact hX72 _ _ _ hB _ _ _ Z (lv_sub hl [2, 3, 4, 5, 6, 7, 8, 9, 0] rfl)
      · have hB := hB.2 q42
        exact w_X2_pairToPull_110 C hr hlk Z hg hX41 hX72 (lv_sub hl [1, 2, 3, 4, 5, 6, 7, 8, 9, 0] rfl) hB
set_option maxRecDepth 100000 in
set_option maxHeartbeats 4000000 in
theorem w_X2_pairToPull_41 {K : Nat} {g : Nat} {M : Mem} {Q1 : Int32 → Mem → Prop} {x1 : Int32} {x2 : Int32} {x3 : Int32} {x4 : Int32} {x5 : Int32} {x6 : Int32} (C : Cx T D p s m args c cX2_pairToPull 13 "OneOfTwo$House") (hr : meth.sig.returnType = (some .int)) (hlk : meth.locks = false) (Z : Zz EC T D ad (69 + K) A s.heap M H locs) (hg : isH g) {ls : Array Slot} (hl : lv_has ls 13 [(0, .ref (ad g)), (1, .int x1), (2, .int x2), (3, .int x3), (4, .int x4), (5, .int x5), (6, .int x6)]) (hB : B_X2_pairToPull_41 K g Q1 x1 x2 x3 x4 x5 x6 M) : W p l e (RM 4) s m args below meth c H locs 0 0 (MQ below (QcW EC T D ad (69 + K) A Q1) args s 0 0 A) (F0 m 41 ls []) := by
  delta B_X2_pairToPull_41 at hB
  obtain ⟨X41, hX41, hY41⟩ : ∃ X41 : Int32 → Int32 → Mem → Prop, (∀ (x5 : Int32) (x6 : Int32) (M : Mem), X41 x5 x6 M → ∀ (H : Heap) (locs : List Loc) (ls : Array Slot), Zz EC T D ad (69 + K) A s.heap M H locs → lv_has ls 13 [(0, .ref (ad g)), (1, .int x1), (2, .int x2), (3, .int x3), (4, .int x4), (5, .int x5), (6, .int x6)] → W p l e (RM 4) s m args below meth c H locs 0 0 (MQ below (QcW EC T D ad (69 + K) A Q1) args s 0 0 A) (F0 m 41 ls [])) ∧ (∀ (x5 : Int32) (x6 : Int32) (M : Mem), (∀ (H : Heap) (locs : List Loc) (ls : Array Slot), Zz EC T D ad (69 + K) A s.heap M H locs → lv_has ls 13 [(0, .ref (ad g)), (1, .int x1), (2, .int x2), (3, .int x3), (4, .int x4), (5, .int x5), (6, .int x6)] → W p l e (RM 4) s m args below meth c H locs 0 0 (MQ below (QcW EC T D ad (69 + K) A Q1) args s 0 0 A) (F0 m 41 ls [])) → X41 x5 x6 M) := ⟨fun (x5 : Int32) (x6 : Int32) (M : Mem) => ∀ (H : Heap) (locs : List Loc) (ls : Array Slot), Zz EC T D ad (69 + K) A s.heap M H locs → lv_has ls 13 [(0, .ref (ad g)), (1, .int x1), (2, .int x2), (3, .int x3), (4, .int x4), (5, .int x5), (6, .int x6)] → W p l e (RM 4) s m args below meth c H locs 0 0 (MQ below (QcW EC T D ad (69 + K) A Q1) args s 0 0 A) (F0 m 41 ls []), fun _ _ _ h => h, fun _ _ _ h => h⟩
  refine hX41 _ _ _ (hB X41 (fun x5 x6 M hB => hY41 _ _ _ (fun H locs ls Z hl => ?_))) _ _ _ Z hl
  have hx := C.x
  have hb := C.b
  refine lv_iload hx hb dX2_pairToPull_41 (lv_at hl 6 rfl) ?_
  refine lv_aload_n hx hb dX2_pairToPull_43 rfl (lv_at hl 0 rfl) ?_
  refine gf_X2_0 C Z.1 hg tw_1_127 dX2_pairToPull_44 ?_
  refine lv_icmp_ge (tgt := 256) hx hb dX2_pairToPull_47 (by decide) (fun q8 => ?_) (fun q8 => ?_)
  · have hB := hB.1 q8
    refine lv_iload hx hb dX2_pairToPull_256 (lv_at hl 5 rfl) ?_
    exact e_iW C hr hlk Z dX2_pairToPull_258 hB
  · have hB := hB.2 q8
    refine lv_aload_n hx hb dX2_pairToPull_50 rfl (lv_at hl 0 rfl) ?_
    refine gf_X2_3 C Z.1 hg tw_1_136 dX2_pairToPull_51 ?_
    refine lv_iload hx hb dX2_pairToPull_54 (lv_at hl 6 rfl) ?_
    obtain ⟨q9, hB⟩ := hB
    refine a_ld C Z.1 (aH_1 hg) q9 dX2_pairToPull_56 ?_
    refine lv_aload_n hx hb dX2_pairToPull_57 rfl (lv_at hl 0 rfl) ?_
    refine gf_X2_9 C Z.1 hg tw_1_152 dX2_pairToPull_58 ?_
    refine lv_iload_n hx hb dX2_pairToPull_61 rfl (lv_at hl 1 rfl) ?_
    obtain ⟨q10, hB⟩ := hB
    refine a_ld C Z.1 (aH_7 hg) q10 dX2_pairToPull_62 ?_
    refine lv_isub hx hb dX2_pairToPull_63 ?_
    refine m_abs C.1 hl.1 tw_4_29 (Nat.le_of_ble_eq_true rfl) (Nat.le_of_ble_eq_true rfl) dX2_pairToPull_64 ?_
    refine lv_topi (fun v11 ev11 => ?_)
    have hB := hB v11 ev11
    refine lv_istore (lv' := [(7, .int v11), (0, .ref (ad g)), (1, .int x1), (2, .int x2), (3, .int x3), (4, .int x4), (5, .int x5), (6, .int x6)]) hx hb dX2_pairToPull_67 hl (by decide) rfl (fun ls hl => ?_)
    refine lv_iconst (v := 0) hx hb dX2_pairToPull_69 (by decide) ?_
    refine lv_istore (lv' := [(8, .int 0), (7, .int v11), (0, .ref (ad g)), (1, .int x1), (2, .int x2), (3, .int x3), (4, .int x4), (5, .int x5), (6, .int x6)]) hx hb dX2_pairToPull_70 hl (by decide) rfl (fun ls hl => ?_)
    exact w_X2_pairToPull_72 C hr hlk Z hg hX41 (lv_sub hl [2, 3, 4, 5, 6, 7, 8, 1, 0] rfl) hB
set_option maxRecDepth 100000 in
set_option maxHeartbeats 4000000 in
theorem c_X2_pairToPull {l : Launch} {T : Nat → ClassId} {D : va_G} {ad : Nat → Nat} {K : Nat} {M : Mem} {g : Nat} {x1 : Int32} {sz : Nat} {Q1 : Int32 → Mem → Prop} (hg : isH g) (hB : P_X2_pairToPull K M g x1 Q1) : Met l yX2_pairToPull (Cond.code yX2_pairToPull cX2_pairToPull 13 (some .int) :: TB) (RM 4) (va_Pc [.ref (ad g), .int x1] (WrP EC T D ad (69 + K) M sz)) (QcW EC T D ad (69 + K) (AA ad (69 + K) sz) Q1) 0 0 (AA ad (69 + K) sz) := by
  refine st_W (by decide) (Nat.le_of_ble_eq_true rfl) (fun p e s m args below meth c ls C hr hlk hsz Z hl => ?_)
  have hl : lv_has ls 13 [(0, .ref (ad g)), (1, .int x1)] := hl
  generalize AA ad (69 + K) sz = A at Z ⊢
  have hx := C.x
  have hb := C.b
  delta P_X2_pairToPull at hB
  refine lv_aload_n hx hb dX2_pairToPull_0 rfl (lv_at hl 0 rfl) ?_
  refine lv_aload_n hx hb dX2_pairToPull_1 rfl (lv_at hl 0 rfl) ?_
  refine gf_X2_9 C Z.1 hg tw_1_152 dX2_pairToPull_2 ?_
  refine lv_iload_n hx hb dX2_pairToPull_5 rfl (lv_at hl 1 rfl) ?_
  obtain ⟨q1, hB⟩ := hB
  refine a_ld C Z.1 (aH_7 hg) q1 dX2_pairToPull_6 ?_
  refine v_X2_openIn C hl.1 Z.1 hg tw_2_151 ⟨Nat.le_of_ble_eq_true rfl, Nat.le_of_ble_eq_true rfl⟩ ⟨Nat.le_refl _, Nat.le_refl _⟩ (Nat.le_of_ble_eq_true rfl) dX2_pairToPull_7 hB (fun v2 hB => ?_)
  refine lv_istore_n (lv' := [(2, .int v2), (0, .ref (ad g)), (1, .int x1)]) hx hb dX2_pairToPull_10 rfl hl (by decide) rfl (fun ls hl => ?_)
  refine lv_aload_n hx hb dX2_pairToPull_11 rfl (lv_at hl 1 rfl) ?_
  refine lv_aload_n hx hb dX2_pairToPull_12 rfl (lv_at hl 1 rfl) ?_
  refine gf_X2_9 C Z.1 hg tw_1_152 dX2_pairToPull_13 ?_
  refine lv_iload_n hx hb dX2_pairToPull_16 rfl (lv_at hl 2 rfl) ?_
  obtain ⟨q3, hB⟩ := hB
  refine a_ld C Z.1 (aH_7 hg) q3 dX2_pairToPull_17 ?_
  refine v_X2_openBeside C hl.1 Z.1 hg tw_2_155 ⟨Nat.le_of_ble_eq_true rfl, Nat.le_of_ble_eq_true rfl⟩ ⟨Nat.le_refl _, Nat.le_refl _⟩ (Nat.le_of_ble_eq_true rfl) dX2_pairToPull_18 hB (fun v4 hB => ?_)
  refine lv_istore_n (lv' := [(3, .int v4), (2, .int v2), (0, .ref (ad g)), (1, .int x1)]) hx hb dX2_pairToPull_21 rfl hl (by decide) rfl (fun ls hl => ?_)
  refine lv_aload_n hx hb dX2_pairToPull_22 rfl (lv_at hl 2 rfl) ?_
  refine lv_iload_n hx hb dX2_pairToPull_23 rfl (lv_at hl 3 rfl) ?_
  refine lv_aload_n hx hb dX2_pairToPull_24 rfl (lv_at hl 2 rfl) ?_
  refine lv_iload_n hx hb dX2_pairToPull_25 rfl (lv_at hl 1 rfl) ?_
  refine lv_iload_n hx hb dX2_pairToPull_26 rfl (lv_at hl 0 rfl) ?_
  refine v_X2_airBy C hl.1 Z hg tw_2_159 ⟨Nat.le_of_ble_eq_true rfl, Nat.le_of_ble_eq_true rfl⟩ ⟨Nat.le_refl _, Nat.le_refl _⟩ (Nat.le_of_ble_eq_true rfl) dX2_pairToPull_27 hB (fun v5 M6 H locs hB Z => ?_)
  refine v_X2_farFromWanted C hl.1 Z.1 hg tw_4_25 ⟨Nat.le_of_ble_eq_true rfl, Nat.le_of_ble_eq_true rfl⟩ ⟨Nat.le_refl _, Nat.le_refl _⟩ (Nat.le_of_ble_eq_true rfl) dX2_pairToPull_30 hB (fun v7 hB => ?_)
  refine lv_istore (lv' := [(4, .int v7), (3, .int v4), (2, .int v2), (0, .ref (ad g)), (1, .int x1)]) hx hb dX2_pairToPull_33 hl (by decide) rfl (fun ls hl => ?_)
  refine lv_iconst (v := (-1)) hx hb dX2_pairToPull_35 (by decide) ?_
  refine lv_istore (lv' := [(5, .int (-1)), (4, .int v7), (3, .int v4), (2, .int v2), (0, .ref (ad g)), (1, .int x1)]) hx hb dX2_pairToPull_36 hl (by decide) rfl (fun ls hl => ?_)
  refine lv_iconst (v := 0) hx hb dX2_pairToPull_38 (by decide) ?_
  refine lv_istore (lv' := [(6, .int 0), (5, .int (-1)), (4, .int v7), (3, .int v4), (2, .int v2), (0, .ref (ad g)), (1, .int x1)]) hx hb dX2_pairToPull_39 hl (by decide) rfl (fun ls hl => ?_)
  exact w_X2_pairToPull_41 C hr hlk Z hg (lv_sub hl [5, 6, 4, 3, 2, 1, 0] rfl) hB
set_option maxRecDepth 100000 in
set_option maxHeartbeats 4000000 in
theorem v_X2_pairToPull {K : Nat} {M : Mem} {g : Nat} {x1 : Int32} {Q1 : Int32 → Mem → Prop} (C : Cx T D p s m args c cc nL own) (hls : ls.size = nL) (Z : Zz EC T D ad (69 + K) A H0 M H locs) (hg : isH g) (hlink : Cond.methodLink own index yX2_pairToPull ∈ TB) (hR : 4 + 1 ≤ R.frames ∧ 8 + (13 + 11) + 48 * 4 ≤ R.locals) (hcs : cells ≤ R.cells ∧ slots ≤ R.slots) (hcat : (rest.map fun v => v.category).sum ≤ 8) (hdg : decode cc pc = .ok (.invokevirtual index, 3)) (hB : P_X2_pairToPull K M g x1 Q1)
    (kk : ∀ (r : Int32) (M1 : Mem) (H1 : Heap) (locs1 : List Loc), Q1 r M1 → Zz EC T D ad (69 + K) A H0 M1 H1 locs1 → W p l e R s m args below meth c H1 locs1 cells slots QQ (F0 m (pc + 3) ls (.int r :: rest))) : W p l e R s m args below meth c H locs cells slots QQ (F0 m pc ls (.int x1 :: .ref (ad g) :: rest)) :=
  k_VW (ci := 2) (n := 1) (c_X2_pairToPull hg hB) tw_4_24 tw_4_22 tw_4_23 tw_1_10 ⟨rfl, by decide, by decide, by decide +kernel⟩ rfl rfl C hls Z (oH hg) hlink hR hcs hcat rfl hdg kk
def B_X2_turnOf_29 (K : Nat) (g : Nat) (Q1 : Int32 → Mem → Prop) (x1 : Int32) (x2 : Int32) (x3 : Int32) (M : Mem) : Prop :=
  ∀ X29 : Int32 → Mem → Prop, (∀ (x3 : Int32) (M : Mem), (((x2 ≤ x3 → Q1 x3 M) ∧
    (¬ x2 ≤ x3 → P_X2_pairToPull K M g x1 (fun v11 M12 => ((0 ≤ v11 → P_X2_pullBy K M12 g (v11 / 8) (v11 - v11 / 8 * 8) (fun M14 => ∀ x3_15 : Int32, x3_15 = x3 + 1 → P_X2_isContent K M14 g x1 (fun v16 M17 => ((v16 = 0 → X29 x3_15 M17) ∧
        (¬ v16 = 0 → Q1 x3_15 M17))))) ∧
      (¬ 0 ≤ v11 → Q1 x3 M12)))))) → X29 x3 M) → X29 x3 M
def P_X2_turnOf (K : Nat) (M : Mem) (g : Nat) (x1 : Int32) (Q1 : Int32 → Mem → Prop) : Prop :=
  P_X2_isLocked K M g (fun v1 => ((¬ v1 = 0 → Q1 0 M) ∧
    (v1 = 0 → P_X2_isContent K M g x1 (fun v3 M4 => ((v3 = 0 → vp_in x1 6 ∧ ∀ u7 : Int32, u7 = M4 (g + 5) x1.toNatClampNeg → isKd_X3 u7 ∧ P_L_X3_strength K M4 u7 (fun v9 => B_X2_turnOf_29 K g Q1 x1 v9 0 M4)) ∧
      (¬ v3 = 0 → Q1 0 M4))))))
set_option maxRecDepth 100000 in
set_option maxHeartbeats 4000000 in
theorem w_X2_turnOf_29 {K : Nat} {g : Nat} {M : Mem} {Q1 : Int32 → Mem → Prop} {x1 : Int32} {x2 : Int32} {x3 : Int32} (C : Cx T D p s m args c cX2_turnOf 5 "OneOfTwo$House") (hr : meth.sig.returnType = (some .int)) (hlk : meth.locks = false) (Z : Zz EC T D ad (69 + K) A s.heap M H locs) (hg : isH g) {ls : Array Slot} (hl : lv_has ls 5 [(0, .ref (ad g)), (1, .int x1), (2, .int x2), (3, .int x3)]) (hB : B_X2_turnOf_29 K g Q1 x1 x2 x3 M) : W p l e (RM 5) s m args below meth c H locs 0 0 (MQ below (QcW EC T D ad (69 + K) A Q1) args s 0 0 A) (F0 m 29 ls []) := by
  delta B_X2_turnOf_29 at hB
  obtain ⟨X29, hX29, hY29⟩ : ∃ X29 : Int32 → Mem → Prop, (∀ (x3 : Int32) (M : Mem), X29 x3 M → ∀ (H : Heap) (locs : List Loc) (ls : Array Slot), Zz EC T D ad (69 + K) A s.heap M H locs → lv_has ls 5 [(0, .ref (ad g)), (1, .int x1), (2, .int x2), (3, .int x3)] → W p l e (RM 5) s m args below meth c H locs 0 0 (MQ below (QcW EC T D ad (69 + K) A Q1) args s 0 0 A) (F0 m 29 ls [])) ∧ (∀ (x3 : Int32) (M : Mem), (∀ (H : Heap) (locs : List Loc) (ls : Array Slot), Zz EC T D ad (69 + K) A s.heap M H locs → lv_has ls 5 [(0, .ref (ad g)), (1, .int x1), (2, .int x2), (3, .int x3)] → W p l e (RM 5) s m args below meth c H locs 0 0 (MQ below (QcW EC T D ad (69 + K) A Q1) args s 0 0 A) (F0 m 29 ls [])) → X29 x3 M) := ⟨fun (x3 : Int32) (M : Mem) => ∀ (H : Heap) (locs : List Loc) (ls : Array Slot), Zz EC T D ad (69 + K) A s.heap M H locs → lv_has ls 5 [(0, .ref (ad g)), (1, .int x1), (2, .int x2), (3, .int x3)] → W p l e (RM 5) s m args below meth c H locs 0 0 (MQ below (QcW EC T D ad (69 + K) A Q1) args s 0 0 A) (F0 m 29 ls []), fun _ _ h => h, fun _ _ h => h⟩
  refine hX29 _ _ (hB X29 (fun x3 M hB => hY29 _ _ (fun H locs ls Z hl => ?_))) _ _ _ Z hl
  have hx := C.x
  have hb := C.b
  refine lv_iload_n hx hb dX2_turnOf_29 rfl (lv_at hl 3 rfl) ?_
  refine lv_iload_n hx hb dX2_turnOf_30 rfl (lv_at hl 2 rfl) ?_
  refine lv_icmp_ge (tgt := 78) hx hb dX2_turnOf_31 (by decide) (fun q10 => ?_) (fun q10 => ?_)
  · have hB := hB.1 q10
    refine lv_iload_n hx hb dX2_turnOf_78 rfl (lv_at hl 3 rfl) ?_
    exact e_iW C hr hlk Z dX2_turnOf_79 hB
  · have hB := hB.2 q10
    refine lv_aload_n hx hb dX2_turnOf_34 rfl (lv_at hl 0 rfl) ?_
    refine lv_iload_n hx hb dX2_turnOf_35 rfl (lv_at hl 1 rfl) ?_
    refine v_X2_pairToPull C hl.1 Z hg tw_4_21 ⟨Nat.le_of_ble_eq_true rfl, Nat.le_of_ble_eq_true rfl⟩ ⟨Nat.le_refl _, Nat.le_refl _⟩ (Nat.le_of_ble_eq_true rfl) dX2_turnOf_36 hB (fun v11 M12 H locs hB Z => ?_)
    refine lv_istore (lv' := [(4, .int v11), (0, .ref (ad g)), (1, .int x1), (2, .int x2), (3, .int x3)]) hx hb dX2_turnOf_39 hl (by decide) rfl (fun ls hl => ?_)
    refine lv_iload hx hb dX2_turnOf_41 (lv_at hl 0 rfl) ?_
    refine lv_if_ge (tgt := 48) hx hb dX2_turnOf_43 (by decide) (fun q13 => ?_) (fun q13 => ?_)
    · have hB := hB.1 q13
      refine lv_aload_n hx hb dX2_turnOf_48 rfl (lv_at hl 1 rfl) ?_
      refine lv_iload hx hb dX2_turnOf_49 (lv_at hl 0 rfl) ?_
      refine lv_bipush (v := 8) hx hb dX2_turnOf_51 (by decide) ?_
      refine lv_idiv hx hb dX2_turnOf_53 (by decide) ?_
      refine lv_iload hx hb dX2_turnOf_54 (lv_at hl 0 rfl) ?_
      refine lv_bipush (v := 8) hx hb dX2_turnOf_56 (by decide) ?_
      refine lv_irem hx hb dX2_turnOf_58 (by decide) ?_
      refine v_X2_pullBy C hl.1 Z hg tw_4_36 ⟨Nat.le_of_ble_eq_true rfl, Nat.le_of_ble_eq_true rfl⟩ ⟨Nat.le_refl _, Nat.le_refl _⟩ (Nat.le_of_ble_eq_true rfl) dX2_turnOf_59 hB (fun M14 H locs hB Z => ?_)
      obtain ⟨x3_15, ex3_15⟩ : ∃ y : Int32, y = x3 + 1 := ⟨_, rfl⟩
      have hB := hB x3_15 ex3_15
      refine lv_iinc (v := x3_15) (lv' := [(3, .int x3_15), (4, .int v11), (0, .ref (ad g)), (1, .int x1), (2, .int x2)]) hx hb dX2_turnOf_62 hl (k := 4) rfl (by rw [ex3_15]; rfl) (by decide) rfl (fun ls hl => ?_)
      refine lv_aload_n hx hb dX2_turnOf_65 rfl (lv_at hl 2 rfl) ?_
      refine lv_iload_n hx hb dX2_turnOf_66 rfl (lv_at hl 3 rfl) ?_
      refine v_X2_isContent C hl.1 Z hg tw_3_60 ⟨Nat.le_of_ble_eq_true rfl, Nat.le_of_ble_eq_true rfl⟩ ⟨Nat.le_refl _, Nat.le_refl _⟩ (Nat.le_of_ble_eq_true rfl) dX2_turnOf_67 hB (fun v16 M17 H locs hB Z => ?_)
      refine lv_if_eq (tgt := 75) hx hb dX2_turnOf_70 (by decide) (fun q18 => ?_) (fun q18 => ?_)
      · have hB := hB.1 q18
        refine lv_goto (tgt := 29) hx hb dX2_turnOf_75 (by decide) ?_
        exact hX29 _ _ hB _ _ _ Z (lv_sub hl [2, 3, 4, 0] rfl)
      · have hB := hB.2 q18
        refine lv_iload_n hx hb dX2_turnOf_73 rfl (lv_at hl 0 rfl) ?_
        exact e_iW C hr hlk Z dX2_turnOf_74 hB
    · have hB := hB.2 q13
      refine lv_iload_n hx hb dX2_turnOf_46 rfl (lv_at hl 4 rfl) ?_
      exact e_iW C hr hlk Z dX2_turnOf_47 hB
set_option maxRecDepth 100000 in
set_option maxHeartbeats 4000000 in
theorem c_X2_turnOf {l : Launch} {T : Nat → ClassId} {D : va_G} {ad : Nat → Nat} {K : Nat} {M : Mem} {g : Nat} {x1 : Int32} {sz : Nat} {Q1 : Int32 → Mem → Prop} (hg : isH g) (hB : P_X2_turnOf K M g x1 Q1) : Met l yX2_turnOf (Cond.code yX2_turnOf cX2_turnOf 5 (some .int) :: TB) (RM 5) (va_Pc [.ref (ad g), .int x1] (WrP EC T D ad (69 + K) M sz)) (QcW EC T D ad (69 + K) (AA ad (69 + K) sz) Q1) 0 0 (AA ad (69 + K) sz) := by
  refine st_W (by decide) (Nat.le_of_ble_eq_true rfl) (fun p e s m args below meth c ls C hr hlk hsz Z hl => ?_)
  have hl : lv_has ls 5 [(0, .ref (ad g)), (1, .int x1)] := hl
  generalize AA ad (69 + K) sz = A at Z ⊢
  have hx := C.x
  have hb := C.b
  delta P_X2_turnOf at hB
  refine lv_aload_n hx hb dX2_turnOf_0 rfl (lv_at hl 0 rfl) ?_
  refine v_X2_isLocked C hl.1 Z.1 hg tw_4_19 ⟨Nat.le_of_ble_eq_true rfl, Nat.le_of_ble_eq_true rfl⟩ ⟨Nat.le_refl _, Nat.le_refl _⟩ (Nat.le_of_ble_eq_true rfl) dX2_turnOf_1 hB (fun v1 hB => ?_)
  refine lv_if_ne (tgt := 15) hx hb dX2_turnOf_4 (by decide) (fun q2 => ?_) (fun q2 => ?_)
  · have hB := hB.1 q2
    refine lv_iconst (v := 0) hx hb dX2_turnOf_15 (by decide) ?_
    exact e_iW C hr hlk Z dX2_turnOf_16 hB
  · have hB := hB.2 q2
    refine lv_aload_n hx hb dX2_turnOf_7 rfl (lv_at hl 0 rfl) ?_
    refine lv_iload_n hx hb dX2_turnOf_8 rfl (lv_at hl 1 rfl) ?_
    refine v_X2_isContent C hl.1 Z hg tw_3_60 ⟨Nat.le_of_ble_eq_true rfl, Nat.le_of_ble_eq_true rfl⟩ ⟨Nat.le_refl _, Nat.le_refl _⟩ (Nat.le_of_ble_eq_true rfl) dX2_turnOf_9 hB (fun v3 M4 H locs hB Z => ?_)
    refine lv_if_eq (tgt := 17) hx hb dX2_turnOf_12 (by decide) (fun q5 => ?_) (fun q5 => ?_)
    · have hB := hB.1 q5
      refine lv_aload_n hx hb dX2_turnOf_17 rfl (lv_at hl 0 rfl) ?_
      refine gf_X2_7 C Z.1 hg tw_1_148 dX2_turnOf_18 ?_
      refine lv_iload_n hx hb dX2_turnOf_21 rfl (lv_at hl 1 rfl) ?_
      obtain ⟨q6, hB⟩ := hB
      obtain ⟨u7, eu7⟩ : ∃ y : Int32, y = M4 (g + 5) x1.toNatClampNeg := ⟨_, rfl⟩
      obtain ⟨fh8, hB⟩ := hB u7 eu7
      refine hk_ld C Z.1 hg q6 eu7 fh8 dX2_turnOf_22 ?_
      refine v_L_X3_strength C hl.1 Z.1 fh8 tw_4_20 ⟨Nat.le_of_ble_eq_true rfl, Nat.le_of_ble_eq_true rfl⟩ ⟨Nat.le_refl _, Nat.le_refl _⟩ (Nat.le_of_ble_eq_true rfl) dX2_turnOf_23 hB (fun v9 hB => ?_)
      refine lv_istore_n (lv' := [(2, .int v9), (0, .ref (ad g)), (1, .int x1)]) hx hb dX2_turnOf_26 rfl hl (by decide) rfl (fun ls hl => ?_)
      refine lv_iconst (v := 0) hx hb dX2_turnOf_27 (by decide) ?_
      refine lv_istore_n (lv' := [(3, .int 0), (2, .int v9), (0, .ref (ad g)), (1, .int x1)]) hx hb dX2_turnOf_28 rfl hl (by decide) rfl (fun ls hl => ?_)
      exact w_X2_turnOf_29 C hr hlk Z hg (lv_sub hl [2, 3, 1, 0] rfl) hB
    · have hB := hB.2 q5
      refine lv_iconst (v := 0) hx hb dX2_turnOf_15 (by decide) ?_
      exact e_iW C hr hlk Z dX2_turnOf_16 hB
set_option maxRecDepth 100000 in
set_option maxHeartbeats 4000000 in
theorem v_X2_turnOf {K : Nat} {M : Mem} {g : Nat} {x1 : Int32} {Q1 : Int32 → Mem → Prop} (C : Cx T D p s m args c cc nL own) (hls : ls.size = nL) (Z : Zz EC T D ad (69 + K) A H0 M H locs) (hg : isH g) (hlink : Cond.methodLink own index yX2_turnOf ∈ TB) (hR : 5 + 1 ≤ R.frames ∧ 8 + (5 + 11) + 48 * 5 ≤ R.locals) (hcs : cells ≤ R.cells ∧ slots ≤ R.slots) (hcat : (rest.map fun v => v.category).sum ≤ 8) (hdg : decode cc pc = .ok (.invokevirtual index, 3)) (hB : P_X2_turnOf K M g x1 Q1)
    (kk : ∀ (r : Int32) (M1 : Mem) (H1 : Heap) (locs1 : List Loc), Q1 r M1 → Zz EC T D ad (69 + K) A H0 M1 H1 locs1 → W p l e R s m args below meth c H1 locs1 cells slots QQ (F0 m (pc + 3) ls (.int r :: rest))) : W p l e R s m args below meth c H locs cells slots QQ (F0 m pc ls (.int x1 :: .ref (ad g) :: rest)) :=
  k_VW (ci := 2) (n := 1) (c_X2_turnOf hg hB) tw_4_18 tw_4_16 tw_4_17 tw_1_10 ⟨rfl, by decide, by decide, by decide +kernel⟩ rfl rfl C hls Z (oH hg) hlink hR hcs hcat rfl hdg kk
def P_X11_turn (K : Nat) (M : Mem) (x1 : Int32) (Q1 : Int32 → Mem → Prop) : Prop :=
  P_X11_isLodger K M x1 (fun v1 => ((¬ v1 = 0 → P_X2_turnOf K M 30 x1 (fun v3 M4 => Q1 v3 M4)) ∧
    (v1 = 0 → P_X11_error K M 1 (fun v5 M6 => Q1 v5 M6))))
set_option maxRecDepth 100000 in
set_option maxHeartbeats 4000000 in
theorem c_X11_turn {l : Launch} {T : Nat → ClassId} {D : va_G} {ad : Nat → Nat} {K : Nat} {M : Mem} {x1 : Int32} {sz : Nat} {Q1 : Int32 → Mem → Prop} (hB : P_X11_turn K M x1 Q1) : Met l yX11_turn (Cond.code yX11_turn cX11_turn 2 (some .int) :: TB) (RM 6) (va_Pc [.ref (ad 0), .int x1] (WrP EC T D ad (69 + K) M sz)) (QcW EC T D ad (69 + K) (AA ad (69 + K) sz) Q1) 0 0 (AA ad (69 + K) sz) := by
  refine st_W (by decide) (Nat.le_of_ble_eq_true rfl) (fun p e s m args below meth c ls C hr hlk hsz Z hl => ?_)
  have hl : lv_has ls 2 [(0, .ref (ad 0)), (1, .int x1)] := hl
  generalize AA ad (69 + K) sz = A at Z ⊢
  have hx := C.x
  have hb := C.b
  delta P_X11_turn at hB
  refine lv_aload_n hx hb dX11_turn_0 rfl (lv_at hl 0 rfl) ?_
  refine lv_iload_n hx hb dX11_turn_1 rfl (lv_at hl 1 rfl) ?_
  refine v_X11_isLodger C hl.1 Z.1 tw_2_197 ⟨Nat.le_of_ble_eq_true rfl, Nat.le_of_ble_eq_true rfl⟩ ⟨Nat.le_refl _, Nat.le_refl _⟩ (Nat.le_of_ble_eq_true rfl) dX11_turn_2 hB (fun v1 hB => ?_)
  refine lv_if_ne (tgt := 14) hx hb dX11_turn_5 (by decide) (fun q2 => ?_) (fun q2 => ?_)
  · have hB := hB.1 q2
    refine lv_aload_n hx hb dX11_turn_14 rfl (lv_at hl 0 rfl) ?_
    refine gf_X11_5 C Z.1 tw_2_17 dX11_turn_15 ?_
    refine lv_iload_n hx hb dX11_turn_18 rfl (lv_at hl 1 rfl) ?_
    refine v_X2_turnOf C hl.1 Z isH_0 tw_4_15 ⟨Nat.le_of_ble_eq_true rfl, Nat.le_of_ble_eq_true rfl⟩ ⟨Nat.le_refl _, Nat.le_refl _⟩ (Nat.le_of_ble_eq_true rfl) dX11_turn_19 hB (fun v3 M4 H locs hB Z => ?_)
    exact e_iW C hr hlk Z dX11_turn_22 hB
  · have hB := hB.2 q2
    refine lv_aload_n hx hb dX11_turn_8 rfl (lv_at hl 0 rfl) ?_
    refine lv_iconst (v := 1) hx hb dX11_turn_9 (by decide) ?_
    refine v_X11_error C hl.1 Z tw_2_56 ⟨Nat.le_of_ble_eq_true rfl, Nat.le_of_ble_eq_true rfl⟩ ⟨Nat.le_refl _, Nat.le_refl _⟩ (Nat.le_of_ble_eq_true rfl) dX11_turn_10 hB (fun v5 M6 H locs hB Z => ?_)
    exact e_iW C hr hlk Z dX11_turn_13 hB
set_option maxRecDepth 100000 in
set_option maxHeartbeats 4000000 in
theorem v_X11_turn {K : Nat} {M : Mem} {x1 : Int32} {Q1 : Int32 → Mem → Prop} (C : Cx T D p s m args c cc nL own) (hls : ls.size = nL) (Z : Zz EC T D ad (69 + K) A H0 M H locs) (hlink : Cond.methodLink own index yX11_turn ∈ TB) (hR : 6 + 1 ≤ R.frames ∧ 8 + (2 + 11) + 48 * 6 ≤ R.locals) (hcs : cells ≤ R.cells ∧ slots ≤ R.slots) (hcat : (rest.map fun v => v.category).sum ≤ 8) (hdg : decode cc pc = .ok (.invokevirtual index, 3)) (hB : P_X11_turn K M x1 Q1)
    (kk : ∀ (r : Int32) (M1 : Mem) (H1 : Heap) (locs1 : List Loc), Q1 r M1 → Zz EC T D ad (69 + K) A H0 M1 H1 locs1 → W p l e R s m args below meth c H1 locs1 cells slots QQ (F0 m (pc + 3) ls (.int r :: rest))) : W p l e R s m args below meth c H locs cells slots QQ (F0 m pc ls (.int x1 :: .ref (ad 0) :: rest)) :=
  k_VW (ci := 11) (n := 1) (c_X11_turn hB) tw_4_14 tw_4_12 tw_4_13 tw_1_1 ⟨rfl, by decide, by decide, by decide +kernel⟩ rfl rfl C hls Z oO hlink hR hcs hcat rfl hdg kk
def B_X2_turnOfAll_4 (K : Nat) (g : Nat) (Q1 : Int32 → Mem → Prop) (x1 : Int32) (x2 : Int32) (M : Mem) : Prop :=
  ∀ X4 : Int32 → Int32 → Mem → Prop, (∀ (x1 : Int32) (x2 : Int32) (M : Mem), ((((M g 2) ≤ x2 → Q1 x1 M) ∧
    (¬ (M g 2) ≤ x2 → P_X2_turnOf K M g x2 (fun v2 M3 => ∀ x1_4 : Int32, x1_4 = x1 + v2 → ∀ x2_5 : Int32, x2_5 = x2 + 1 → X4 x1_4 x2_5 M3)))) → X4 x1 x2 M) → X4 x1 x2 M
def P_X2_turnOfAll (K : Nat) (M : Mem) (g : Nat) (Q1 : Int32 → Mem → Prop) : Prop :=
  B_X2_turnOfAll_4 K g Q1 0 0 M
set_option maxRecDepth 100000 in
set_option maxHeartbeats 4000000 in
theorem w_X2_turnOfAll_4 {K : Nat} {g : Nat} {M : Mem} {Q1 : Int32 → Mem → Prop} {x1 : Int32} {x2 : Int32} (C : Cx T D p s m args c cX2_turnOfAll 3 "OneOfTwo$House") (hr : meth.sig.returnType = (some .int)) (hlk : meth.locks = false) (Z : Zz EC T D ad (69 + K) A s.heap M H locs) (hg : isH g) {ls : Array Slot} (hl : lv_has ls 3 [(0, .ref (ad g)), (1, .int x1), (2, .int x2)]) (hB : B_X2_turnOfAll_4 K g Q1 x1 x2 M) : W p l e (RM 6) s m args below meth c H locs 0 0 (MQ below (QcW EC T D ad (69 + K) A Q1) args s 0 0 A) (F0 m 4 ls []) := by
  delta B_X2_turnOfAll_4 at hB
  obtain ⟨X4, hX4, hY4⟩ : ∃ X4 : Int32 → Int32 → Mem → Prop, (∀ (x1 : Int32) (x2 : Int32) (M : Mem), X4 x1 x2 M → ∀ (H : Heap) (locs : List Loc) (ls : Array Slot), Zz EC T D ad (69 + K) A s.heap M H locs → lv_has ls 3 [(0, .ref (ad g)), (1, .int x1), (2, .int x2)] → W p l e (RM 6) s m args below meth c H locs 0 0 (MQ below (QcW EC T D ad (69 + K) A Q1) args s 0 0 A) (F0 m 4 ls [])) ∧ (∀ (x1 : Int32) (x2 : Int32) (M : Mem), (∀ (H : Heap) (locs : List Loc) (ls : Array Slot), Zz EC T D ad (69 + K) A s.heap M H locs → lv_has ls 3 [(0, .ref (ad g)), (1, .int x1), (2, .int x2)] → W p l e (RM 6) s m args below meth c H locs 0 0 (MQ below (QcW EC T D ad (69 + K) A Q1) args s 0 0 A) (F0 m 4 ls [])) → X4 x1 x2 M) := ⟨fun (x1 : Int32) (x2 : Int32) (M : Mem) => ∀ (H : Heap) (locs : List Loc) (ls : Array Slot), Zz EC T D ad (69 + K) A s.heap M H locs → lv_has ls 3 [(0, .ref (ad g)), (1, .int x1), (2, .int x2)] → W p l e (RM 6) s m args below meth c H locs 0 0 (MQ below (QcW EC T D ad (69 + K) A Q1) args s 0 0 A) (F0 m 4 ls []), fun _ _ _ h => h, fun _ _ _ h => h⟩
  refine hX4 _ _ _ (hB X4 (fun x1 x2 M hB => hY4 _ _ _ (fun H locs ls Z hl => ?_))) _ _ _ Z hl
  have hx := C.x
  have hb := C.b
  refine lv_iload_n hx hb dX2_turnOfAll_4 rfl (lv_at hl 2 rfl) ?_
  refine lv_aload_n hx hb dX2_turnOfAll_5 rfl (lv_at hl 0 rfl) ?_
  refine gf_X2_2 C Z.1 hg tw_1_133 dX2_turnOfAll_6 ?_
  refine lv_icmp_ge (tgt := 26) hx hb dX2_turnOfAll_9 (by decide) (fun q1 => ?_) (fun q1 => ?_)
  · have hB := hB.1 q1
    refine lv_iload_n hx hb dX2_turnOfAll_26 rfl (lv_at hl 1 rfl) ?_
    exact e_iW C hr hlk Z dX2_turnOfAll_27 hB
  · have hB := hB.2 q1
    refine lv_iload_n hx hb dX2_turnOfAll_12 rfl (lv_at hl 1 rfl) ?_
    refine lv_aload_n hx hb dX2_turnOfAll_13 rfl (lv_at hl 0 rfl) ?_
    refine lv_iload_n hx hb dX2_turnOfAll_14 rfl (lv_at hl 2 rfl) ?_
    refine v_X2_turnOf C hl.1 Z hg tw_4_49 ⟨Nat.le_of_ble_eq_true rfl, Nat.le_of_ble_eq_true rfl⟩ ⟨Nat.le_refl _, Nat.le_refl _⟩ (Nat.le_of_ble_eq_true rfl) dX2_turnOfAll_15 hB (fun v2 M3 H locs hB Z => ?_)
    refine lv_iadd hx hb dX2_turnOfAll_18 ?_
    refine lv_topi (fun x1_4 ex1_4 => ?_)
    have hB := hB x1_4 ex1_4
    refine lv_istore_n (lv' := [(1, .int x1_4), (0, .ref (ad g)), (2, .int x2)]) hx hb dX2_turnOfAll_19 rfl hl (by decide) rfl (fun ls hl => ?_)
    obtain ⟨x2_5, ex2_5⟩ : ∃ y : Int32, y = x2 + 1 := ⟨_, rfl⟩
    have hB := hB x2_5 ex2_5
    refine lv_iinc (v := x2_5) (lv' := [(2, .int x2_5), (1, .int x1_4), (0, .ref (ad g))]) hx hb dX2_turnOfAll_20 hl (k := 2) rfl (by rw [ex2_5]; rfl) (by decide) rfl (fun ls hl => ?_)
    refine lv_goto (tgt := 4) hx hb dX2_turnOfAll_23 (by decide) ?_
    exact hX4 _ _ _ hB _ _ _ Z (lv_sub hl [2, 1, 0] rfl)
set_option maxRecDepth 100000 in
set_option maxHeartbeats 4000000 in
theorem c_X2_turnOfAll {l : Launch} {T : Nat → ClassId} {D : va_G} {ad : Nat → Nat} {K : Nat} {M : Mem} {g : Nat} {sz : Nat} {Q1 : Int32 → Mem → Prop} (hg : isH g) (hB : P_X2_turnOfAll K M g Q1) : Met l yX2_turnOfAll (Cond.code yX2_turnOfAll cX2_turnOfAll 3 (some .int) :: TB) (RM 6) (va_Pc [.ref (ad g)] (WrP EC T D ad (69 + K) M sz)) (QcW EC T D ad (69 + K) (AA ad (69 + K) sz) Q1) 0 0 (AA ad (69 + K) sz) := by
  refine st_W (by decide) (Nat.le_of_ble_eq_true rfl) (fun p e s m args below meth c ls C hr hlk hsz Z hl => ?_)
  have hl : lv_has ls 3 [(0, .ref (ad g))] := hl
  generalize AA ad (69 + K) sz = A at Z ⊢
  have hx := C.x
  have hb := C.b
  delta P_X2_turnOfAll at hB
  refine lv_iconst (v := 0) hx hb dX2_turnOfAll_0 (by decide) ?_
  refine lv_istore_n (lv' := [(1, .int 0), (0, .ref (ad g))]) hx hb dX2_turnOfAll_1 rfl hl (by decide) rfl (fun ls hl => ?_)
  refine lv_iconst (v := 0) hx hb dX2_turnOfAll_2 (by decide) ?_
  refine lv_istore_n (lv' := [(2, .int 0), (1, .int 0), (0, .ref (ad g))]) hx hb dX2_turnOfAll_3 rfl hl (by decide) rfl (fun ls hl => ?_)
  exact w_X2_turnOfAll_4 C hr hlk Z hg (lv_sub hl [2, 1, 0] rfl) hB
set_option maxRecDepth 100000 in
set_option maxHeartbeats 4000000 in
theorem v_X2_turnOfAll {K : Nat} {M : Mem} {g : Nat} {Q1 : Int32 → Mem → Prop} (C : Cx T D p s m args c cc nL own) (hls : ls.size = nL) (Z : Zz EC T D ad (69 + K) A H0 M H locs) (hg : isH g) (hlink : Cond.methodLink own index yX2_turnOfAll ∈ TB) (hR : 6 + 1 ≤ R.frames ∧ 8 + (3 + 11) + 48 * 6 ≤ R.locals) (hcs : cells ≤ R.cells ∧ slots ≤ R.slots) (hcat : (rest.map fun v => v.category).sum ≤ 8) (hdg : decode cc pc = .ok (.invokevirtual index, 3)) (hB : P_X2_turnOfAll K M g Q1)
    (kk : ∀ (r : Int32) (M1 : Mem) (H1 : Heap) (locs1 : List Loc), Q1 r M1 → Zz EC T D ad (69 + K) A H0 M1 H1 locs1 → W p l e R s m args below meth c H1 locs1 cells slots QQ (F0 m (pc + 3) ls (.int r :: rest))) : W p l e R s m args below meth c H locs cells slots QQ (F0 m pc ls (.ref (ad g) :: rest)) :=
  k_VW (ci := 2) (n := 0) (c_X2_turnOfAll hg hB) tw_4_48 tw_4_46 tw_4_47 tw_1_10 ⟨rfl, by decide, by decide, by decide +kernel⟩ rfl rfl C hls Z (oH hg) hlink hR hcs hcat rfl hdg kk
def P_X2_passHour (K : Nat) (M : Mem) (g : Nat) (Q1 : Mem → Prop) : Prop :=
  P_X2_turnOfAll K M g (fun v1 M2 => P_X2_contentSet K M2 g (fun v3 M4 => P_J6_bitCount_0f7a4 v3 (fun v5 => P_X2_lawBy K M4 g 1 v5 (M4 g 10) v1 (fun v6 M7 => ∀ v8 : Int32, v8 = (if ((M7 g 12) + v6) < 999999 then ((M7 g 12) + v6) else 999999) → ∀ v9 : Int32, v9 = (if 0 < v8 then v8 else 0) → ∀ M10 : Mem, M10 = sf M7 g 12 v9 → ∀ v11 : Int32, v11 = (M10 g 10) + 1 → ∀ M12 : Mem, M12 = sf M10 g 10 v11 → (((M12 g 10) < 24 → Q1 M12) ∧
    (¬ (M12 g 10) < 24 → ∀ M14 : Mem, M14 = sf M12 g 10 0 → ∀ v15 : Int32, v15 = (if ((M14 g 11) + 1) < 999 then ((M14 g 11) + 1) else 999) → ∀ M16 : Mem, M16 = sf M14 g 11 v15 → Q1 M16))))))
set_option maxRecDepth 100000 in
set_option maxHeartbeats 4000000 in
theorem c_X2_passHour {l : Launch} {T : Nat → ClassId} {D : va_G} {ad : Nat → Nat} {K : Nat} {M : Mem} {g : Nat} {sz : Nat} {Q1 : Mem → Prop} (hg : isH g) (hB : P_X2_passHour K M g Q1) : Met l yX2_passHour (Cond.code yX2_passHour cX2_passHour 3 none :: TB) (RM 7) (va_Pc [.ref (ad g)] (WrP EC T D ad (69 + K) M sz)) (QcV EC T D ad (69 + K) (AA ad (69 + K) sz) Q1) 0 0 (AA ad (69 + K) sz) := by
  refine st_W (by decide) (Nat.le_of_ble_eq_true rfl) (fun p e s m args below meth c ls C hr hlk hsz Z hl => ?_)
  have hl : lv_has ls 3 [(0, .ref (ad g))] := hl
  generalize AA ad (69 + K) sz = A at Z ⊢
  have hx := C.x
  have hb := C.b
  delta P_X2_passHour at hB
  refine lv_aload_n hx hb dX2_passHour_0 rfl (lv_at hl 0 rfl) ?_
  refine v_X2_turnOfAll C hl.1 Z hg tw_4_45 ⟨Nat.le_of_ble_eq_true rfl, Nat.le_of_ble_eq_true rfl⟩ ⟨Nat.le_refl _, Nat.le_refl _⟩ (Nat.le_of_ble_eq_true rfl) dX2_passHour_1 hB (fun v1 M2 H locs hB Z => ?_)
  refine lv_istore_n (lv' := [(1, .int v1), (0, .ref (ad g))]) hx hb dX2_passHour_4 rfl hl (by decide) rfl (fun ls hl => ?_)
  refine lv_aload_n hx hb dX2_passHour_5 rfl (lv_at hl 1 rfl) ?_
  refine lv_iconst (v := 1) hx hb dX2_passHour_6 (by decide) ?_
  refine lv_aload_n hx hb dX2_passHour_7 rfl (lv_at hl 1 rfl) ?_
  refine v_X2_contentSet C hl.1 Z hg tw_4_50 ⟨Nat.le_of_ble_eq_true rfl, Nat.le_of_ble_eq_true rfl⟩ ⟨Nat.le_refl _, Nat.le_refl _⟩ (Nat.le_of_ble_eq_true rfl) dX2_passHour_8 hB (fun v3 M4 H locs hB Z => ?_)
  refine v_J6_bitCount_0f7a4 C.1 hl.1 tw_4_51 ⟨Nat.le_of_ble_eq_true rfl, Nat.le_of_ble_eq_true rfl⟩ ⟨Nat.le_refl _, Nat.le_refl _⟩ (Nat.le_of_ble_eq_true rfl) dX2_passHour_11 hB (fun v5 hB => ?_)
  refine lv_aload_n hx hb dX2_passHour_14 rfl (lv_at hl 1 rfl) ?_
  refine gf_X2_10 C Z.1 hg tw_1_155 dX2_passHour_15 ?_
  refine lv_iload_n hx hb dX2_passHour_18 rfl (lv_at hl 0 rfl) ?_
  refine v_X2_lawBy C hl.1 Z hg tw_4_52 ⟨Nat.le_of_ble_eq_true rfl, Nat.le_of_ble_eq_true rfl⟩ ⟨Nat.le_refl _, Nat.le_refl _⟩ (Nat.le_of_ble_eq_true rfl) dX2_passHour_19 hB (fun v6 M7 H locs hB Z => ?_)
  refine lv_istore_n (lv' := [(2, .int v6), (1, .int v1), (0, .ref (ad g))]) hx hb dX2_passHour_22 rfl hl (by decide) rfl (fun ls hl => ?_)
  refine lv_aload_n hx hb dX2_passHour_23 rfl (lv_at hl 2 rfl) ?_
  refine lv_iconst (v := 0) hx hb dX2_passHour_24 (by decide) ?_
  refine lv_ldc hx hb C.1.2.2.2.1 (C.1.2.2.2.2 _ tw_4_53) dX2_passHour_25 ?_
  refine lv_aload_n hx hb dX2_passHour_27 rfl (lv_at hl 2 rfl) ?_
  refine gf_X2_12 C Z.1 hg tw_1_159 dX2_passHour_28 ?_
  refine lv_iload_n hx hb dX2_passHour_31 rfl (lv_at hl 0 rfl) ?_
  refine lv_iadd hx hb dX2_passHour_32 ?_
  refine m_min C.1 hl.1 tw_2_166 (Nat.le_of_ble_eq_true rfl) (Nat.le_of_ble_eq_true rfl) dX2_passHour_33 ?_
  refine lv_topi (fun v8 ev8 => ?_)
  have hB := hB v8 ev8
  refine m_max C.1 hl.1 tw_2_169 (Nat.le_of_ble_eq_true rfl) (Nat.le_of_ble_eq_true rfl) dX2_passHour_36 ?_
  refine lv_topi (fun v9 ev9 => ?_)
  have hB := hB v9 ev9
  refine pf_X2_12 C Z hg tw_1_159 dX2_passHour_39 (fun M10 H locs eM10 Z => ?_)
  have hB := hB M10 eM10
  refine lv_aload_n hx hb dX2_passHour_42 rfl (lv_at hl 2 rfl) ?_
  refine lv_dup hx hb dX2_passHour_43 rfl ?_
  refine gf_X2_10 C Z.1 hg tw_1_155 dX2_passHour_44 ?_
  refine lv_iconst (v := 1) hx hb dX2_passHour_47 (by decide) ?_
  refine lv_iadd hx hb dX2_passHour_48 ?_
  refine lv_topi (fun v11 ev11 => ?_)
  have hB := hB v11 ev11
  refine pf_X2_10 C Z hg tw_1_155 dX2_passHour_49 (fun M12 H locs eM12 Z => ?_)
  have hB := hB M12 eM12
  refine lv_aload_n hx hb dX2_passHour_52 rfl (lv_at hl 2 rfl) ?_
  refine gf_X2_10 C Z.1 hg tw_1_155 dX2_passHour_53 ?_
  refine lv_bipush (v := 24) hx hb dX2_passHour_56 (by decide) ?_
  refine lv_icmp_lt (tgt := 82) hx hb dX2_passHour_58 (by decide) (fun q13 => ?_) (fun q13 => ?_)
  · have hB := hB.1 q13
    exact e_vW C hr hlk Z dX2_passHour_82 hB
  · have hB := hB.2 q13
    refine lv_aload_n hx hb dX2_passHour_61 rfl (lv_at hl 2 rfl) ?_
    refine lv_iconst (v := 0) hx hb dX2_passHour_62 (by decide) ?_
    refine pf_X2_10 C Z hg tw_1_155 dX2_passHour_63 (fun M14 H locs eM14 Z => ?_)
    have hB := hB M14 eM14
    refine lv_aload_n hx hb dX2_passHour_66 rfl (lv_at hl 2 rfl) ?_
    refine lv_sipush (v := 999) hx hb dX2_passHour_67 (by decide) ?_
    refine lv_aload_n hx hb dX2_passHour_70 rfl (lv_at hl 2 rfl) ?_
    refine gf_X2_11 C Z.1 hg tw_1_157 dX2_passHour_71 ?_
    refine lv_iconst (v := 1) hx hb dX2_passHour_74 (by decide) ?_
    refine lv_iadd hx hb dX2_passHour_75 ?_
    refine m_min C.1 hl.1 tw_2_166 (Nat.le_of_ble_eq_true rfl) (Nat.le_of_ble_eq_true rfl) dX2_passHour_76 ?_
    refine lv_topi (fun v15 ev15 => ?_)
    have hB := hB v15 ev15
    refine pf_X2_11 C Z hg tw_1_157 dX2_passHour_79 (fun M16 H locs eM16 Z => ?_)
    have hB := hB M16 eM16
    exact e_vW C hr hlk Z dX2_passHour_82 hB
set_option maxRecDepth 100000 in
set_option maxHeartbeats 4000000 in
theorem v_X2_passHour {K : Nat} {M : Mem} {g : Nat} {Q1 : Mem → Prop} (C : Cx T D p s m args c cc nL own) (hls : ls.size = nL) (Z : Zz EC T D ad (69 + K) A H0 M H locs) (hg : isH g) (hlink : Cond.methodLink own index yX2_passHour ∈ TB) (hR : 7 + 1 ≤ R.frames ∧ 8 + (3 + 11) + 48 * 7 ≤ R.locals) (hcs : cells ≤ R.cells ∧ slots ≤ R.slots) (hcat : (rest.map fun v => v.category).sum ≤ 8) (hdg : decode cc pc = .ok (.invokevirtual index, 3)) (hB : P_X2_passHour K M g Q1)
    (kk : ∀ (M1 : Mem) (H1 : Heap) (locs1 : List Loc), Q1 M1 → Zz EC T D ad (69 + K) A H0 M1 H1 locs1 → W p l e R s m args below meth c H1 locs1 cells slots QQ (F0 m (pc + 3) ls rest)) : W p l e R s m args below meth c H locs cells slots QQ (F0 m pc ls (.ref (ad g) :: rest)) :=
  k_VV (ci := 2) (n := 0) (c_X2_passHour hg hB) tw_4_44 tw_4_42 tw_4_43 tw_1_10 ⟨rfl, by decide, by decide, by decide +kernel⟩ rfl rfl C hls Z (oH hg) hlink hR hcs hcat rfl hdg kk
def B_X11_hours_19 (K : Nat) (Q1 : Int32 → Mem → Prop) (x1 : Int32) (x2 : Int32) (M : Mem) : Prop :=
  ∀ X19 : Int32 → Mem → Prop, (∀ (x2 : Int32) (M : Mem), (((x1 ≤ x2 → Q1 (M 30 12) M) ∧
    (¬ x1 ≤ x2 → P_X2_passHour K M 30 (fun M6 => ∀ x2_7 : Int32, x2_7 = x2 + 1 → X19 x2_7 M6)))) → X19 x2 M) → X19 x2 M
def P_X11_hours (K : Nat) (M : Mem) (x1 : Int32) (Q1 : Int32 → Mem → Prop) : Prop :=
  ((x1 < 1 → P_X11_error K M 1 (fun v2 M3 => Q1 v2 M3)) ∧
    (¬ x1 < 1 → ((x1 ≤ 100 → B_X11_hours_19 K Q1 x1 0 M) ∧
      (¬ x1 ≤ 100 → P_X11_error K M 1 (fun v8 M9 => Q1 v8 M9)))))
set_option maxRecDepth 100000 in
set_option maxHeartbeats 4000000 in
theorem w_X11_hours_19 {K : Nat} {M : Mem} {Q1 : Int32 → Mem → Prop} {x1 : Int32} {x2 : Int32} (C : Cx T D p s m args c cX11_hours 3 "OneOfTwo") (hr : meth.sig.returnType = (some .int)) (hlk : meth.locks = false) (Z : Zz EC T D ad (69 + K) A s.heap M H locs) {ls : Array Slot} (hl : lv_has ls 3 [(0, .ref (ad 0)), (1, .int x1), (2, .int x2)]) (hB : B_X11_hours_19 K Q1 x1 x2 M) : W p l e (RM 8) s m args below meth c H locs 0 0 (MQ below (QcW EC T D ad (69 + K) A Q1) args s 0 0 A) (F0 m 19 ls []) := by
  delta B_X11_hours_19 at hB
  obtain ⟨X19, hX19, hY19⟩ : ∃ X19 : Int32 → Mem → Prop, (∀ (x2 : Int32) (M : Mem), X19 x2 M → ∀ (H : Heap) (locs : List Loc) (ls : Array Slot), Zz EC T D ad (69 + K) A s.heap M H locs → lv_has ls 3 [(0, .ref (ad 0)), (1, .int x1), (2, .int x2)] → W p l e (RM 8) s m args below meth c H locs 0 0 (MQ below (QcW EC T D ad (69 + K) A Q1) args s 0 0 A) (F0 m 19 ls [])) ∧ (∀ (x2 : Int32) (M : Mem), (∀ (H : Heap) (locs : List Loc) (ls : Array Slot), Zz EC T D ad (69 + K) A s.heap M H locs → lv_has ls 3 [(0, .ref (ad 0)), (1, .int x1), (2, .int x2)] → W p l e (RM 8) s m args below meth c H locs 0 0 (MQ below (QcW EC T D ad (69 + K) A Q1) args s 0 0 A) (F0 m 19 ls [])) → X19 x2 M) := ⟨fun (x2 : Int32) (M : Mem) => ∀ (H : Heap) (locs : List Loc) (ls : Array Slot), Zz EC T D ad (69 + K) A s.heap M H locs → lv_has ls 3 [(0, .ref (ad 0)), (1, .int x1), (2, .int x2)] → W p l e (RM 8) s m args below meth c H locs 0 0 (MQ below (QcW EC T D ad (69 + K) A Q1) args s 0 0 A) (F0 m 19 ls []), fun _ _ h => h, fun _ _ h => h⟩
  refine hX19 _ _ (hB X19 (fun x2 M hB => hY19 _ _ (fun H locs ls Z hl => ?_))) _ _ _ Z hl
  have hx := C.x
  have hb := C.b
  refine lv_iload_n hx hb dX11_hours_19 rfl (lv_at hl 2 rfl) ?_
  refine lv_iload_n hx hb dX11_hours_20 rfl (lv_at hl 1 rfl) ?_
  refine lv_icmp_ge (tgt := 37) hx hb dX11_hours_21 (by decide) (fun q5 => ?_) (fun q5 => ?_)
  · have hB := hB.1 q5
    refine lv_aload_n hx hb dX11_hours_37 rfl (lv_at hl 0 rfl) ?_
    refine gf_X11_5 C Z.1 tw_2_17 dX11_hours_38 ?_
    refine gf_X2_12 C Z.1 isH_0 tw_1_160 dX11_hours_41 ?_
    exact e_iW C hr hlk Z dX11_hours_44 hB
  · have hB := hB.2 q5
    refine lv_aload_n hx hb dX11_hours_24 rfl (lv_at hl 0 rfl) ?_
    refine gf_X11_5 C Z.1 tw_2_17 dX11_hours_25 ?_
    refine v_X2_passHour C hl.1 Z isH_0 tw_4_41 ⟨Nat.le_of_ble_eq_true rfl, Nat.le_of_ble_eq_true rfl⟩ ⟨Nat.le_refl _, Nat.le_refl _⟩ (Nat.le_of_ble_eq_true rfl) dX11_hours_28 hB (fun M6 H locs hB Z => ?_)
    obtain ⟨x2_7, ex2_7⟩ : ∃ y : Int32, y = x2 + 1 := ⟨_, rfl⟩
    have hB := hB x2_7 ex2_7
    refine lv_iinc (v := x2_7) (lv' := [(2, .int x2_7), (0, .ref (ad 0)), (1, .int x1)]) hx hb dX11_hours_31 hl (k := 2) rfl (by rw [ex2_7]; rfl) (by decide) rfl (fun ls hl => ?_)
    refine lv_goto (tgt := 19) hx hb dX11_hours_34 (by decide) ?_
    exact hX19 _ _ hB _ _ _ Z (lv_sub hl [1, 2, 0] rfl)
set_option maxRecDepth 100000 in
set_option maxHeartbeats 4000000 in
theorem c_X11_hours {l : Launch} {T : Nat → ClassId} {D : va_G} {ad : Nat → Nat} {K : Nat} {M : Mem} {x1 : Int32} {sz : Nat} {Q1 : Int32 → Mem → Prop} (hB : P_X11_hours K M x1 Q1) : Met l yX11_hours (Cond.code yX11_hours cX11_hours 3 (some .int) :: TB) (RM 8) (va_Pc [.ref (ad 0), .int x1] (WrP EC T D ad (69 + K) M sz)) (QcW EC T D ad (69 + K) (AA ad (69 + K) sz) Q1) 0 0 (AA ad (69 + K) sz) := by
  refine st_W (by decide) (Nat.le_of_ble_eq_true rfl) (fun p e s m args below meth c ls C hr hlk hsz Z hl => ?_)
  have hl : lv_has ls 3 [(0, .ref (ad 0)), (1, .int x1)] := hl
  generalize AA ad (69 + K) sz = A at Z ⊢
  have hx := C.x
  have hb := C.b
  delta P_X11_hours at hB
  refine lv_iload_n hx hb dX11_hours_0 rfl (lv_at hl 1 rfl) ?_
  refine lv_iconst (v := 1) hx hb dX11_hours_1 (by decide) ?_
  refine lv_icmp_lt (tgt := 11) hx hb dX11_hours_2 (by decide) (fun q1 => ?_) (fun q1 => ?_)
  · have hB := hB.1 q1
    refine lv_aload_n hx hb dX11_hours_11 rfl (lv_at hl 0 rfl) ?_
    refine lv_iconst (v := 1) hx hb dX11_hours_12 (by decide) ?_
    refine v_X11_error C hl.1 Z tw_2_56 ⟨Nat.le_of_ble_eq_true rfl, Nat.le_of_ble_eq_true rfl⟩ ⟨Nat.le_refl _, Nat.le_refl _⟩ (Nat.le_of_ble_eq_true rfl) dX11_hours_13 hB (fun v2 M3 H locs hB Z => ?_)
    exact e_iW C hr hlk Z dX11_hours_16 hB
  · have hB := hB.2 q1
    refine lv_iload_n hx hb dX11_hours_5 rfl (lv_at hl 1 rfl) ?_
    refine lv_bipush (v := 100) hx hb dX11_hours_6 (by decide) ?_
    refine lv_icmp_le (tgt := 17) hx hb dX11_hours_8 (by decide) (fun q4 => ?_) (fun q4 => ?_)
    · have hB := hB.1 q4
      refine lv_iconst (v := 0) hx hb dX11_hours_17 (by decide) ?_
      refine lv_istore_n (lv' := [(2, .int 0), (0, .ref (ad 0)), (1, .int x1)]) hx hb dX11_hours_18 rfl hl (by decide) rfl (fun ls hl => ?_)
      exact w_X11_hours_19 C hr hlk Z (lv_sub hl [1, 2, 0] rfl) hB
    · have hB := hB.2 q4
      refine lv_aload_n hx hb dX11_hours_11 rfl (lv_at hl 0 rfl) ?_
      refine lv_iconst (v := 1) hx hb dX11_hours_12 (by decide) ?_
      refine v_X11_error C hl.1 Z tw_2_56 ⟨Nat.le_of_ble_eq_true rfl, Nat.le_of_ble_eq_true rfl⟩ ⟨Nat.le_refl _, Nat.le_refl _⟩ (Nat.le_of_ble_eq_true rfl) dX11_hours_13 hB (fun v8 M9 H locs hB Z => ?_)
      exact e_iW C hr hlk Z dX11_hours_16 hB
set_option maxRecDepth 100000 in
set_option maxHeartbeats 4000000 in
theorem v_X11_hours {K : Nat} {M : Mem} {x1 : Int32} {Q1 : Int32 → Mem → Prop} (C : Cx T D p s m args c cc nL own) (hls : ls.size = nL) (Z : Zz EC T D ad (69 + K) A H0 M H locs) (hlink : Cond.methodLink own index yX11_hours ∈ TB) (hR : 8 + 1 ≤ R.frames ∧ 8 + (3 + 11) + 48 * 8 ≤ R.locals) (hcs : cells ≤ R.cells ∧ slots ≤ R.slots) (hcat : (rest.map fun v => v.category).sum ≤ 8) (hdg : decode cc pc = .ok (.invokevirtual index, 3)) (hB : P_X11_hours K M x1 Q1)
    (kk : ∀ (r : Int32) (M1 : Mem) (H1 : Heap) (locs1 : List Loc), Q1 r M1 → Zz EC T D ad (69 + K) A H0 M1 H1 locs1 → W p l e R s m args below meth c H1 locs1 cells slots QQ (F0 m (pc + 3) ls (.int r :: rest))) : W p l e R s m args below meth c H locs cells slots QQ (F0 m pc ls (.int x1 :: .ref (ad 0) :: rest)) :=
  k_VW (ci := 11) (n := 1) (c_X11_hours hB) tw_4_40 tw_4_38 tw_4_39 tw_1_1 ⟨rfl, by decide, by decide, by decide +kernel⟩ rfl rfl C hls Z oO hlink hR hcs hcat rfl hdg kk
def P_X2_draw (K : Nat) (M : Mem) (g : Nat) (Q1 : Int32 → Mem → Prop) : Prop :=
  ∀ v1 : Int32, v1 = ((M g 15) * 1103515245) + 12345 → ∀ M2 : Mem, M2 = sf M g 15 v1 → Q1 (((M2 g 15).toUInt32 >>> ((8 : Int32).toUInt32 &&& Int32.toUInt32 31)).toInt32) M2
set_option maxRecDepth 100000 in
set_option maxHeartbeats 4000000 in
theorem c_X2_draw {l : Launch} {T : Nat → ClassId} {D : va_G} {ad : Nat → Nat} {K : Nat} {M : Mem} {g : Nat} {sz : Nat} {Q1 : Int32 → Mem → Prop} (hg : isH g) (hB : P_X2_draw K M g Q1) : Met l yX2_draw (Cond.code yX2_draw cX2_draw 1 (some .int) :: TB) (RM 1) (va_Pc [.ref (ad g)] (WrP EC T D ad (69 + K) M sz)) (QcW EC T D ad (69 + K) (AA ad (69 + K) sz) Q1) 0 0 (AA ad (69 + K) sz) := by
  refine st_W (by decide) (Nat.le_of_ble_eq_true rfl) (fun p e s m args below meth c ls C hr hlk hsz Z hl => ?_)
  have hl : lv_has ls 1 [(0, .ref (ad g))] := hl
  generalize AA ad (69 + K) sz = A at Z ⊢
  have hx := C.x
  have hb := C.b
  delta P_X2_draw at hB
  refine lv_aload_n hx hb dX2_draw_0 rfl (lv_at hl 0 rfl) ?_
  refine lv_aload_n hx hb dX2_draw_1 rfl (lv_at hl 0 rfl) ?_
  refine gf_X2_15 C Z.1 hg tw_1_165 dX2_draw_2 ?_
  refine lv_ldc hx hb C.1.2.2.2.1 (C.1.2.2.2.2 _ tw_4_66) dX2_draw_5 ?_
  refine lv_imul hx hb dX2_draw_7 ?_
  refine lv_sipush (v := 12345) hx hb dX2_draw_8 (by decide) ?_
  refine lv_iadd hx hb dX2_draw_11 ?_
  refine lv_topi (fun v1 ev1 => ?_)
  have hB := hB v1 ev1
  refine pf_X2_15 C Z hg tw_1_165 dX2_draw_12 (fun M2 H locs eM2 Z => ?_)
  have hB := hB M2 eM2
  refine lv_aload_n hx hb dX2_draw_15 rfl (lv_at hl 0 rfl) ?_
  refine gf_X2_15 C Z.1 hg tw_1_165 dX2_draw_16 ?_
  refine lv_bipush (v := 8) hx hb dX2_draw_19 (by decide) ?_
  refine lv_iushr hx hb dX2_draw_21 rfl ?_
  exact e_iW C hr hlk Z dX2_draw_22 hB
set_option maxRecDepth 100000 in
set_option maxHeartbeats 4000000 in
theorem v_X2_draw {K : Nat} {M : Mem} {g : Nat} {Q1 : Int32 → Mem → Prop} (C : Cx T D p s m args c cc nL own) (hls : ls.size = nL) (Z : Zz EC T D ad (69 + K) A H0 M H locs) (hg : isH g) (hlink : Cond.methodLink own index yX2_draw ∈ TB) (hR : 1 + 1 ≤ R.frames ∧ 8 + (1 + 11) + 48 * 1 ≤ R.locals) (hcs : cells ≤ R.cells ∧ slots ≤ R.slots) (hcat : (rest.map fun v => v.category).sum ≤ 8) (hdg : decode cc pc = .ok (.invokevirtual index, 3)) (hB : P_X2_draw K M g Q1)
    (kk : ∀ (r : Int32) (M1 : Mem) (H1 : Heap) (locs1 : List Loc), Q1 r M1 → Zz EC T D ad (69 + K) A H0 M1 H1 locs1 → W p l e R s m args below meth c H1 locs1 cells slots QQ (F0 m (pc + 3) ls (.int r :: rest))) : W p l e R s m args below meth c H locs cells slots QQ (F0 m pc ls (.ref (ad g) :: rest)) :=
  k_VW (ci := 2) (n := 0) (c_X2_draw hg hB) tw_4_65 tw_4_63 tw_4_64 tw_1_10 ⟨rfl, by decide, by decide, by decide +kernel⟩ rfl rfl C hls Z (oH hg) hlink hR hcs hcat rfl hdg kk
def P_X2_pullByDraws (K : Nat) (M : Mem) (g : Nat) (Q1 : Mem → Prop) : Prop :=
  P_X2_draw K M g (fun v1 M2 => ∀ x1_3 : Int32, x1_3 = v1 - v1 / 8 * 8 → P_X2_draw K M2 g (fun v4 M5 => ∀ x2_6 : Int32, x2_6 = v4 - v4 / 8 * 8 → (((M5 g 0) ≤ x1_3 → Q1 M5) ∧
    (¬ (M5 g 0) ≤ x1_3 → (((M5 g 0) ≤ x2_6 → Q1 M5) ∧
      (¬ (M5 g 0) ≤ x2_6 → P_X2_canPull K M5 g x1_3 x2_6 (fun v9 => ((v9 = 0 → Q1 M5) ∧
        (¬ v9 = 0 → P_X2_pullBy K M5 g x1_3 x2_6 (fun M11 => Q1 M11))))))))))
set_option maxRecDepth 100000 in
set_option maxHeartbeats 4000000 in
theorem c_X2_pullByDraws {l : Launch} {T : Nat → ClassId} {D : va_G} {ad : Nat → Nat} {K : Nat} {M : Mem} {g : Nat} {sz : Nat} {Q1 : Mem → Prop} (hg : isH g) (hB : P_X2_pullByDraws K M g Q1) : Met l yX2_pullByDraws (Cond.code yX2_pullByDraws cX2_pullByDraws 3 none :: TB) (RM 2) (va_Pc [.ref (ad g)] (WrP EC T D ad (69 + K) M sz)) (QcV EC T D ad (69 + K) (AA ad (69 + K) sz) Q1) 0 0 (AA ad (69 + K) sz) := by
  refine st_W (by decide) (Nat.le_of_ble_eq_true rfl) (fun p e s m args below meth c ls C hr hlk hsz Z hl => ?_)
  have hl : lv_has ls 3 [(0, .ref (ad g))] := hl
  generalize AA ad (69 + K) sz = A at Z ⊢
  have hx := C.x
  have hb := C.b
  delta P_X2_pullByDraws at hB
  refine lv_aload_n hx hb dX2_pullByDraws_0 rfl (lv_at hl 0 rfl) ?_
  refine v_X2_draw C hl.1 Z hg tw_4_62 ⟨Nat.le_of_ble_eq_true rfl, Nat.le_of_ble_eq_true rfl⟩ ⟨Nat.le_refl _, Nat.le_refl _⟩ (Nat.le_of_ble_eq_true rfl) dX2_pullByDraws_1 hB (fun v1 M2 H locs hB Z => ?_)
  refine lv_bipush (v := 8) hx hb dX2_pullByDraws_4 (by decide) ?_
  refine lv_irem hx hb dX2_pullByDraws_6 (by decide) ?_
  refine lv_topi (fun x1_3 ex1_3 => ?_)
  have hB := hB x1_3 ex1_3
  refine lv_istore_n (lv' := [(1, .int x1_3), (0, .ref (ad g))]) hx hb dX2_pullByDraws_7 rfl hl (by decide) rfl (fun ls hl => ?_)
  refine lv_aload_n hx hb dX2_pullByDraws_8 rfl (lv_at hl 1 rfl) ?_
  refine v_X2_draw C hl.1 Z hg tw_4_62 ⟨Nat.le_of_ble_eq_true rfl, Nat.le_of_ble_eq_true rfl⟩ ⟨Nat.le_refl _, Nat.le_refl _⟩ (Nat.le_of_ble_eq_true rfl) dX2_pullByDraws_9 hB (fun v4 M5 H locs hB Z => ?_)
  refine lv_bipush (v := 8) hx hb dX2_pullByDraws_12 (by decide) ?_
  refine lv_irem hx hb dX2_pullByDraws_14 (by decide) ?_
  refine lv_topi (fun x2_6 ex2_6 => ?_)
  have hB := hB x2_6 ex2_6
  refine lv_istore_n (lv' := [(2, .int x2_6), (1, .int x1_3), (0, .ref (ad g))]) hx hb dX2_pullByDraws_15 rfl hl (by decide) rfl (fun ls hl => ?_)
  refine lv_iload_n hx hb dX2_pullByDraws_16 rfl (lv_at hl 1 rfl) ?_
  refine lv_aload_n hx hb dX2_pullByDraws_17 rfl (lv_at hl 2 rfl) ?_
  refine gf_X2_0 C Z.1 hg tw_1_127 dX2_pullByDraws_18 ?_
  refine lv_icmp_ge (tgt := 47) hx hb dX2_pullByDraws_21 (by decide) (fun q7 => ?_) (fun q7 => ?_)
  · have hB := hB.1 q7
    exact e_vW C hr hlk Z dX2_pullByDraws_47 hB
  · have hB := hB.2 q7
    refine lv_iload_n hx hb dX2_pullByDraws_24 rfl (lv_at hl 0 rfl) ?_
    refine lv_aload_n hx hb dX2_pullByDraws_25 rfl (lv_at hl 2 rfl) ?_
    refine gf_X2_0 C Z.1 hg tw_1_127 dX2_pullByDraws_26 ?_
    refine lv_icmp_ge (tgt := 47) hx hb dX2_pullByDraws_29 (by decide) (fun q8 => ?_) (fun q8 => ?_)
    · have hB := hB.1 q8
      exact e_vW C hr hlk Z dX2_pullByDraws_47 hB
    · have hB := hB.2 q8
      refine lv_aload_n hx hb dX2_pullByDraws_32 rfl (lv_at hl 2 rfl) ?_
      refine lv_iload_n hx hb dX2_pullByDraws_33 rfl (lv_at hl 1 rfl) ?_
      refine lv_iload_n hx hb dX2_pullByDraws_34 rfl (lv_at hl 0 rfl) ?_
      refine v_X2_canPull C hl.1 Z.1 hg tw_4_32 ⟨Nat.le_of_ble_eq_true rfl, Nat.le_of_ble_eq_true rfl⟩ ⟨Nat.le_refl _, Nat.le_refl _⟩ (Nat.le_of_ble_eq_true rfl) dX2_pullByDraws_35 hB (fun v9 hB => ?_)
      refine lv_if_eq (tgt := 47) hx hb dX2_pullByDraws_38 (by decide) (fun q10 => ?_) (fun q10 => ?_)
      · have hB := hB.1 q10
        exact e_vW C hr hlk Z dX2_pullByDraws_47 hB
      · have hB := hB.2 q10
        refine lv_aload_n hx hb dX2_pullByDraws_41 rfl (lv_at hl 2 rfl) ?_
        refine lv_iload_n hx hb dX2_pullByDraws_42 rfl (lv_at hl 1 rfl) ?_
        refine lv_iload_n hx hb dX2_pullByDraws_43 rfl (lv_at hl 0 rfl) ?_
        refine v_X2_pullBy C hl.1 Z hg tw_4_36 ⟨Nat.le_of_ble_eq_true rfl, Nat.le_of_ble_eq_true rfl⟩ ⟨Nat.le_refl _, Nat.le_refl _⟩ (Nat.le_of_ble_eq_true rfl) dX2_pullByDraws_44 hB (fun M11 H locs hB Z => ?_)
        exact e_vW C hr hlk Z dX2_pullByDraws_47 hB
set_option maxRecDepth 100000 in
set_option maxHeartbeats 4000000 in
theorem v_X2_pullByDraws {K : Nat} {M : Mem} {g : Nat} {Q1 : Mem → Prop} (C : Cx T D p s m args c cc nL own) (hls : ls.size = nL) (Z : Zz EC T D ad (69 + K) A H0 M H locs) (hg : isH g) (hlink : Cond.methodLink own index yX2_pullByDraws ∈ TB) (hR : 2 + 1 ≤ R.frames ∧ 8 + (3 + 11) + 48 * 2 ≤ R.locals) (hcs : cells ≤ R.cells ∧ slots ≤ R.slots) (hcat : (rest.map fun v => v.category).sum ≤ 8) (hdg : decode cc pc = .ok (.invokevirtual index, 3)) (hB : P_X2_pullByDraws K M g Q1)
    (kk : ∀ (M1 : Mem) (H1 : Heap) (locs1 : List Loc), Q1 M1 → Zz EC T D ad (69 + K) A H0 M1 H1 locs1 → W p l e R s m args below meth c H1 locs1 cells slots QQ (F0 m (pc + 3) ls rest)) : W p l e R s m args below meth c H locs cells slots QQ (F0 m pc ls (.ref (ad g) :: rest)) :=
  k_VV (ci := 2) (n := 0) (c_X2_pullByDraws hg hB) tw_4_61 tw_4_59 tw_4_60 tw_1_10 ⟨rfl, by decide, by decide, by decide +kernel⟩ rfl rfl C hls Z (oH hg) hlink hR hcs hcat rfl hdg kk
def B_X11_loose_19 (K : Nat) (Q1 : Int32 → Mem → Prop) (x1 : Int32) (x2 : Int32) (M : Mem) : Prop :=
  ∀ X19 : Int32 → Mem → Prop, (∀ (x2 : Int32) (M : Mem), (((x1 ≤ x2 → Q1 (M 30 12) M) ∧
    (¬ x1 ≤ x2 → P_X2_pullByDraws K M 30 (fun M6 => P_X2_passHour K M6 30 (fun M7 => ∀ x2_8 : Int32, x2_8 = x2 + 1 → X19 x2_8 M7))))) → X19 x2 M) → X19 x2 M
def P_X11_loose (K : Nat) (M : Mem) (x1 : Int32) (Q1 : Int32 → Mem → Prop) : Prop :=
  ((x1 < 1 → P_X11_error K M 1 (fun v2 M3 => Q1 v2 M3)) ∧
    (¬ x1 < 1 → ((x1 ≤ 100 → B_X11_loose_19 K Q1 x1 0 M) ∧
      (¬ x1 ≤ 100 → P_X11_error K M 1 (fun v9 M10 => Q1 v9 M10)))))
set_option maxRecDepth 100000 in
set_option maxHeartbeats 4000000 in
theorem w_X11_loose_19 {K : Nat} {M : Mem} {Q1 : Int32 → Mem → Prop} {x1 : Int32} {x2 : Int32} (C : Cx T D p s m args c cX11_loose 3 "OneOfTwo") (hr : meth.sig.returnType = (some .int)) (hlk : meth.locks = false) (Z : Zz EC T D ad (69 + K) A s.heap M H locs) {ls : Array Slot} (hl : lv_has ls 3 [(0, .ref (ad 0)), (1, .int x1), (2, .int x2)]) (hB : B_X11_loose_19 K Q1 x1 x2 M) : W p l e (RM 8) s m args below meth c H locs 0 0 (MQ below (QcW EC T D ad (69 + K) A Q1) args s 0 0 A) (F0 m 19 ls []) := by
  delta B_X11_loose_19 at hB
  obtain ⟨X19, hX19, hY19⟩ : ∃ X19 : Int32 → Mem → Prop, (∀ (x2 : Int32) (M : Mem), X19 x2 M → ∀ (H : Heap) (locs : List Loc) (ls : Array Slot), Zz EC T D ad (69 + K) A s.heap M H locs → lv_has ls 3 [(0, .ref (ad 0)), (1, .int x1), (2, .int x2)] → W p l e (RM 8) s m args below meth c H locs 0 0 (MQ below (QcW EC T D ad (69 + K) A Q1) args s 0 0 A) (F0 m 19 ls [])) ∧ (∀ (x2 : Int32) (M : Mem), (∀ (H : Heap) (locs : List Loc) (ls : Array Slot), Zz EC T D ad (69 + K) A s.heap M H locs → lv_has ls 3 [(0, .ref (ad 0)), (1, .int x1), (2, .int x2)] → W p l e (RM 8) s m args below meth c H locs 0 0 (MQ below (QcW EC T D ad (69 + K) A Q1) args s 0 0 A) (F0 m 19 ls [])) → X19 x2 M) := ⟨fun (x2 : Int32) (M : Mem) => ∀ (H : Heap) (locs : List Loc) (ls : Array Slot), Zz EC T D ad (69 + K) A s.heap M H locs → lv_has ls 3 [(0, .ref (ad 0)), (1, .int x1), (2, .int x2)] → W p l e (RM 8) s m args below meth c H locs 0 0 (MQ below (QcW EC T D ad (69 + K) A Q1) args s 0 0 A) (F0 m 19 ls []), fun _ _ h => h, fun _ _ h => h⟩
  refine hX19 _ _ (hB X19 (fun x2 M hB => hY19 _ _ (fun H locs ls Z hl => ?_))) _ _ _ Z hl
  have hx := C.x
  have hb := C.b
  refine lv_iload_n hx hb dX11_loose_19 rfl (lv_at hl 2 rfl) ?_
  refine lv_iload_n hx hb dX11_loose_20 rfl (lv_at hl 1 rfl) ?_
  refine lv_icmp_ge (tgt := 44) hx hb dX11_loose_21 (by decide) (fun q5 => ?_) (fun q5 => ?_)
  · have hB := hB.1 q5
    refine lv_aload_n hx hb dX11_loose_44 rfl (lv_at hl 0 rfl) ?_
    refine gf_X11_5 C Z.1 tw_2_17 dX11_loose_45 ?_
    refine gf_X2_12 C Z.1 isH_0 tw_1_160 dX11_loose_48 ?_
    exact e_iW C hr hlk Z dX11_loose_51 hB
  · have hB := hB.2 q5
    refine lv_aload_n hx hb dX11_loose_24 rfl (lv_at hl 0 rfl) ?_
    refine gf_X11_5 C Z.1 tw_2_17 dX11_loose_25 ?_
    refine v_X2_pullByDraws C hl.1 Z isH_0 tw_4_58 ⟨Nat.le_of_ble_eq_true rfl, Nat.le_of_ble_eq_true rfl⟩ ⟨Nat.le_refl _, Nat.le_refl _⟩ (Nat.le_of_ble_eq_true rfl) dX11_loose_28 hB (fun M6 H locs hB Z => ?_)
    refine lv_aload_n hx hb dX11_loose_31 rfl (lv_at hl 0 rfl) ?_
    refine gf_X11_5 C Z.1 tw_2_17 dX11_loose_32 ?_
    refine v_X2_passHour C hl.1 Z isH_0 tw_4_41 ⟨Nat.le_of_ble_eq_true rfl, Nat.le_of_ble_eq_true rfl⟩ ⟨Nat.le_refl _, Nat.le_refl _⟩ (Nat.le_of_ble_eq_true rfl) dX11_loose_35 hB (fun M7 H locs hB Z => ?_)
    obtain ⟨x2_8, ex2_8⟩ : ∃ y : Int32, y = x2 + 1 := ⟨_, rfl⟩
    have hB := hB x2_8 ex2_8
    refine lv_iinc (v := x2_8) (lv' := [(2, .int x2_8), (0, .ref (ad 0)), (1, .int x1)]) hx hb dX11_loose_38 hl (k := 2) rfl (by rw [ex2_8]; rfl) (by decide) rfl (fun ls hl => ?_)
    refine lv_goto (tgt := 19) hx hb dX11_loose_41 (by decide) ?_
    exact hX19 _ _ hB _ _ _ Z (lv_sub hl [1, 2, 0] rfl)
set_option maxRecDepth 100000 in
set_option maxHeartbeats 4000000 in
theorem c_X11_loose {l : Launch} {T : Nat → ClassId} {D : va_G} {ad : Nat → Nat} {K : Nat} {M : Mem} {x1 : Int32} {sz : Nat} {Q1 : Int32 → Mem → Prop} (hB : P_X11_loose K M x1 Q1) : Met l yX11_loose (Cond.code yX11_loose cX11_loose 3 (some .int) :: TB) (RM 8) (va_Pc [.ref (ad 0), .int x1] (WrP EC T D ad (69 + K) M sz)) (QcW EC T D ad (69 + K) (AA ad (69 + K) sz) Q1) 0 0 (AA ad (69 + K) sz) := by
  refine st_W (by decide) (Nat.le_of_ble_eq_true rfl) (fun p e s m args below meth c ls C hr hlk hsz Z hl => ?_)
  have hl : lv_has ls 3 [(0, .ref (ad 0)), (1, .int x1)] := hl
  generalize AA ad (69 + K) sz = A at Z ⊢
  have hx := C.x
  have hb := C.b
  delta P_X11_loose at hB
  refine lv_iload_n hx hb dX11_loose_0 rfl (lv_at hl 1 rfl) ?_
  refine lv_iconst (v := 1) hx hb dX11_loose_1 (by decide) ?_
  refine lv_icmp_lt (tgt := 11) hx hb dX11_loose_2 (by decide) (fun q1 => ?_) (fun q1 => ?_)
  · have hB := hB.1 q1
    refine lv_aload_n hx hb dX11_loose_11 rfl (lv_at hl 0 rfl) ?_
    refine lv_iconst (v := 1) hx hb dX11_loose_12 (by decide) ?_
    refine v_X11_error C hl.1 Z tw_2_56 ⟨Nat.le_of_ble_eq_true rfl, Nat.le_of_ble_eq_true rfl⟩ ⟨Nat.le_refl _, Nat.le_refl _⟩ (Nat.le_of_ble_eq_true rfl) dX11_loose_13 hB (fun v2 M3 H locs hB Z => ?_)
    exact e_iW C hr hlk Z dX11_loose_16 hB
  · have hB := hB.2 q1
    refine lv_iload_n hx hb dX11_loose_5 rfl (lv_at hl 1 rfl) ?_
    refine lv_bipush (v := 100) hx hb dX11_loose_6 (by decide) ?_
    refine lv_icmp_le (tgt := 17) hx hb dX11_loose_8 (by decide) (fun q4 => ?_) (fun q4 => ?_)
    · have hB := hB.1 q4
      refine lv_iconst (v := 0) hx hb dX11_loose_17 (by decide) ?_
      refine lv_istore_n (lv' := [(2, .int 0), (0, .ref (ad 0)), (1, .int x1)]) hx hb dX11_loose_18 rfl hl (by decide) rfl (fun ls hl => ?_)
      exact w_X11_loose_19 C hr hlk Z (lv_sub hl [1, 2, 0] rfl) hB
    · have hB := hB.2 q4
      refine lv_aload_n hx hb dX11_loose_11 rfl (lv_at hl 0 rfl) ?_
      refine lv_iconst (v := 1) hx hb dX11_loose_12 (by decide) ?_
      refine v_X11_error C hl.1 Z tw_2_56 ⟨Nat.le_of_ble_eq_true rfl, Nat.le_of_ble_eq_true rfl⟩ ⟨Nat.le_refl _, Nat.le_refl _⟩ (Nat.le_of_ble_eq_true rfl) dX11_loose_13 hB (fun v9 M10 H locs hB Z => ?_)
      exact e_iW C hr hlk Z dX11_loose_16 hB
set_option maxRecDepth 100000 in
set_option maxHeartbeats 4000000 in
theorem v_X11_loose {K : Nat} {M : Mem} {x1 : Int32} {Q1 : Int32 → Mem → Prop} (C : Cx T D p s m args c cc nL own) (hls : ls.size = nL) (Z : Zz EC T D ad (69 + K) A H0 M H locs) (hlink : Cond.methodLink own index yX11_loose ∈ TB) (hR : 8 + 1 ≤ R.frames ∧ 8 + (3 + 11) + 48 * 8 ≤ R.locals) (hcs : cells ≤ R.cells ∧ slots ≤ R.slots) (hcat : (rest.map fun v => v.category).sum ≤ 8) (hdg : decode cc pc = .ok (.invokevirtual index, 3)) (hB : P_X11_loose K M x1 Q1)
    (kk : ∀ (r : Int32) (M1 : Mem) (H1 : Heap) (locs1 : List Loc), Q1 r M1 → Zz EC T D ad (69 + K) A H0 M1 H1 locs1 → W p l e R s m args below meth c H1 locs1 cells slots QQ (F0 m (pc + 3) ls (.int r :: rest))) : W p l e R s m args below meth c H locs cells slots QQ (F0 m pc ls (.int x1 :: .ref (ad 0) :: rest)) :=
  k_VW (ci := 11) (n := 1) (c_X11_loose hB) tw_4_57 tw_4_55 tw_4_56 tw_1_1 ⟨rfl, by decide, by decide, by decide +kernel⟩ rfl rfl C hls Z oO hlink hR hcs hcat rfl hdg kk
def P_X11_hour (K : Nat) (M : Mem) (x1 : Int32) (Q1 : Int32 → Mem → Prop) : Prop :=
  ((x1 < 0 → P_X11_error K M 1 (fun v2 M3 => Q1 v2 M3)) ∧
    (¬ x1 < 0 → ((x1 < 24 → ∀ x2_5 : Int32, x2_5 = M 30 10 → ∀ M6 : Mem, M6 = sf M 30 10 x1 → Q1 x2_5 M6) ∧
      (¬ x1 < 24 → P_X11_error K M 1 (fun v7 M8 => Q1 v7 M8)))))
set_option maxRecDepth 100000 in
set_option maxHeartbeats 4000000 in
theorem c_X11_hour {l : Launch} {T : Nat → ClassId} {D : va_G} {ad : Nat → Nat} {K : Nat} {M : Mem} {x1 : Int32} {sz : Nat} {Q1 : Int32 → Mem → Prop} (hB : P_X11_hour K M x1 Q1) : Met l yX11_hour (Cond.code yX11_hour cX11_hour 3 (some .int) :: TB) (RM 2) (va_Pc [.ref (ad 0), .int x1] (WrP EC T D ad (69 + K) M sz)) (QcW EC T D ad (69 + K) (AA ad (69 + K) sz) Q1) 0 0 (AA ad (69 + K) sz) := by
  refine st_W (by decide) (Nat.le_of_ble_eq_true rfl) (fun p e s m args below meth c ls C hr hlk hsz Z hl => ?_)
  have hl : lv_has ls 3 [(0, .ref (ad 0)), (1, .int x1)] := hl
  generalize AA ad (69 + K) sz = A at Z ⊢
  have hx := C.x
  have hb := C.b
  delta P_X11_hour at hB
  refine lv_iload_n hx hb dX11_hour_0 rfl (lv_at hl 1 rfl) ?_
  refine lv_if_lt (tgt := 10) hx hb dX11_hour_1 (by decide) (fun q1 => ?_) (fun q1 => ?_)
  · have hB := hB.1 q1
    refine lv_aload_n hx hb dX11_hour_10 rfl (lv_at hl 0 rfl) ?_
    refine lv_iconst (v := 1) hx hb dX11_hour_11 (by decide) ?_
    refine v_X11_error C hl.1 Z tw_2_56 ⟨Nat.le_of_ble_eq_true rfl, Nat.le_of_ble_eq_true rfl⟩ ⟨Nat.le_refl _, Nat.le_refl _⟩ (Nat.le_of_ble_eq_true rfl) dX11_hour_12 hB (fun v2 M3 H locs hB Z => ?_)
    exact e_iW C hr hlk Z dX11_hour_15 hB
  · have hB := hB.2 q1
    refine lv_iload_n hx hb dX11_hour_4 rfl (lv_at hl 1 rfl) ?_
    refine lv_bipush (v := 24) hx hb dX11_hour_5 (by decide) ?_
    refine lv_icmp_lt (tgt := 16) hx hb dX11_hour_7 (by decide) (fun q4 => ?_) (fun q4 => ?_)
    · have hB := hB.1 q4
      refine lv_aload_n hx hb dX11_hour_16 rfl (lv_at hl 0 rfl) ?_
      refine gf_X11_5 C Z.1 tw_2_17 dX11_hour_17 ?_
      refine gf_X2_10 C Z.1 isH_0 tw_1_156 dX11_hour_20 ?_
      refine lv_topi (fun x2_5 ex2_5 => ?_)
      have hB := hB x2_5 ex2_5
      refine lv_istore_n (lv' := [(2, .int x2_5), (0, .ref (ad 0)), (1, .int x1)]) hx hb dX11_hour_23 rfl hl (by decide) rfl (fun ls hl => ?_)
      refine lv_aload_n hx hb dX11_hour_24 rfl (lv_at hl 1 rfl) ?_
      refine gf_X11_5 C Z.1 tw_2_17 dX11_hour_25 ?_
      refine lv_iload_n hx hb dX11_hour_28 rfl (lv_at hl 2 rfl) ?_
      refine pf_X2_10 C Z isH_0 tw_1_156 dX11_hour_29 (fun M6 H locs eM6 Z => ?_)
      have hB := hB M6 eM6
      refine lv_iload_n hx hb dX11_hour_32 rfl (lv_at hl 0 rfl) ?_
      exact e_iW C hr hlk Z dX11_hour_33 hB
    · have hB := hB.2 q4
      refine lv_aload_n hx hb dX11_hour_10 rfl (lv_at hl 0 rfl) ?_
      refine lv_iconst (v := 1) hx hb dX11_hour_11 (by decide) ?_
      refine v_X11_error C hl.1 Z tw_2_56 ⟨Nat.le_of_ble_eq_true rfl, Nat.le_of_ble_eq_true rfl⟩ ⟨Nat.le_refl _, Nat.le_refl _⟩ (Nat.le_of_ble_eq_true rfl) dX11_hour_12 hB (fun v7 M8 H locs hB Z => ?_)
      exact e_iW C hr hlk Z dX11_hour_15 hB
set_option maxRecDepth 100000 in
set_option maxHeartbeats 4000000 in
theorem v_X11_hour {K : Nat} {M : Mem} {x1 : Int32} {Q1 : Int32 → Mem → Prop} (C : Cx T D p s m args c cc nL own) (hls : ls.size = nL) (Z : Zz EC T D ad (69 + K) A H0 M H locs) (hlink : Cond.methodLink own index yX11_hour ∈ TB) (hR : 2 + 1 ≤ R.frames ∧ 8 + (3 + 11) + 48 * 2 ≤ R.locals) (hcs : cells ≤ R.cells ∧ slots ≤ R.slots) (hcat : (rest.map fun v => v.category).sum ≤ 8) (hdg : decode cc pc = .ok (.invokevirtual index, 3)) (hB : P_X11_hour K M x1 Q1)
    (kk : ∀ (r : Int32) (M1 : Mem) (H1 : Heap) (locs1 : List Loc), Q1 r M1 → Zz EC T D ad (69 + K) A H0 M1 H1 locs1 → W p l e R s m args below meth c H1 locs1 cells slots QQ (F0 m (pc + 3) ls (.int r :: rest))) : W p l e R s m args below meth c H locs cells slots QQ (F0 m pc ls (.int x1 :: .ref (ad 0) :: rest)) :=
  k_VW (ci := 11) (n := 1) (c_X11_hour hB) tw_4_70 tw_4_68 tw_4_69 tw_1_1 ⟨rfl, by decide, by decide, by decide +kernel⟩ rfl rfl C hls Z oO hlink hR hcs hcat rfl hdg kk
def P_X11_lock (K : Nat) (M : Mem) (x1 : Int32) (x2 : Int32) (Q1 : Int32 → Mem → Prop) : Prop :=
  ((x1 < 0 → P_X11_error K M 1 (fun v2 M3 => Q1 v2 M3)) ∧
    (¬ x1 < 0 → ((24 < x1 → P_X11_error K M 1 (fun v5 M6 => Q1 v5 M6)) ∧
      (¬ 24 < x1 → ((x2 < 0 → P_X11_error K M 1 (fun v8 M9 => Q1 v8 M9)) ∧
        (¬ x2 < 0 → ((x2 ≤ 24 → ∀ M11 : Mem, M11 = sf M 30 13 x1 → ∀ M12 : Mem, M12 = sf M11 30 14 x2 → P_X2_isLocked K M12 30 (fun v13 => ((v13 = 0 → Q1 0 M12) ∧
            (¬ v13 = 0 → Q1 1 M12)))) ∧
          (¬ x2 ≤ 24 → P_X11_error K M 1 (fun v15 M16 => Q1 v15 M16)))))))))
set_option maxRecDepth 100000 in
set_option maxHeartbeats 4000000 in
theorem c_X11_lock {l : Launch} {T : Nat → ClassId} {D : va_G} {ad : Nat → Nat} {K : Nat} {M : Mem} {x1 : Int32} {x2 : Int32} {sz : Nat} {Q1 : Int32 → Mem → Prop} (hB : P_X11_lock K M x1 x2 Q1) : Met l yX11_lock (Cond.code yX11_lock cX11_lock 3 (some .int) :: TB) (RM 2) (va_Pc [.ref (ad 0), .int x1, .int x2] (WrP EC T D ad (69 + K) M sz)) (QcW EC T D ad (69 + K) (AA ad (69 + K) sz) Q1) 0 0 (AA ad (69 + K) sz) := by
  refine st_W (by decide) (Nat.le_of_ble_eq_true rfl) (fun p e s m args below meth c ls C hr hlk hsz Z hl => ?_)
  have hl : lv_has ls 3 [(0, .ref (ad 0)), (1, .int x1), (2, .int x2)] := hl
  generalize AA ad (69 + K) sz = A at Z ⊢
  have hx := C.x
  have hb := C.b
  delta P_X11_lock at hB
  refine lv_iload_n hx hb dX11_lock_0 rfl (lv_at hl 1 rfl) ?_
  refine lv_if_lt (tgt := 20) hx hb dX11_lock_1 (by decide) (fun q1 => ?_) (fun q1 => ?_)
  · have hB := hB.1 q1
    refine lv_aload_n hx hb dX11_lock_20 rfl (lv_at hl 0 rfl) ?_
    refine lv_iconst (v := 1) hx hb dX11_lock_21 (by decide) ?_
    refine v_X11_error C hl.1 Z tw_2_56 ⟨Nat.le_of_ble_eq_true rfl, Nat.le_of_ble_eq_true rfl⟩ ⟨Nat.le_refl _, Nat.le_refl _⟩ (Nat.le_of_ble_eq_true rfl) dX11_lock_22 hB (fun v2 M3 H locs hB Z => ?_)
    exact e_iW C hr hlk Z dX11_lock_25 hB
  · have hB := hB.2 q1
    refine lv_iload_n hx hb dX11_lock_4 rfl (lv_at hl 1 rfl) ?_
    refine lv_bipush (v := 24) hx hb dX11_lock_5 (by decide) ?_
    refine lv_icmp_gt (tgt := 20) hx hb dX11_lock_7 (by decide) (fun q4 => ?_) (fun q4 => ?_)
    · have hB := hB.1 q4
      refine lv_aload_n hx hb dX11_lock_20 rfl (lv_at hl 0 rfl) ?_
      refine lv_iconst (v := 1) hx hb dX11_lock_21 (by decide) ?_
      refine v_X11_error C hl.1 Z tw_2_56 ⟨Nat.le_of_ble_eq_true rfl, Nat.le_of_ble_eq_true rfl⟩ ⟨Nat.le_refl _, Nat.le_refl _⟩ (Nat.le_of_ble_eq_true rfl) dX11_lock_22 hB (fun v5 M6 H locs hB Z => ?_)
      exact e_iW C hr hlk Z dX11_lock_25 hB
    · have hB := hB.2 q4
      refine lv_iload_n hx hb dX11_lock_10 rfl (lv_at hl 2 rfl) ?_
      refine lv_if_lt (tgt := 20) hx hb dX11_lock_11 (by decide) (fun q7 => ?_) (fun q7 => ?_)
      · have hB := hB.1 q7
        refine lv_aload_n hx hb dX11_lock_20 rfl (lv_at hl 0 rfl) ?_
        refine lv_iconst (v := 1) hx hb dX11_lock_21 (by decide) ?_
        refine v_X11_error C hl.1 Z tw_2_56 ⟨Nat.le_of_ble_eq_true rfl, Nat.le_of_ble_eq_true rfl⟩ ⟨Nat.le_refl _, Nat.le_refl _⟩ (Nat.le_of_ble_eq_true rfl) dX11_lock_22 hB (fun v8 M9 H locs hB Z => ?_)
        exact e_iW C hr hlk Z dX11_lock_25 hB
      · have hB := hB.2 q7
        refine lv_iload_n hx hb dX11_lock_14 rfl (lv_at hl 2 rfl) ?_
        refine lv_bipush (v := 24) hx hb dX11_lock_15 (by decide) ?_
        refine lv_icmp_le (tgt := 26) hx hb dX11_lock_17 (by decide) (fun q10 => ?_) (fun q10 => ?_)
        · have hB := hB.1 q10
          refine lv_aload_n hx hb dX11_lock_26 rfl (lv_at hl 0 rfl) ?_
          refine gf_X11_5 C Z.1 tw_2_17 dX11_lock_27 ?_
          refine lv_iload_n hx hb dX11_lock_30 rfl (lv_at hl 1 rfl) ?_
          refine pf_X2_13 C Z isH_0 tw_1_162 dX11_lock_31 (fun M11 H locs eM11 Z => ?_)
          have hB := hB M11 eM11
          refine lv_aload_n hx hb dX11_lock_34 rfl (lv_at hl 0 rfl) ?_
          refine gf_X11_5 C Z.1 tw_2_17 dX11_lock_35 ?_
          refine lv_iload_n hx hb dX11_lock_38 rfl (lv_at hl 2 rfl) ?_
          refine pf_X2_14 C Z isH_0 tw_1_164 dX11_lock_39 (fun M12 H locs eM12 Z => ?_)
          have hB := hB M12 eM12
          refine lv_aload_n hx hb dX11_lock_42 rfl (lv_at hl 0 rfl) ?_
          refine gf_X11_5 C Z.1 tw_2_17 dX11_lock_43 ?_
          refine v_X2_isLocked C hl.1 Z.1 isH_0 tw_2_123 ⟨Nat.le_of_ble_eq_true rfl, Nat.le_of_ble_eq_true rfl⟩ ⟨Nat.le_refl _, Nat.le_refl _⟩ (Nat.le_of_ble_eq_true rfl) dX11_lock_46 hB (fun v13 hB => ?_)
          refine lv_if_eq (tgt := 56) hx hb dX11_lock_49 (by decide) (fun q14 => ?_) (fun q14 => ?_)
          · have hB := hB.1 q14
            refine lv_iconst (v := 0) hx hb dX11_lock_56 (by decide) ?_
            exact e_iW C hr hlk Z dX11_lock_57 hB
          · have hB := hB.2 q14
            refine lv_iconst (v := 1) hx hb dX11_lock_52 (by decide) ?_
            refine lv_goto (tgt := 57) hx hb dX11_lock_53 (by decide) ?_
            exact e_iW C hr hlk Z dX11_lock_57 hB
        · have hB := hB.2 q10
          refine lv_aload_n hx hb dX11_lock_20 rfl (lv_at hl 0 rfl) ?_
          refine lv_iconst (v := 1) hx hb dX11_lock_21 (by decide) ?_
          refine v_X11_error C hl.1 Z tw_2_56 ⟨Nat.le_of_ble_eq_true rfl, Nat.le_of_ble_eq_true rfl⟩ ⟨Nat.le_refl _, Nat.le_refl _⟩ (Nat.le_of_ble_eq_true rfl) dX11_lock_22 hB (fun v15 M16 H locs hB Z => ?_)
          exact e_iW C hr hlk Z dX11_lock_25 hB
set_option maxRecDepth 100000 in
set_option maxHeartbeats 4000000 in
theorem v_X11_lock {K : Nat} {M : Mem} {x1 : Int32} {x2 : Int32} {Q1 : Int32 → Mem → Prop} (C : Cx T D p s m args c cc nL own) (hls : ls.size = nL) (Z : Zz EC T D ad (69 + K) A H0 M H locs) (hlink : Cond.methodLink own index yX11_lock ∈ TB) (hR : 2 + 1 ≤ R.frames ∧ 8 + (3 + 11) + 48 * 2 ≤ R.locals) (hcs : cells ≤ R.cells ∧ slots ≤ R.slots) (hcat : (rest.map fun v => v.category).sum ≤ 8) (hdg : decode cc pc = .ok (.invokevirtual index, 3)) (hB : P_X11_lock K M x1 x2 Q1)
    (kk : ∀ (r : Int32) (M1 : Mem) (H1 : Heap) (locs1 : List Loc), Q1 r M1 → Zz EC T D ad (69 + K) A H0 M1 H1 locs1 → W p l e R s m args below meth c H1 locs1 cells slots QQ (F0 m (pc + 3) ls (.int r :: rest))) : W p l e R s m args below meth c H locs cells slots QQ (F0 m pc ls (.int x2 :: .int x1 :: .ref (ad 0) :: rest)) :=
  k_VW (ci := 11) (n := 2) (c_X11_lock hB) tw_4_74 tw_4_72 tw_4_73 tw_1_1 ⟨rfl, by decide, by decide, by decide +kernel⟩ rfl rfl C hls Z oO hlink hR hcs hcat rfl hdg kk
def P_X4_copyFrom (K : Nat) (M : Mem) (g : Nat) (r1 : Nat) (Q1 : Mem → Prop) : Prop :=
  ∀ v1 : Int32, v1 = (if (Int32.ofNat (rLen r1)) < (Int32.ofNat (rLen g)) then (Int32.ofNat (rLen r1)) else (Int32.ofNat (rLen g))) → ¬ (0 : Int32) < 0 ∧ ¬ (0 : Int32) < 0 ∧ ¬ v1 < 0 ∧ (0 : Int32).toNatClampNeg + v1.toNatClampNeg ≤ (rLen r1) ∧ (0 : Int32).toNatClampNeg + v1.toNatClampNeg ≤ (rLen g) ∧ ∀ M7 : Mem, M7 = mu M (g + 1) (va_cpy (M (r1 + 1)) (M (g + 1)) (0 : Int32).toNatClampNeg (0 : Int32).toNatClampNeg v1.toNatClampNeg) → ∀ v8 : Int32, v8 = M7 r1 1 → ∀ M9 : Mem, M9 = sf M7 g 1 v8 → Q1 M9
set_option maxRecDepth 100000 in
set_option maxHeartbeats 4000000 in
theorem c_X4_copyFrom {l : Launch} {T : Nat → ClassId} {D : va_G} {ad : Nat → Nat} {K : Nat} {M : Mem} {g : Nat} {r1 : Nat} {sz : Nat} {Q1 : Mem → Prop} (hg : isR g) (f1 : isR r1) (hB : P_X4_copyFrom K M g r1 Q1) : Met l yX4_copyFrom (Cond.code yX4_copyFrom cX4_copyFrom 2 none :: TB) (RM 2) (va_Pc [.ref (ad g), .ref (ad r1)] (WrP EC T D ad (69 + K) M sz)) (QcV EC T D ad (69 + K) (AA ad (69 + K) sz) Q1) 0 0 (AA ad (69 + K) sz) := by
  refine st_W (by decide) (Nat.le_of_ble_eq_true rfl) (fun p e s m args below meth c ls C hr hlk hsz Z hl => ?_)
  have hl : lv_has ls 2 [(0, .ref (ad g)), (1, .ref (ad r1))] := hl
  generalize AA ad (69 + K) sz = A at Z ⊢
  have hx := C.x
  have hb := C.b
  delta P_X4_copyFrom at hB
  refine lv_aload_n hx hb dX4_copyFrom_0 rfl (lv_at hl 1 rfl) ?_
  refine gf_X4_0 C Z.1 f1 tw_1_40 dX4_copyFrom_1 ?_
  refine lv_iconst (v := 0) hx hb dX4_copyFrom_4 (by decide) ?_
  refine lv_aload_n hx hb dX4_copyFrom_5 rfl (lv_at hl 0 rfl) ?_
  refine gf_X4_0 C Z.1 hg tw_1_40 dX4_copyFrom_6 ?_
  refine lv_iconst (v := 0) hx hb dX4_copyFrom_9 (by decide) ?_
  refine lv_aload_n hx hb dX4_copyFrom_10 rfl (lv_at hl 0 rfl) ?_
  refine gf_X4_0 C Z.1 hg tw_1_40 dX4_copyFrom_11 ?_
  refine a_len (v := Int32.ofNat (rLen g)) C Z.1 (aR hg) rfl dX4_copyFrom_14 ?_
  refine lv_aload_n hx hb dX4_copyFrom_15 rfl (lv_at hl 1 rfl) ?_
  refine gf_X4_0 C Z.1 f1 tw_1_40 dX4_copyFrom_16 ?_
  refine a_len (v := Int32.ofNat (rLen r1)) C Z.1 (aR f1) rfl dX4_copyFrom_19 ?_
  refine m_min C.1 hl.1 tw_4_90 (Nat.le_of_ble_eq_true rfl) (Nat.le_of_ble_eq_true rfl) dX4_copyFrom_20 ?_
  refine lv_topi (fun v1 ev1 => ?_)
  have hB := hB v1 ev1
  obtain ⟨q2, q3, q4, q5, q6, hB⟩ := hB
  refine a_cp C Z hl.1 (aR f1) (aR hg) q2 q3 q4 q5 q6 tw_4_91 (Nat.le_of_ble_eq_true rfl) (Nat.le_of_ble_eq_true rfl) dX4_copyFrom_23 (fun M7 H locs eM7 Z => ?_)
  have hB := hB M7 eM7
  refine lv_aload_n hx hb dX4_copyFrom_26 rfl (lv_at hl 0 rfl) ?_
  refine lv_aload_n hx hb dX4_copyFrom_27 rfl (lv_at hl 1 rfl) ?_
  refine gf_X4_1 C Z.1 f1 tw_1_44 dX4_copyFrom_28 ?_
  refine lv_topi (fun v8 ev8 => ?_)
  have hB := hB v8 ev8
  refine pf_X4_1 C Z hg tw_1_44 dX4_copyFrom_31 (fun M9 H locs eM9 Z => ?_)
  have hB := hB M9 eM9
  exact e_vW C hr hlk Z dX4_copyFrom_34 hB
set_option maxRecDepth 100000 in
set_option maxHeartbeats 4000000 in
theorem v_X4_copyFrom {K : Nat} {M : Mem} {g : Nat} {r1 : Nat} {Q1 : Mem → Prop} (C : Cx T D p s m args c cc nL own) (hls : ls.size = nL) (Z : Zz EC T D ad (69 + K) A H0 M H locs) (hg : isR g) (f1 : isR r1) (hlink : Cond.methodLink own index yX4_copyFrom ∈ TB) (hR : 2 + 1 ≤ R.frames ∧ 8 + (2 + 11) + 48 * 2 ≤ R.locals) (hcs : cells ≤ R.cells ∧ slots ≤ R.slots) (hcat : (rest.map fun v => v.category).sum ≤ 8) (hdg : decode cc pc = .ok (.invokevirtual index, 3)) (hB : P_X4_copyFrom K M g r1 Q1)
    (kk : ∀ (M1 : Mem) (H1 : Heap) (locs1 : List Loc), Q1 M1 → Zz EC T D ad (69 + K) A H0 M1 H1 locs1 → W p l e R s m args below meth c H1 locs1 cells slots QQ (F0 m (pc + 3) ls rest)) : W p l e R s m args below meth c H locs cells slots QQ (F0 m pc ls (.ref (ad r1) :: .ref (ad g) :: rest)) :=
  k_VV (ci := 4) (n := 1) (c_X4_copyFrom hg f1 hB) tw_4_89 tw_4_87 tw_4_88 tw_1_2 ⟨rfl, by decide, by decide, by decide +kernel⟩ rfl rfl C hls Z (oR hg) hlink hR hcs hcat rfl hdg kk
def B_X2_copyFrom_116 (K : Nat) (g : Nat) (r1 : Nat) (Q1 : Mem → Prop) (x2 : Int32) (M : Mem) : Prop :=
  ∀ X116 : Int32 → Mem → Prop, (∀ (x2 : Int32) (M : Mem), (((6 ≤ x2 → ∀ v44 : Int32, v44 = M r1 10 → ∀ M45 : Mem, M45 = sf M g 10 v44 → ∀ v46 : Int32, v46 = M45 r1 11 → ∀ M47 : Mem, M47 = sf M45 g 11 v46 → ∀ v48 : Int32, v48 = M47 r1 12 → ∀ M49 : Mem, M49 = sf M47 g 12 v48 → ∀ v50 : Int32, v50 = M49 r1 13 → ∀ M51 : Mem, M51 = sf M49 g 13 v50 → ∀ v52 : Int32, v52 = M51 r1 14 → ∀ M53 : Mem, M53 = sf M51 g 14 v52 → ∀ v54 : Int32, v54 = M53 r1 15 → ∀ M55 : Mem, M55 = sf M53 g 15 v54 → P_X4_copyFrom K M55 (g + 8) (r1 + 8) (fun M56 => P_X4_copyFrom K M56 (g + 10) (r1 + 10) (fun M57 => ∀ u58 : Int32, u58 = M57 (r1 + 12) 0 → ((u58 = 0 → ∀ M61 : Mem, M61 = sf M57 (g + 12) 0 0 → ∀ u62 : Int32, u62 = M61 (r1 + 12) 1 → ((u62 = 0 → ∀ M65 : Mem, M65 = sf M61 (g + 12) 1 0 → Q1 M65) ∧
        (¬ u62 = 0 → isT K u62.toNatClampNeg ∧ ∀ M66 : Mem, M66 = sf M61 (g + 12) 1 u62 → Q1 M66))) ∧
      (¬ u58 = 0 → isT K u58.toNatClampNeg ∧ ∀ M67 : Mem, M67 = sf M57 (g + 12) 0 u58 → ∀ u68 : Int32, u68 = M67 (r1 + 12) 1 → ((u68 = 0 → ∀ M71 : Mem, M71 = sf M67 (g + 12) 1 0 → Q1 M71) ∧
        (¬ u68 = 0 → isT K u68.toNatClampNeg ∧ ∀ M72 : Mem, M72 = sf M67 (g + 12) 1 u68 → Q1 M72))))))) ∧
    (¬ 6 ≤ x2 → vp_in x2 6 ∧ ∀ u74 : Int32, u74 = M (r1 + 5) x2.toNatClampNeg → isKd_X3 u74 ∧ vp_in x2 6 ∧ ∀ M77 : Mem, M77 = sf M (g + 5) x2.toNatClampNeg u74 → ∀ x2_78 : Int32, x2_78 = x2 + 1 → X116 x2_78 M77))) → X116 x2 M) → X116 x2 M
def P_X2_copyFrom (K : Nat) (M : Mem) (g : Nat) (r1 : Nat) (Q1 : Mem → Prop) : Prop :=
  ∀ v1 : Int32, v1 = M r1 0 → ∀ M2 : Mem, M2 = sf M g 0 v1 → ∀ v3 : Int32, v3 = M2 r1 1 → ∀ M4 : Mem, M4 = sf M2 g 1 v3 → ∀ v5 : Int32, v5 = M4 r1 2 → ∀ M6 : Mem, M6 = sf M4 g 2 v5 → ¬ (0 : Int32) < 0 ∧ ¬ (0 : Int32) < 0 ∧ ¬ (8 : Int32) < 0 ∧ (0 : Int32).toNatClampNeg + (8 : Int32).toNatClampNeg ≤ 8 ∧ (0 : Int32).toNatClampNeg + (8 : Int32).toNatClampNeg ≤ 8 ∧ ∀ M12 : Mem, M12 = mu M6 (g + 1) (va_cpy (M6 (r1 + 1)) (M6 (g + 1)) (0 : Int32).toNatClampNeg (0 : Int32).toNatClampNeg (8 : Int32).toNatClampNeg) → ¬ (0 : Int32) < 0 ∧ ¬ (0 : Int32) < 0 ∧ ¬ (8 : Int32) < 0 ∧ (0 : Int32).toNatClampNeg + (8 : Int32).toNatClampNeg ≤ 8 ∧ (0 : Int32).toNatClampNeg + (8 : Int32).toNatClampNeg ≤ 8 ∧ ∀ M18 : Mem, M18 = mu M12 (g + 2) (va_cpy (M12 (r1 + 2)) (M12 (g + 2)) (0 : Int32).toNatClampNeg (0 : Int32).toNatClampNeg (8 : Int32).toNatClampNeg) → ¬ (0 : Int32) < 0 ∧ ¬ (0 : Int32) < 0 ∧ ¬ (8 : Int32) < 0 ∧ (0 : Int32).toNatClampNeg + (8 : Int32).toNatClampNeg ≤ 8 ∧ (0 : Int32).toNatClampNeg + (8 : Int32).toNatClampNeg ≤ 8 ∧ ∀ M24 : Mem, M24 = mu M18 (g + 3) (va_cpy (M18 (r1 + 3)) (M18 (g + 3)) (0 : Int32).toNatClampNeg (0 : Int32).toNatClampNeg (8 : Int32).toNatClampNeg) → ¬ (0 : Int32) < 0 ∧ ¬ (0 : Int32) < 0 ∧ ¬ (8 : Int32) < 0 ∧ (0 : Int32).toNatClampNeg + (8 : Int32).toNatClampNeg ≤ 8 ∧ (0 : Int32).toNatClampNeg + (8 : Int32).toNatClampNeg ≤ 8 ∧ ∀ M30 : Mem, M30 = mu M24 (g + 4) (va_cpy (M24 (r1 + 4)) (M24 (g + 4)) (0 : Int32).toNatClampNeg (0 : Int32).toNatClampNeg (8 : Int32).toNatClampNeg) → ¬ (0 : Int32) < 0 ∧ ¬ (0 : Int32) < 0 ∧ ¬ (6 : Int32) < 0 ∧ (0 : Int32).toNatClampNeg + (6 : Int32).toNatClampNeg ≤ 6 ∧ (0 : Int32).toNatClampNeg + (6 : Int32).toNatClampNeg ≤ 6 ∧ ∀ M36 : Mem, M36 = mu M30 (g + 6) (va_cpy (M30 (r1 + 6)) (M30 (g + 6)) (0 : Int32).toNatClampNeg (0 : Int32).toNatClampNeg (6 : Int32).toNatClampNeg) → ¬ (0 : Int32) < 0 ∧ ¬ (0 : Int32) < 0 ∧ ¬ (6 : Int32) < 0 ∧ (0 : Int32).toNatClampNeg + (6 : Int32).toNatClampNeg ≤ 6 ∧ (0 : Int32).toNatClampNeg + (6 : Int32).toNatClampNeg ≤ 6 ∧ ∀ M42 : Mem, M42 = mu M36 (g + 7) (va_cpy (M36 (r1 + 7)) (M36 (g + 7)) (0 : Int32).toNatClampNeg (0 : Int32).toNatClampNeg (6 : Int32).toNatClampNeg) → B_X2_copyFrom_116 K g r1 Q1 0 M42
set_option maxRecDepth 100000 in
set_option maxHeartbeats 4000000 in
theorem w_X2_copyFrom_116 {K : Nat} {g : Nat} {r1 : Nat} {M : Mem} {Q1 : Mem → Prop} {x2 : Int32} (C : Cx T D p s m args c cX2_copyFrom 3 "OneOfTwo$House") (hr : meth.sig.returnType = none) (hlk : meth.locks = false) (Z : Zz EC T D ad (69 + K) A s.heap M H locs) (hg : isH g) (f1 : isH r1) {ls : Array Slot} (hl : lv_has ls 3 [(0, .ref (ad g)), (1, .ref (ad r1)), (2, .int x2)]) (hB : B_X2_copyFrom_116 K g r1 Q1 x2 M) : W p l e (RM 3) s m args below meth c H locs 0 0 (MQ below (QcV EC T D ad (69 + K) A Q1) args s 0 0 A) (F0 m 116 ls []) := by
  delta B_X2_copyFrom_116 at hB
  obtain ⟨X116, hX116, hY116⟩ : ∃ X116 : Int32 → Mem → Prop, (∀ (x2 : Int32) (M : Mem), X116 x2 M → ∀ (H : Heap) (locs : List Loc) (ls : Array Slot), Zz EC T D ad (69 + K) A s.heap M H locs → lv_has ls 3 [(0, .ref (ad g)), (1, .ref (ad r1)), (2, .int x2)] → W p l e (RM 3) s m args below meth c H locs 0 0 (MQ below (QcV EC T D ad (69 + K) A Q1) args s 0 0 A) (F0 m 116 ls [])) ∧ (∀ (x2 : Int32) (M : Mem), (∀ (H : Heap) (locs : List Loc) (ls : Array Slot), Zz EC T D ad (69 + K) A s.heap M H locs → lv_has ls 3 [(0, .ref (ad g)), (1, .ref (ad r1)), (2, .int x2)] → W p l e (RM 3) s m args below meth c H locs 0 0 (MQ below (QcV EC T D ad (69 + K) A Q1) args s 0 0 A) (F0 m 116 ls [])) → X116 x2 M) := ⟨fun (x2 : Int32) (M : Mem) => ∀ (H : Heap) (locs : List Loc) (ls : Array Slot), Zz EC T D ad (69 + K) A s.heap M H locs → lv_has ls 3 [(0, .ref (ad g)), (1, .ref (ad r1)), (2, .int x2)] → W p l e (RM 3) s m args below meth c H locs 0 0 (MQ below (QcV EC T D ad (69 + K) A Q1) args s 0 0 A) (F0 m 116 ls []), fun _ _ h => h, fun _ _ h => h⟩
  refine hX116 _ _ (hB X116 (fun x2 M hB => hY116 _ _ (fun H locs ls Z hl => ?_))) _ _ _ Z hl
  have hx := C.x
  have hb := C.b
  refine lv_iload_n hx hb dX2_copyFrom_116 rfl (lv_at hl 2 rfl) ?_
  refine lv_bipush (v := 6) hx hb dX2_copyFrom_117 (by decide) ?_
  refine lv_icmp_ge (tgt := 140) hx hb dX2_copyFrom_119 (by decide) (fun q43 => ?_) (fun q43 => ?_)
  · have hB := hB.1 q43
    refine lv_aload_n hx hb dX2_copyFrom_140 rfl (lv_at hl 0 rfl) ?_
    refine lv_aload_n hx hb dX2_copyFrom_141 rfl (lv_at hl 1 rfl) ?_
    refine gf_X2_10 C Z.1 f1 tw_1_155 dX2_copyFrom_142 ?_
    refine lv_topi (fun v44 ev44 => ?_)
    have hB := hB v44 ev44
    refine pf_X2_10 C Z hg tw_1_155 dX2_copyFrom_145 (fun M45 H locs eM45 Z => ?_)
    have hB := hB M45 eM45
    refine lv_aload_n hx hb dX2_copyFrom_148 rfl (lv_at hl 0 rfl) ?_
    refine lv_aload_n hx hb dX2_copyFrom_149 rfl (lv_at hl 1 rfl) ?_
    refine gf_X2_11 C Z.1 f1 tw_1_157 dX2_copyFrom_150 ?_
    refine lv_topi (fun v46 ev46 => ?_)
    have hB := hB v46 ev46
    refine pf_X2_11 C Z hg tw_1_157 dX2_copyFrom_153 (fun M47 H locs eM47 Z => ?_)
    have hB := hB M47 eM47
    refine lv_aload_n hx hb dX2_copyFrom_156 rfl (lv_at hl 0 rfl) ?_
    refine lv_aload_n hx hb dX2_copyFrom_157 rfl (lv_at hl 1 rfl) ?_
    refine gf_X2_12 C Z.1 f1 tw_1_159 dX2_copyFrom_158 ?_
    refine lv_topi (fun v48 ev48 => ?_)
    have hB := hB v48 ev48
    refine pf_X2_12 C Z hg tw_1_159 dX2_copyFrom_161 (fun M49 H locs eM49 Z => ?_)
    have hB := hB M49 eM49
    refine lv_aload_n hx hb dX2_copyFrom_164 rfl (lv_at hl 0 rfl) ?_
    refine lv_aload_n hx hb dX2_copyFrom_165 rfl (lv_at hl 1 rfl) ?_
    refine gf_X2_13 C Z.1 f1 tw_1_161 dX2_copyFrom_166 ?_
    refine lv_topi (fun v50 ev50 => ?_)
    have hB := hB v50 ev50
    refine pf_X2_13 C Z hg tw_1_161 dX2_copyFrom_169 (fun M51 H locs eM51 Z => ?_)
    have hB := hB M51 eM51
    refine lv_aload_n hx hb dX2_copyFrom_172 rfl (lv_at hl 0 rfl) ?_
    refine lv_aload_n hx hb dX2_copyFrom_173 rfl (lv_at hl 1 rfl) ?_
    refine gf_X2_14 C Z.1 f1 tw_1_163 dX2_copyFrom_174 ?_
    refine lv_topi (fun v52 ev52 => ?_)
    have hB := hB v52 ev52
    refine pf_X2_14 C Z hg tw_1_163 dX2_copyFrom_177 (fun M53 H locs eM53 Z => ?_)
    have hB := hB M53 eM53
    refine lv_aload_n hx hb dX2_copyFrom_180 rfl (lv_at hl 0 rfl) ?_
    refine lv_aload_n hx hb dX2_copyFrom_181 rfl (lv_at hl 1 rfl) ?_
    refine gf_X2_15 C Z.1 f1 tw_1_165 dX2_copyFrom_182 ?_
    refine lv_topi (fun v54 ev54 => ?_)
    have hB := hB v54 ev54
    refine pf_X2_15 C Z hg tw_1_165 dX2_copyFrom_185 (fun M55 H locs eM55 Z => ?_)
    have hB := hB M55 eM55
    refine lv_aload_n hx hb dX2_copyFrom_188 rfl (lv_at hl 0 rfl) ?_
    refine gf_X2_16 C Z.1 hg tw_1_167 dX2_copyFrom_189 ?_
    refine lv_aload_n hx hb dX2_copyFrom_192 rfl (lv_at hl 1 rfl) ?_
    refine gf_X2_16 C Z.1 f1 tw_1_167 dX2_copyFrom_193 ?_
    refine v_X4_copyFrom C hl.1 Z (isR_t hg) (isR_t f1) tw_4_86 ⟨Nat.le_of_ble_eq_true rfl, Nat.le_of_ble_eq_true rfl⟩ ⟨Nat.le_refl _, Nat.le_refl _⟩ (Nat.le_of_ble_eq_true rfl) dX2_copyFrom_196 hB (fun M56 H locs hB Z => ?_)
    refine lv_aload_n hx hb dX2_copyFrom_199 rfl (lv_at hl 0 rfl) ?_
    refine gf_X2_17 C Z.1 hg tw_1_169 dX2_copyFrom_200 ?_
    refine lv_aload_n hx hb dX2_copyFrom_203 rfl (lv_at hl 1 rfl) ?_
    refine gf_X2_17 C Z.1 f1 tw_1_169 dX2_copyFrom_204 ?_
    refine v_X4_copyFrom C hl.1 Z (isR_w hg) (isR_w f1) tw_4_86 ⟨Nat.le_of_ble_eq_true rfl, Nat.le_of_ble_eq_true rfl⟩ ⟨Nat.le_refl _, Nat.le_refl _⟩ (Nat.le_of_ble_eq_true rfl) dX2_copyFrom_207 hB (fun M57 H locs hB Z => ?_)
    refine lv_aload_n hx hb dX2_copyFrom_210 rfl (lv_at hl 0 rfl) ?_
    refine gf_X2_18 C Z.1 hg tw_1_171 dX2_copyFrom_211 ?_
    refine lv_iconst (v := 0) hx hb dX2_copyFrom_214 (by decide) ?_
    refine lv_aload_n hx hb dX2_copyFrom_215 rfl (lv_at hl 1 rfl) ?_
    refine gf_X2_18 C Z.1 f1 tw_1_171 dX2_copyFrom_216 ?_
    refine lv_iconst (v := 0) hx hb dX2_copyFrom_219 (by decide) ?_
    obtain ⟨u58, eu58⟩ : ∃ y : Int32, y = M57 (r1 + 12) 0 := ⟨_, rfl⟩
    have hB := hB u58 eu58
    by_cases z59 : u58 = 0
    · have hB := hB.1 z59
      refine la_ldN C Z.1 f1 (vin rfl) eu58 z59 rfl dX2_copyFrom_220 ?_
      refine la_stN C Z hg (vin rfl) rfl dX2_copyFrom_221 (fun M61 H locs eM61 Z => ?_)
      have hB := hB M61 eM61
      refine lv_aload_n hx hb dX2_copyFrom_222 rfl (lv_at hl 0 rfl) ?_
      refine gf_X2_18 C Z.1 hg tw_1_171 dX2_copyFrom_223 ?_
      refine lv_iconst (v := 1) hx hb dX2_copyFrom_226 (by decide) ?_
      refine lv_aload_n hx hb dX2_copyFrom_227 rfl (lv_at hl 1 rfl) ?_
      refine gf_X2_18 C Z.1 f1 tw_1_171 dX2_copyFrom_228 ?_
      refine lv_iconst (v := 1) hx hb dX2_copyFrom_231 (by decide) ?_
      obtain ⟨u62, eu62⟩ : ∃ y : Int32, y = M61 (r1 + 12) 1 := ⟨_, rfl⟩
      have hB := hB u62 eu62
      by_cases z63 : u62 = 0
      · have hB := hB.1 z63
        refine la_ldN C Z.1 f1 (vin rfl) eu62 z63 rfl dX2_copyFrom_232 ?_
        refine la_stN C Z hg (vin rfl) rfl dX2_copyFrom_233 (fun M65 H locs eM65 Z => ?_)
        have hB := hB M65 eM65
        exact e_vW C hr hlk Z dX2_copyFrom_234 hB
      · obtain ⟨fh64, hB⟩ := hB.2 z63
        refine la_ld C Z.1 f1 (vin rfl) eu62 z63 rfl dX2_copyFrom_232 ?_
        refine la_st C Z hg (vin rfl) fh64 rfl dX2_copyFrom_233 (fun M66 H locs eM66 Z => ?_)
        have hB := hB M66 eM66
        exact e_vW C hr hlk Z dX2_copyFrom_234 hB
    · obtain ⟨fh60, hB⟩ := hB.2 z59
      refine la_ld C Z.1 f1 (vin rfl) eu58 z59 rfl dX2_copyFrom_220 ?_
      refine la_st C Z hg (vin rfl) fh60 rfl dX2_copyFrom_221 (fun M67 H locs eM67 Z => ?_)
      have hB := hB M67 eM67
      refine lv_aload_n hx hb dX2_copyFrom_222 rfl (lv_at hl 0 rfl) ?_
      refine gf_X2_18 C Z.1 hg tw_1_171 dX2_copyFrom_223 ?_
      refine lv_iconst (v := 1) hx hb dX2_copyFrom_226 (by decide) ?_
      refine lv_aload_n hx hb dX2_copyFrom_227 rfl (lv_at hl 1 rfl) ?_
      refine gf_X2_18 C Z.1 f1 tw_1_171 dX2_copyFrom_228 ?_
      refine lv_iconst (v := 1) hx hb dX2_copyFrom_231 (by decide) ?_
      obtain ⟨u68, eu68⟩ : ∃ y : Int32, y = M67 (r1 + 12) 1 := ⟨_, rfl⟩
      have hB := hB u68 eu68
      by_cases z69 : u68 = 0
      · have hB := hB.1 z69
        refine la_ldN C Z.1 f1 (vin rfl) eu68 z69 rfl dX2_copyFrom_232 ?_
        refine la_stN C Z hg (vin rfl) rfl dX2_copyFrom_233 (fun M71 H locs eM71 Z => ?_)
        have hB := hB M71 eM71
        exact e_vW C hr hlk Z dX2_copyFrom_234 hB
      · obtain ⟨fh70, hB⟩ := hB.2 z69
        refine la_ld C Z.1 f1 (vin rfl) eu68 z69 rfl dX2_copyFrom_232 ?_
        refine la_st C Z hg (vin rfl) fh70 rfl dX2_copyFrom_233 (fun M72 H locs eM72 Z => ?_)
        have hB := hB M72 eM72
        exact e_vW C hr hlk Z dX2_copyFrom_234 hB
  · have hB := hB.2 q43
    refine lv_aload_n hx hb dX2_copyFrom_122 rfl (lv_at hl 0 rfl) ?_
    refine gf_X2_7 C Z.1 hg tw_1_148 dX2_copyFrom_123 ?_
    refine lv_iload_n hx hb dX2_copyFrom_126 rfl (lv_at hl 2 rfl) ?_
    refine lv_aload_n hx hb dX2_copyFrom_127 rfl (lv_at hl 1 rfl) ?_
    refine gf_X2_7 C Z.1 f1 tw_1_148 dX2_copyFrom_128 ?_
    refine lv_iload_n hx hb dX2_copyFrom_131 rfl (lv_at hl 2 rfl) ?_
    obtain ⟨q73, hB⟩ := hB
    obtain ⟨u74, eu74⟩ : ∃ y : Int32, y = M (r1 + 5) x2.toNatClampNeg := ⟨_, rfl⟩
    obtain ⟨fh75, hB⟩ := hB u74 eu74
    refine hk_ld C Z.1 f1 q73 eu74 fh75 dX2_copyFrom_132 ?_
    obtain ⟨q76, hB⟩ := hB
    refine hk_st C Z hg q76 fh75 dX2_copyFrom_133 (fun M77 H locs eM77 Z => ?_)
    have hB := hB M77 eM77
    obtain ⟨x2_78, ex2_78⟩ : ∃ y : Int32, y = x2 + 1 := ⟨_, rfl⟩
    have hB := hB x2_78 ex2_78
    refine lv_iinc (v := x2_78) (lv' := [(2, .int x2_78), (0, .ref (ad g)), (1, .ref (ad r1))]) hx hb dX2_copyFrom_134 hl (k := 2) rfl (by rw [ex2_78]; rfl) (by decide) rfl (fun ls hl => ?_)
    refine lv_goto (tgt := 116) hx hb dX2_copyFrom_137 (by decide) ?_
    exact hX116 _ _ hB _ _ _ Z (lv_sub hl [1, 2, 0] rfl)
set_option maxRecDepth 100000 in
set_option maxHeartbeats 4000000 in
theorem c_X2_copyFrom {l : Launch} {T : Nat → ClassId} {D : va_G} {ad : Nat → Nat} {K : Nat} {M : Mem} {g : Nat} {r1 : Nat} {sz : Nat} {Q1 : Mem → Prop} (hg : isH g) (f1 : isH r1) (hB : P_X2_copyFrom K M g r1 Q1) : Met l yX2_copyFrom (Cond.code yX2_copyFrom cX2_copyFrom 3 none :: TB) (RM 3) (va_Pc [.ref (ad g), .ref (ad r1)] (WrP EC T D ad (69 + K) M sz)) (QcV EC T D ad (69 + K) (AA ad (69 + K) sz) Q1) 0 0 (AA ad (69 + K) sz) := by
  refine st_W (by decide) (Nat.le_of_ble_eq_true rfl) (fun p e s m args below meth c ls C hr hlk hsz Z hl => ?_)
  have hl : lv_has ls 3 [(0, .ref (ad g)), (1, .ref (ad r1))] := hl
  generalize AA ad (69 + K) sz = A at Z ⊢
  have hx := C.x
  have hb := C.b
  delta P_X2_copyFrom at hB
  refine lv_aload_n hx hb dX2_copyFrom_0 rfl (lv_at hl 0 rfl) ?_
  refine lv_aload_n hx hb dX2_copyFrom_1 rfl (lv_at hl 1 rfl) ?_
  refine gf_X2_0 C Z.1 f1 tw_1_127 dX2_copyFrom_2 ?_
  refine lv_topi (fun v1 ev1 => ?_)
  have hB := hB v1 ev1
  refine pf_X2_0 C Z hg tw_1_127 dX2_copyFrom_5 (fun M2 H locs eM2 Z => ?_)
  have hB := hB M2 eM2
  refine lv_aload_n hx hb dX2_copyFrom_8 rfl (lv_at hl 0 rfl) ?_
  refine lv_aload_n hx hb dX2_copyFrom_9 rfl (lv_at hl 1 rfl) ?_
  refine gf_X2_1 C Z.1 f1 tw_1_130 dX2_copyFrom_10 ?_
  refine lv_topi (fun v3 ev3 => ?_)
  have hB := hB v3 ev3
  refine pf_X2_1 C Z hg tw_1_130 dX2_copyFrom_13 (fun M4 H locs eM4 Z => ?_)
  have hB := hB M4 eM4
  refine lv_aload_n hx hb dX2_copyFrom_16 rfl (lv_at hl 0 rfl) ?_
  refine lv_aload_n hx hb dX2_copyFrom_17 rfl (lv_at hl 1 rfl) ?_
  refine gf_X2_2 C Z.1 f1 tw_1_133 dX2_copyFrom_18 ?_
  refine lv_topi (fun v5 ev5 => ?_)
  have hB := hB v5 ev5
  refine pf_X2_2 C Z hg tw_1_133 dX2_copyFrom_21 (fun M6 H locs eM6 Z => ?_)
  have hB := hB M6 eM6
  refine lv_aload_n hx hb dX2_copyFrom_24 rfl (lv_at hl 1 rfl) ?_
  refine gf_X2_3 C Z.1 f1 tw_1_136 dX2_copyFrom_25 ?_
  refine lv_iconst (v := 0) hx hb dX2_copyFrom_28 (by decide) ?_
  refine lv_aload_n hx hb dX2_copyFrom_29 rfl (lv_at hl 0 rfl) ?_
  refine gf_X2_3 C Z.1 hg tw_1_136 dX2_copyFrom_30 ?_
  refine lv_iconst (v := 0) hx hb dX2_copyFrom_33 (by decide) ?_
  refine lv_bipush (v := 8) hx hb dX2_copyFrom_34 (by decide) ?_
  obtain ⟨q7, q8, q9, q10, q11, hB⟩ := hB
  refine a_cp C Z hl.1 (aH_1 f1) (aH_1 hg) q7 q8 q9 q10 q11 tw_4_83 (Nat.le_of_ble_eq_true rfl) (Nat.le_of_ble_eq_true rfl) dX2_copyFrom_36 (fun M12 H locs eM12 Z => ?_)
  have hB := hB M12 eM12
  refine lv_aload_n hx hb dX2_copyFrom_39 rfl (lv_at hl 1 rfl) ?_
  refine gf_X2_4 C Z.1 f1 tw_1_139 dX2_copyFrom_40 ?_
  refine lv_iconst (v := 0) hx hb dX2_copyFrom_43 (by decide) ?_
  refine lv_aload_n hx hb dX2_copyFrom_44 rfl (lv_at hl 0 rfl) ?_
  refine gf_X2_4 C Z.1 hg tw_1_139 dX2_copyFrom_45 ?_
  refine lv_iconst (v := 0) hx hb dX2_copyFrom_48 (by decide) ?_
  refine lv_bipush (v := 8) hx hb dX2_copyFrom_49 (by decide) ?_
  obtain ⟨q13, q14, q15, q16, q17, hB⟩ := hB
  refine a_cp C Z hl.1 (aH_2 f1) (aH_2 hg) q13 q14 q15 q16 q17 tw_4_83 (Nat.le_of_ble_eq_true rfl) (Nat.le_of_ble_eq_true rfl) dX2_copyFrom_51 (fun M18 H locs eM18 Z => ?_)
  have hB := hB M18 eM18
  refine lv_aload_n hx hb dX2_copyFrom_54 rfl (lv_at hl 1 rfl) ?_
  refine gf_X2_5 C Z.1 f1 tw_1_142 dX2_copyFrom_55 ?_
  refine lv_iconst (v := 0) hx hb dX2_copyFrom_58 (by decide) ?_
  refine lv_aload_n hx hb dX2_copyFrom_59 rfl (lv_at hl 0 rfl) ?_
  refine gf_X2_5 C Z.1 hg tw_1_142 dX2_copyFrom_60 ?_
  refine lv_iconst (v := 0) hx hb dX2_copyFrom_63 (by decide) ?_
  refine lv_bipush (v := 8) hx hb dX2_copyFrom_64 (by decide) ?_
  obtain ⟨q19, q20, q21, q22, q23, hB⟩ := hB
  refine a_cp C Z hl.1 (aH_3 f1) (aH_3 hg) q19 q20 q21 q22 q23 tw_4_83 (Nat.le_of_ble_eq_true rfl) (Nat.le_of_ble_eq_true rfl) dX2_copyFrom_66 (fun M24 H locs eM24 Z => ?_)
  have hB := hB M24 eM24
  refine lv_aload_n hx hb dX2_copyFrom_69 rfl (lv_at hl 1 rfl) ?_
  refine gf_X2_6 C Z.1 f1 tw_1_145 dX2_copyFrom_70 ?_
  refine lv_iconst (v := 0) hx hb dX2_copyFrom_73 (by decide) ?_
  refine lv_aload_n hx hb dX2_copyFrom_74 rfl (lv_at hl 0 rfl) ?_
  refine gf_X2_6 C Z.1 hg tw_1_145 dX2_copyFrom_75 ?_
  refine lv_iconst (v := 0) hx hb dX2_copyFrom_78 (by decide) ?_
  refine lv_bipush (v := 8) hx hb dX2_copyFrom_79 (by decide) ?_
  obtain ⟨q25, q26, q27, q28, q29, hB⟩ := hB
  refine a_cp C Z hl.1 (aH_4 f1) (aH_4 hg) q25 q26 q27 q28 q29 tw_4_83 (Nat.le_of_ble_eq_true rfl) (Nat.le_of_ble_eq_true rfl) dX2_copyFrom_81 (fun M30 H locs eM30 Z => ?_)
  have hB := hB M30 eM30
  refine lv_aload_n hx hb dX2_copyFrom_84 rfl (lv_at hl 1 rfl) ?_
  refine gf_X2_8 C Z.1 f1 tw_1_150 dX2_copyFrom_85 ?_
  refine lv_iconst (v := 0) hx hb dX2_copyFrom_88 (by decide) ?_
  refine lv_aload_n hx hb dX2_copyFrom_89 rfl (lv_at hl 0 rfl) ?_
  refine gf_X2_8 C Z.1 hg tw_1_150 dX2_copyFrom_90 ?_
  refine lv_iconst (v := 0) hx hb dX2_copyFrom_93 (by decide) ?_
  refine lv_bipush (v := 6) hx hb dX2_copyFrom_94 (by decide) ?_
  obtain ⟨q31, q32, q33, q34, q35, hB⟩ := hB
  refine a_cp C Z hl.1 (aH_6 f1) (aH_6 hg) q31 q32 q33 q34 q35 tw_4_83 (Nat.le_of_ble_eq_true rfl) (Nat.le_of_ble_eq_true rfl) dX2_copyFrom_96 (fun M36 H locs eM36 Z => ?_)
  have hB := hB M36 eM36
  refine lv_aload_n hx hb dX2_copyFrom_99 rfl (lv_at hl 1 rfl) ?_
  refine gf_X2_9 C Z.1 f1 tw_1_152 dX2_copyFrom_100 ?_
  refine lv_iconst (v := 0) hx hb dX2_copyFrom_103 (by decide) ?_
  refine lv_aload_n hx hb dX2_copyFrom_104 rfl (lv_at hl 0 rfl) ?_
  refine gf_X2_9 C Z.1 hg tw_1_152 dX2_copyFrom_105 ?_
  refine lv_iconst (v := 0) hx hb dX2_copyFrom_108 (by decide) ?_
  refine lv_bipush (v := 6) hx hb dX2_copyFrom_109 (by decide) ?_
  obtain ⟨q37, q38, q39, q40, q41, hB⟩ := hB
  refine a_cp C Z hl.1 (aH_7 f1) (aH_7 hg) q37 q38 q39 q40 q41 tw_4_83 (Nat.le_of_ble_eq_true rfl) (Nat.le_of_ble_eq_true rfl) dX2_copyFrom_111 (fun M42 H locs eM42 Z => ?_)
  have hB := hB M42 eM42
  refine lv_iconst (v := 0) hx hb dX2_copyFrom_114 (by decide) ?_
  refine lv_istore_n (lv' := [(2, .int 0), (0, .ref (ad g)), (1, .ref (ad r1))]) hx hb dX2_copyFrom_115 rfl hl (by decide) rfl (fun ls hl => ?_)
  exact w_X2_copyFrom_116 C hr hlk Z hg f1 (lv_sub hl [1, 2, 0] rfl) hB
set_option maxRecDepth 100000 in
set_option maxHeartbeats 4000000 in
theorem v_X2_copyFrom {K : Nat} {M : Mem} {g : Nat} {r1 : Nat} {Q1 : Mem → Prop} (C : Cx T D p s m args c cc nL own) (hls : ls.size = nL) (Z : Zz EC T D ad (69 + K) A H0 M H locs) (hg : isH g) (f1 : isH r1) (hlink : Cond.methodLink own index yX2_copyFrom ∈ TB) (hR : 3 + 1 ≤ R.frames ∧ 8 + (3 + 11) + 48 * 3 ≤ R.locals) (hcs : cells ≤ R.cells ∧ slots ≤ R.slots) (hcat : (rest.map fun v => v.category).sum ≤ 8) (hdg : decode cc pc = .ok (.invokevirtual index, 3)) (hB : P_X2_copyFrom K M g r1 Q1)
    (kk : ∀ (M1 : Mem) (H1 : Heap) (locs1 : List Loc), Q1 M1 → Zz EC T D ad (69 + K) A H0 M1 H1 locs1 → W p l e R s m args below meth c H1 locs1 cells slots QQ (F0 m (pc + 3) ls rest)) : W p l e R s m args below meth c H locs cells slots QQ (F0 m pc ls (.ref (ad r1) :: .ref (ad g) :: rest)) :=
  k_VV (ci := 2) (n := 1) (c_X2_copyFrom hg f1 hB) tw_4_82 tw_4_80 tw_4_81 tw_1_10 ⟨rfl, by decide, by decide, by decide +kernel⟩ rfl rfl C hls Z (oH hg) hlink hR hcs hcat rfl hdg kk
def B_X11_rests_13 (K : Nat) (Q1 : Int32 → Mem → Prop) (x1 : Int32) (M : Mem) : Prop :=
  ∀ X13 : Int32 → Mem → Prop, (∀ (x1 : Int32) (M : Mem), (((100 < x1 → P_X11_error K M 2 (fun v3 M4 => Q1 v3 M4)) ∧
    (¬ 100 < x1 → P_X2_turnOfAll K M 43 (fun v5 M6 => ((¬ v5 = 0 → ∀ x1_8 : Int32, x1_8 = x1 + 1 → X13 x1_8 M6) ∧
      (v5 = 0 → Q1 x1 M6)))))) → X13 x1 M) → X13 x1 M
def P_X11_rests (K : Nat) (M : Mem) (Q1 : Int32 → Mem → Prop) : Prop :=
  P_X2_copyFrom K M 43 30 (fun M1 => B_X11_rests_13 K Q1 0 M1)
set_option maxRecDepth 100000 in
set_option maxHeartbeats 4000000 in
theorem w_X11_rests_13 {K : Nat} {M : Mem} {Q1 : Int32 → Mem → Prop} {x1 : Int32} (C : Cx T D p s m args c cX11_rests 2 "OneOfTwo") (hr : meth.sig.returnType = (some .int)) (hlk : meth.locks = false) (Z : Zz EC T D ad (69 + K) A s.heap M H locs) {ls : Array Slot} (hl : lv_has ls 2 [(0, .ref (ad 0)), (1, .int x1)]) (hB : B_X11_rests_13 K Q1 x1 M) : W p l e (RM 7) s m args below meth c H locs 0 0 (MQ below (QcW EC T D ad (69 + K) A Q1) args s 0 0 A) (F0 m 13 ls []) := by
  delta B_X11_rests_13 at hB
  obtain ⟨X13, hX13, hY13⟩ : ∃ X13 : Int32 → Mem → Prop, (∀ (x1 : Int32) (M : Mem), X13 x1 M → ∀ (H : Heap) (locs : List Loc) (ls : Array Slot), Zz EC T D ad (69 + K) A s.heap M H locs → lv_has ls 2 [(0, .ref (ad 0)), (1, .int x1)] → W p l e (RM 7) s m args below meth c H locs 0 0 (MQ below (QcW EC T D ad (69 + K) A Q1) args s 0 0 A) (F0 m 13 ls [])) ∧ (∀ (x1 : Int32) (M : Mem), (∀ (H : Heap) (locs : List Loc) (ls : Array Slot), Zz EC T D ad (69 + K) A s.heap M H locs → lv_has ls 2 [(0, .ref (ad 0)), (1, .int x1)] → W p l e (RM 7) s m args below meth c H locs 0 0 (MQ below (QcW EC T D ad (69 + K) A Q1) args s 0 0 A) (F0 m 13 ls [])) → X13 x1 M) := ⟨fun (x1 : Int32) (M : Mem) => ∀ (H : Heap) (locs : List Loc) (ls : Array Slot), Zz EC T D ad (69 + K) A s.heap M H locs → lv_has ls 2 [(0, .ref (ad 0)), (1, .int x1)] → W p l e (RM 7) s m args below meth c H locs 0 0 (MQ below (QcW EC T D ad (69 + K) A Q1) args s 0 0 A) (F0 m 13 ls []), fun _ _ h => h, fun _ _ h => h⟩
  refine hX13 _ _ (hB X13 (fun x1 M hB => hY13 _ _ (fun H locs ls Z hl => ?_))) _ _ _ Z hl
  have hx := C.x
  have hb := C.b
  refine lv_iload_n hx hb dX11_rests_13 rfl (lv_at hl 1 rfl) ?_
  refine lv_bipush (v := 100) hx hb dX11_rests_14 (by decide) ?_
  refine lv_icmp_gt (tgt := 37) hx hb dX11_rests_16 (by decide) (fun q2 => ?_) (fun q2 => ?_)
  · have hB := hB.1 q2
    refine lv_aload_n hx hb dX11_rests_37 rfl (lv_at hl 0 rfl) ?_
    refine lv_iconst (v := 2) hx hb dX11_rests_38 (by decide) ?_
    refine v_X11_error C hl.1 Z tw_2_56 ⟨Nat.le_of_ble_eq_true rfl, Nat.le_of_ble_eq_true rfl⟩ ⟨Nat.le_refl _, Nat.le_refl _⟩ (Nat.le_of_ble_eq_true rfl) dX11_rests_39 hB (fun v3 M4 H locs hB Z => ?_)
    exact e_iW C hr hlk Z dX11_rests_42 hB
  · have hB := hB.2 q2
    refine lv_aload_n hx hb dX11_rests_19 rfl (lv_at hl 0 rfl) ?_
    refine gf_X11_6 C Z.1 tw_2_18 dX11_rests_20 ?_
    refine v_X2_turnOfAll C hl.1 Z isH_1 tw_4_92 ⟨Nat.le_of_ble_eq_true rfl, Nat.le_of_ble_eq_true rfl⟩ ⟨Nat.le_refl _, Nat.le_refl _⟩ (Nat.le_of_ble_eq_true rfl) dX11_rests_23 hB (fun v5 M6 H locs hB Z => ?_)
    refine lv_if_ne (tgt := 31) hx hb dX11_rests_26 (by decide) (fun q7 => ?_) (fun q7 => ?_)
    · have hB := hB.1 q7
      obtain ⟨x1_8, ex1_8⟩ : ∃ y : Int32, y = x1 + 1 := ⟨_, rfl⟩
      have hB := hB x1_8 ex1_8
      refine lv_iinc (v := x1_8) (lv' := [(1, .int x1_8), (0, .ref (ad 0))]) hx hb dX11_rests_31 hl (k := 1) rfl (by rw [ex1_8]; rfl) (by decide) rfl (fun ls hl => ?_)
      refine lv_goto (tgt := 13) hx hb dX11_rests_34 (by decide) ?_
      exact hX13 _ _ hB _ _ _ Z (lv_sub hl [1, 0] rfl)
    · have hB := hB.2 q7
      refine lv_iload_n hx hb dX11_rests_29 rfl (lv_at hl 1 rfl) ?_
      exact e_iW C hr hlk Z dX11_rests_30 hB
set_option maxRecDepth 100000 in
set_option maxHeartbeats 4000000 in
theorem c_X11_rests {l : Launch} {T : Nat → ClassId} {D : va_G} {ad : Nat → Nat} {K : Nat} {M : Mem} {sz : Nat} {Q1 : Int32 → Mem → Prop} (hB : P_X11_rests K M Q1) : Met l yX11_rests (Cond.code yX11_rests cX11_rests 2 (some .int) :: TB) (RM 7) (va_Pc [.ref (ad 0)] (WrP EC T D ad (69 + K) M sz)) (QcW EC T D ad (69 + K) (AA ad (69 + K) sz) Q1) 0 0 (AA ad (69 + K) sz) := by
  refine st_W (by decide) (Nat.le_of_ble_eq_true rfl) (fun p e s m args below meth c ls C hr hlk hsz Z hl => ?_)
  have hl : lv_has ls 2 [(0, .ref (ad 0))] := hl
  generalize AA ad (69 + K) sz = A at Z ⊢
  have hx := C.x
  have hb := C.b
  delta P_X11_rests at hB
  refine lv_aload_n hx hb dX11_rests_0 rfl (lv_at hl 0 rfl) ?_
  refine gf_X11_6 C Z.1 tw_2_18 dX11_rests_1 ?_
  refine lv_aload_n hx hb dX11_rests_4 rfl (lv_at hl 0 rfl) ?_
  refine gf_X11_5 C Z.1 tw_2_17 dX11_rests_5 ?_
  refine v_X2_copyFrom C hl.1 Z isH_1 isH_0 tw_4_79 ⟨Nat.le_of_ble_eq_true rfl, Nat.le_of_ble_eq_true rfl⟩ ⟨Nat.le_refl _, Nat.le_refl _⟩ (Nat.le_of_ble_eq_true rfl) dX11_rests_8 hB (fun M1 H locs hB Z => ?_)
  refine lv_iconst (v := 0) hx hb dX11_rests_11 (by decide) ?_
  refine lv_istore_n (lv' := [(1, .int 0), (0, .ref (ad 0))]) hx hb dX11_rests_12 rfl hl (by decide) rfl (fun ls hl => ?_)
  exact w_X11_rests_13 C hr hlk Z (lv_sub hl [1, 0] rfl) hB
set_option maxRecDepth 100000 in
set_option maxHeartbeats 4000000 in
theorem v_X11_rests {K : Nat} {M : Mem} {Q1 : Int32 → Mem → Prop} (C : Cx T D p s m args c cc nL own) (hls : ls.size = nL) (Z : Zz EC T D ad (69 + K) A H0 M H locs) (hlink : Cond.methodLink own index yX11_rests ∈ TB) (hR : 7 + 1 ≤ R.frames ∧ 8 + (2 + 11) + 48 * 7 ≤ R.locals) (hcs : cells ≤ R.cells ∧ slots ≤ R.slots) (hcat : (rest.map fun v => v.category).sum ≤ 8) (hdg : decode cc pc = .ok (.invokevirtual index, 3)) (hB : P_X11_rests K M Q1)
    (kk : ∀ (r : Int32) (M1 : Mem) (H1 : Heap) (locs1 : List Loc), Q1 r M1 → Zz EC T D ad (69 + K) A H0 M1 H1 locs1 → W p l e R s m args below meth c H1 locs1 cells slots QQ (F0 m (pc + 3) ls (.int r :: rest))) : W p l e R s m args below meth c H locs cells slots QQ (F0 m pc ls (.ref (ad 0) :: rest)) :=
  k_VW (ci := 11) (n := 0) (c_X11_rests hB) tw_4_78 tw_4_76 tw_4_77 tw_1_1 ⟨rfl, by decide, by decide, by decide +kernel⟩ rfl rfl C hls Z oO hlink hR hcs hcat rfl hdg kk
def B_X11_then_37 (K : Nat) (Q1 : Int32 → Mem → Prop) (x1 : Int32) (x2 : Int32) (x3 : Int32) (M : Mem) : Prop :=
  ∀ X37 : Int32 → Mem → Prop, (∀ (x3 : Int32) (M : Mem), (((x1 ≤ x3 → vp_in x2 8 ∧ Q1 (M 45 x2.toNatClampNeg) M) ∧
    (¬ x1 ≤ x3 → P_X2_passHour K M 43 (fun M12 => ∀ x3_13 : Int32, x3_13 = x3 + 1 → X37 x3_13 M12)))) → X37 x3 M) → X37 x3 M
def P_X11_then (K : Nat) (M : Mem) (x1 : Int32) (x2 : Int32) (Q1 : Int32 → Mem → Prop) : Prop :=
  ((x1 < 0 → P_X11_error K M 1 (fun v2 M3 => Q1 v2 M3)) ∧
    (¬ x1 < 0 → ((100 < x1 → P_X11_error K M 1 (fun v5 M6 => Q1 v5 M6)) ∧
      (¬ 100 < x1 → P_X11_isWindow K M x2 (fun v7 => ((¬ v7 = 0 → P_X2_copyFrom K M 43 30 (fun M9 => B_X11_then_37 K Q1 x1 x2 0 M9)) ∧
        (v7 = 0 → P_X11_error K M 1 (fun v14 M15 => Q1 v14 M15))))))))
set_option maxRecDepth 100000 in
set_option maxHeartbeats 4000000 in
theorem w_X11_then_37 {K : Nat} {M : Mem} {Q1 : Int32 → Mem → Prop} {x1 : Int32} {x2 : Int32} {x3 : Int32} (C : Cx T D p s m args c cX11_then 4 "OneOfTwo") (hr : meth.sig.returnType = (some .int)) (hlk : meth.locks = false) (Z : Zz EC T D ad (69 + K) A s.heap M H locs) {ls : Array Slot} (hl : lv_has ls 4 [(0, .ref (ad 0)), (1, .int x1), (2, .int x2), (3, .int x3)]) (hB : B_X11_then_37 K Q1 x1 x2 x3 M) : W p l e (RM 8) s m args below meth c H locs 0 0 (MQ below (QcW EC T D ad (69 + K) A Q1) args s 0 0 A) (F0 m 37 ls []) := by
  delta B_X11_then_37 at hB
  obtain ⟨X37, hX37, hY37⟩ : ∃ X37 : Int32 → Mem → Prop, (∀ (x3 : Int32) (M : Mem), X37 x3 M → ∀ (H : Heap) (locs : List Loc) (ls : Array Slot), Zz EC T D ad (69 + K) A s.heap M H locs → lv_has ls 4 [(0, .ref (ad 0)), (1, .int x1), (2, .int x2), (3, .int x3)] → W p l e (RM 8) s m args below meth c H locs 0 0 (MQ below (QcW EC T D ad (69 + K) A Q1) args s 0 0 A) (F0 m 37 ls [])) ∧ (∀ (x3 : Int32) (M : Mem), (∀ (H : Heap) (locs : List Loc) (ls : Array Slot), Zz EC T D ad (69 + K) A s.heap M H locs → lv_has ls 4 [(0, .ref (ad 0)), (1, .int x1), (2, .int x2), (3, .int x3)] → W p l e (RM 8) s m args below meth c H locs 0 0 (MQ below (QcW EC T D ad (69 + K) A Q1) args s 0 0 A) (F0 m 37 ls [])) → X37 x3 M) := ⟨fun (x3 : Int32) (M : Mem) => ∀ (H : Heap) (locs : List Loc) (ls : Array Slot), Zz EC T D ad (69 + K) A s.heap M H locs → lv_has ls 4 [(0, .ref (ad 0)), (1, .int x1), (2, .int x2), (3, .int x3)] → W p l e (RM 8) s m args below meth c H locs 0 0 (MQ below (QcW EC T D ad (69 + K) A Q1) args s 0 0 A) (F0 m 37 ls []), fun _ _ h => h, fun _ _ h => h⟩
  refine hX37 _ _ (hB X37 (fun x3 M hB => hY37 _ _ (fun H locs ls Z hl => ?_))) _ _ _ Z hl
  have hx := C.x
  have hb := C.b
  refine lv_iload_n hx hb dX11_then_37 rfl (lv_at hl 3 rfl) ?_
  refine lv_iload_n hx hb dX11_then_38 rfl (lv_at hl 1 rfl) ?_
  refine lv_icmp_ge (tgt := 55) hx hb dX11_then_39 (by decide) (fun q10 => ?_) (fun q10 => ?_)
  · have hB := hB.1 q10
    refine lv_aload_n hx hb dX11_then_55 rfl (lv_at hl 0 rfl) ?_
    refine gf_X11_6 C Z.1 tw_2_18 dX11_then_56 ?_
    refine gf_X2_4 C Z.1 isH_1 tw_1_141 dX11_then_59 ?_
    refine lv_iload_n hx hb dX11_then_62 rfl (lv_at hl 2 rfl) ?_
    obtain ⟨q11, hB⟩ := hB
    refine a_ld C Z.1 (aH_2 isH_1) q11 dX11_then_63 ?_
    exact e_iW C hr hlk Z dX11_then_64 hB
  · have hB := hB.2 q10
    refine lv_aload_n hx hb dX11_then_42 rfl (lv_at hl 0 rfl) ?_
    refine gf_X11_6 C Z.1 tw_2_18 dX11_then_43 ?_
    refine v_X2_passHour C hl.1 Z isH_1 tw_4_41 ⟨Nat.le_of_ble_eq_true rfl, Nat.le_of_ble_eq_true rfl⟩ ⟨Nat.le_refl _, Nat.le_refl _⟩ (Nat.le_of_ble_eq_true rfl) dX11_then_46 hB (fun M12 H locs hB Z => ?_)
    obtain ⟨x3_13, ex3_13⟩ : ∃ y : Int32, y = x3 + 1 := ⟨_, rfl⟩
    have hB := hB x3_13 ex3_13
    refine lv_iinc (v := x3_13) (lv' := [(3, .int x3_13), (0, .ref (ad 0)), (1, .int x1), (2, .int x2)]) hx hb dX11_then_49 hl (k := 3) rfl (by rw [ex3_13]; rfl) (by decide) rfl (fun ls hl => ?_)
    refine lv_goto (tgt := 37) hx hb dX11_then_52 (by decide) ?_
    exact hX37 _ _ hB _ _ _ Z (lv_sub hl [1, 2, 3, 0] rfl)
set_option maxRecDepth 100000 in
set_option maxHeartbeats 4000000 in
theorem c_X11_then {l : Launch} {T : Nat → ClassId} {D : va_G} {ad : Nat → Nat} {K : Nat} {M : Mem} {x1 : Int32} {x2 : Int32} {sz : Nat} {Q1 : Int32 → Mem → Prop} (hB : P_X11_then K M x1 x2 Q1) : Met l yX11_then (Cond.code yX11_then cX11_then 4 (some .int) :: TB) (RM 8) (va_Pc [.ref (ad 0), .int x1, .int x2] (WrP EC T D ad (69 + K) M sz)) (QcW EC T D ad (69 + K) (AA ad (69 + K) sz) Q1) 0 0 (AA ad (69 + K) sz) := by
  refine st_W (by decide) (Nat.le_of_ble_eq_true rfl) (fun p e s m args below meth c ls C hr hlk hsz Z hl => ?_)
  have hl : lv_has ls 4 [(0, .ref (ad 0)), (1, .int x1), (2, .int x2)] := hl
  generalize AA ad (69 + K) sz = A at Z ⊢
  have hx := C.x
  have hb := C.b
  delta P_X11_then at hB
  refine lv_iload_n hx hb dX11_then_0 rfl (lv_at hl 1 rfl) ?_
  refine lv_if_lt (tgt := 18) hx hb dX11_then_1 (by decide) (fun q1 => ?_) (fun q1 => ?_)
  · have hB := hB.1 q1
    refine lv_aload_n hx hb dX11_then_18 rfl (lv_at hl 0 rfl) ?_
    refine lv_iconst (v := 1) hx hb dX11_then_19 (by decide) ?_
    refine v_X11_error C hl.1 Z tw_2_56 ⟨Nat.le_of_ble_eq_true rfl, Nat.le_of_ble_eq_true rfl⟩ ⟨Nat.le_refl _, Nat.le_refl _⟩ (Nat.le_of_ble_eq_true rfl) dX11_then_20 hB (fun v2 M3 H locs hB Z => ?_)
    exact e_iW C hr hlk Z dX11_then_23 hB
  · have hB := hB.2 q1
    refine lv_iload_n hx hb dX11_then_4 rfl (lv_at hl 1 rfl) ?_
    refine lv_bipush (v := 100) hx hb dX11_then_5 (by decide) ?_
    refine lv_icmp_gt (tgt := 18) hx hb dX11_then_7 (by decide) (fun q4 => ?_) (fun q4 => ?_)
    · have hB := hB.1 q4
      refine lv_aload_n hx hb dX11_then_18 rfl (lv_at hl 0 rfl) ?_
      refine lv_iconst (v := 1) hx hb dX11_then_19 (by decide) ?_
      refine v_X11_error C hl.1 Z tw_2_56 ⟨Nat.le_of_ble_eq_true rfl, Nat.le_of_ble_eq_true rfl⟩ ⟨Nat.le_refl _, Nat.le_refl _⟩ (Nat.le_of_ble_eq_true rfl) dX11_then_20 hB (fun v5 M6 H locs hB Z => ?_)
      exact e_iW C hr hlk Z dX11_then_23 hB
    · have hB := hB.2 q4
      refine lv_aload_n hx hb dX11_then_10 rfl (lv_at hl 0 rfl) ?_
      refine lv_iload_n hx hb dX11_then_11 rfl (lv_at hl 2 rfl) ?_
      refine v_X11_isWindow C hl.1 Z.1 tw_2_95 ⟨Nat.le_of_ble_eq_true rfl, Nat.le_of_ble_eq_true rfl⟩ ⟨Nat.le_refl _, Nat.le_refl _⟩ (Nat.le_of_ble_eq_true rfl) dX11_then_12 hB (fun v7 hB => ?_)
      refine lv_if_ne (tgt := 24) hx hb dX11_then_15 (by decide) (fun q8 => ?_) (fun q8 => ?_)
      · have hB := hB.1 q8
        refine lv_aload_n hx hb dX11_then_24 rfl (lv_at hl 0 rfl) ?_
        refine gf_X11_6 C Z.1 tw_2_18 dX11_then_25 ?_
        refine lv_aload_n hx hb dX11_then_28 rfl (lv_at hl 0 rfl) ?_
        refine gf_X11_5 C Z.1 tw_2_17 dX11_then_29 ?_
        refine v_X2_copyFrom C hl.1 Z isH_1 isH_0 tw_4_79 ⟨Nat.le_of_ble_eq_true rfl, Nat.le_of_ble_eq_true rfl⟩ ⟨Nat.le_refl _, Nat.le_refl _⟩ (Nat.le_of_ble_eq_true rfl) dX11_then_32 hB (fun M9 H locs hB Z => ?_)
        refine lv_iconst (v := 0) hx hb dX11_then_35 (by decide) ?_
        refine lv_istore_n (lv' := [(3, .int 0), (0, .ref (ad 0)), (1, .int x1), (2, .int x2)]) hx hb dX11_then_36 rfl hl (by decide) rfl (fun ls hl => ?_)
        exact w_X11_then_37 C hr hlk Z (lv_sub hl [1, 2, 3, 0] rfl) hB
      · have hB := hB.2 q8
        refine lv_aload_n hx hb dX11_then_18 rfl (lv_at hl 0 rfl) ?_
        refine lv_iconst (v := 1) hx hb dX11_then_19 (by decide) ?_
        refine v_X11_error C hl.1 Z tw_2_56 ⟨Nat.le_of_ble_eq_true rfl, Nat.le_of_ble_eq_true rfl⟩ ⟨Nat.le_refl _, Nat.le_refl _⟩ (Nat.le_of_ble_eq_true rfl) dX11_then_20 hB (fun v14 M15 H locs hB Z => ?_)
        exact e_iW C hr hlk Z dX11_then_23 hB
set_option maxRecDepth 100000 in
set_option maxHeartbeats 4000000 in
theorem v_X11_then {K : Nat} {M : Mem} {x1 : Int32} {x2 : Int32} {Q1 : Int32 → Mem → Prop} (C : Cx T D p s m args c cc nL own) (hls : ls.size = nL) (Z : Zz EC T D ad (69 + K) A H0 M H locs) (hlink : Cond.methodLink own index yX11_then ∈ TB) (hR : 8 + 1 ≤ R.frames ∧ 8 + (4 + 11) + 48 * 8 ≤ R.locals) (hcs : cells ≤ R.cells ∧ slots ≤ R.slots) (hcat : (rest.map fun v => v.category).sum ≤ 8) (hdg : decode cc pc = .ok (.invokevirtual index, 3)) (hB : P_X11_then K M x1 x2 Q1)
    (kk : ∀ (r : Int32) (M1 : Mem) (H1 : Heap) (locs1 : List Loc), Q1 r M1 → Zz EC T D ad (69 + K) A H0 M1 H1 locs1 → W p l e R s m args below meth c H1 locs1 cells slots QQ (F0 m (pc + 3) ls (.int r :: rest))) : W p l e R s m args below meth c H locs cells slots QQ (F0 m pc ls (.int x2 :: .int x1 :: .ref (ad 0) :: rest)) :=
  k_VW (ci := 11) (n := 2) (c_X11_then hB) tw_4_96 tw_4_94 tw_4_95 tw_1_1 ⟨rfl, by decide, by decide, by decide +kernel⟩ rfl rfl C hls Z oO hlink hR hcs hcat rfl hdg kk
def B_X2_swollenSet_4 (K : Nat) (g : Nat) (M : Mem) (Q1 : Int32 → Prop) (x1 : Int32) (x2 : Int32) : Prop :=
  ∀ X4 : Int32 → Int32 → Prop, (∀ (x1 : Int32) (x2 : Int32), ((((M g 0) ≤ x2 → Q1 x1) ∧
    (¬ (M g 0) ≤ x2 → vp_in x2 8 ∧ (((M (g + 4) x2.toNatClampNeg) = 0 → ∀ x2_4 : Int32, x2_4 = x2 + 1 → X4 x1 x2_4) ∧
      (¬ (M (g + 4) x2.toNatClampNeg) = 0 → ∀ x1_5 : Int32, x1_5 = x1 ||| (1 <<< (x2 &&& 31)) → ∀ x2_6 : Int32, x2_6 = x2 + 1 → X4 x1_5 x2_6))))) → X4 x1 x2) → X4 x1 x2
def P_X2_swollenSet (K : Nat) (M : Mem) (g : Nat) (Q1 : Int32 → Prop) : Prop :=
  B_X2_swollenSet_4 K g M Q1 0 0
set_option maxRecDepth 100000 in
set_option maxHeartbeats 4000000 in
theorem w_X2_swollenSet_4 {K : Nat} {g : Nat} {M : Mem} {Q1 : Int32 → Prop} {x1 : Int32} {x2 : Int32} (C : Cx T D p s m args c cX2_swollenSet 3 "OneOfTwo$House") (hr : meth.sig.returnType = (some .int)) (hlk : meth.locks = false) (hP : Pw EC T D ad (69 + K) M s.heap) (hg : isH g) {ls : Array Slot} (hl : lv_has ls 3 [(0, .ref (ad g)), (1, .int x1), (2, .int x2)]) (hB : B_X2_swollenSet_4 K g M Q1 x1 x2) : W p l e (RM 1) s m args below meth c s.heap [] 0 0 (MQ below (QcR Q1) args s 0 0 (fun _ => False)) (F0 m 4 ls []) := by
  delta B_X2_swollenSet_4 at hB
  obtain ⟨X4, hX4, hY4⟩ : ∃ X4 : Int32 → Int32 → Prop, (∀ (x1 : Int32) (x2 : Int32), X4 x1 x2 → ∀ (ls : Array Slot), lv_has ls 3 [(0, .ref (ad g)), (1, .int x1), (2, .int x2)] → W p l e (RM 1) s m args below meth c s.heap [] 0 0 (MQ below (QcR Q1) args s 0 0 (fun _ => False)) (F0 m 4 ls [])) ∧ (∀ (x1 : Int32) (x2 : Int32), (∀ (ls : Array Slot), lv_has ls 3 [(0, .ref (ad g)), (1, .int x1), (2, .int x2)] → W p l e (RM 1) s m args below meth c s.heap [] 0 0 (MQ below (QcR Q1) args s 0 0 (fun _ => False)) (F0 m 4 ls [])) → X4 x1 x2) := ⟨fun (x1 : Int32) (x2 : Int32) => ∀ (ls : Array Slot), lv_has ls 3 [(0, .ref (ad g)), (1, .int x1), (2, .int x2)] → W p l e (RM 1) s m args below meth c s.heap [] 0 0 (MQ below (QcR Q1) args s 0 0 (fun _ => False)) (F0 m 4 ls []), fun _ _ h => h, fun _ _ h => h⟩
  refine hX4 _ _ (hB X4 (fun x1 x2 hB => hY4 _ _ (fun ls hl => ?_))) _ hl
  have hx := C.x
  have hb := C.b
  refine lv_iload_n hx hb dX2_swollenSet_4 rfl (lv_at hl 2 rfl) ?_
  refine lv_aload_n hx hb dX2_swollenSet_5 rfl (lv_at hl 0 rfl) ?_
  refine gf_X2_0 C hP hg tw_1_127 dX2_swollenSet_6 ?_
  refine lv_icmp_ge (tgt := 33) hx hb dX2_swollenSet_9 (by decide) (fun q1 => ?_) (fun q1 => ?_)
  · have hB := hB.1 q1
    refine lv_iload_n hx hb dX2_swollenSet_33 rfl (lv_at hl 1 rfl) ?_
    exact e_iR C.1 hr hlk dX2_swollenSet_34 hB
  · have hB := hB.2 q1
    refine lv_aload_n hx hb dX2_swollenSet_12 rfl (lv_at hl 0 rfl) ?_
    refine gf_X2_6 C hP hg tw_1_145 dX2_swollenSet_13 ?_
    refine lv_iload_n hx hb dX2_swollenSet_16 rfl (lv_at hl 2 rfl) ?_
    obtain ⟨q2, hB⟩ := hB
    refine a_ld C hP (aH_4 hg) q2 dX2_swollenSet_17 ?_
    refine lv_if_eq (tgt := 27) hx hb dX2_swollenSet_18 (by decide) (fun q3 => ?_) (fun q3 => ?_)
    · have hB := hB.1 q3
      obtain ⟨x2_4, ex2_4⟩ : ∃ y : Int32, y = x2 + 1 := ⟨_, rfl⟩
      have hB := hB x2_4 ex2_4
      refine lv_iinc (v := x2_4) (lv' := [(2, .int x2_4), (0, .ref (ad g)), (1, .int x1)]) hx hb dX2_swollenSet_27 hl (k := 2) rfl (by rw [ex2_4]; rfl) (by decide) rfl (fun ls hl => ?_)
      refine lv_goto (tgt := 4) hx hb dX2_swollenSet_30 (by decide) ?_
      exact hX4 _ _ hB _ (lv_sub hl [1, 2, 0] rfl)
    · have hB := hB.2 q3
      refine lv_iload_n hx hb dX2_swollenSet_21 rfl (lv_at hl 1 rfl) ?_
      refine lv_iconst (v := 1) hx hb dX2_swollenSet_22 (by decide) ?_
      refine lv_iload_n hx hb dX2_swollenSet_23 rfl (lv_at hl 2 rfl) ?_
      refine lv_ishl hx hb dX2_swollenSet_24 ?_
      refine lv_ior hx hb dX2_swollenSet_25 ?_
      refine lv_topi (fun x1_5 ex1_5 => ?_)
      have hB := hB x1_5 ex1_5
      refine lv_istore_n (lv' := [(1, .int x1_5), (0, .ref (ad g)), (2, .int x2)]) hx hb dX2_swollenSet_26 rfl hl (by decide) rfl (fun ls hl => ?_)
      obtain ⟨x2_6, ex2_6⟩ : ∃ y : Int32, y = x2 + 1 := ⟨_, rfl⟩
      have hB := hB x2_6 ex2_6
      refine lv_iinc (v := x2_6) (lv' := [(2, .int x2_6), (1, .int x1_5), (0, .ref (ad g))]) hx hb dX2_swollenSet_27 hl (k := 2) rfl (by rw [ex2_6]; rfl) (by decide) rfl (fun ls hl => ?_)
      refine lv_goto (tgt := 4) hx hb dX2_swollenSet_30 (by decide) ?_
      exact hX4 _ _ hB _ (lv_sub hl [2, 1, 0] rfl)
set_option maxRecDepth 100000 in
set_option maxHeartbeats 4000000 in
theorem c_X2_swollenSet {l : Launch} {T : Nat → ClassId} {D : va_G} {ad : Nat → Nat} {K : Nat} {M : Mem} {g : Nat} {Q1 : Int32 → Prop} (hg : isH g) (hB : P_X2_swollenSet K M g Q1) : Met l yX2_swollenSet (Cond.code yX2_swollenSet cX2_swollenSet 3 (some .int) :: TB) (RM 1) (va_Pc [.ref (ad g)] (RdP EC T D ad (69 + K) M)) (QcR Q1) 0 0 (fun _ => False) := by
  refine st_R (by decide) (Nat.le_of_ble_eq_true rfl) (fun p e s m args below meth c ls C hr hlk hP hl => ?_)
  have hl : lv_has ls 3 [(0, .ref (ad g))] := hl
  have hx := C.x
  have hb := C.b
  delta P_X2_swollenSet at hB
  refine lv_iconst (v := 0) hx hb dX2_swollenSet_0 (by decide) ?_
  refine lv_istore_n (lv' := [(1, .int 0), (0, .ref (ad g))]) hx hb dX2_swollenSet_1 rfl hl (by decide) rfl (fun ls hl => ?_)
  refine lv_iconst (v := 0) hx hb dX2_swollenSet_2 (by decide) ?_
  refine lv_istore_n (lv' := [(2, .int 0), (1, .int 0), (0, .ref (ad g))]) hx hb dX2_swollenSet_3 rfl hl (by decide) rfl (fun ls hl => ?_)
  exact w_X2_swollenSet_4 C hr hlk hP hg (lv_sub hl [2, 1, 0] rfl) hB
set_option maxRecDepth 100000 in
set_option maxHeartbeats 4000000 in
theorem v_X2_swollenSet {K : Nat} {M : Mem} {g : Nat} {Q1 : Int32 → Prop} (C : Cx T D p s m args c cc nL own) (hls : ls.size = nL) (hP : Pw EC T D ad (69 + K) M H) (hg : isH g) (hlink : Cond.methodLink own index yX2_swollenSet ∈ TB) (hR : 1 + 1 ≤ R.frames ∧ 8 + (3 + 11) + 48 * 1 ≤ R.locals) (hcs : cells ≤ R.cells ∧ slots ≤ R.slots) (hcat : (rest.map fun v => v.category).sum ≤ 8) (hdg : decode cc pc = .ok (.invokevirtual index, 3)) (hB : P_X2_swollenSet K M g Q1)
    (kk : ∀ r : Int32, Q1 r → W p l e R s m args below meth c H locs cells slots QQ (F0 m (pc + 3) ls (.int r :: rest))) : W p l e R s m args below meth c H locs cells slots QQ (F0 m pc ls (.ref (ad g) :: rest)) :=
  k_V (ci := 2) (n := 0) (c_X2_swollenSet hg hB) tw_4_104 tw_4_102 tw_4_103 tw_1_10 ⟨rfl, by decide, by decide, by decide +kernel⟩ rfl rfl C hls hP (oH hg) hlink hR hcs hcat rfl hdg kk
def P_X11_waysOfTwo (x0 : Int32) (Q1 : Int32 → Prop) : Prop :=
  ((x0 < 0 → Q1 0) ∧
    (¬ x0 < 0 → ((x0 ≤ 18 → ((9 < x0 → Q1 (19 - x0)) ∧
        (¬ 9 < x0 → Q1 (x0 + 1)))) ∧
      (¬ x0 ≤ 18 → Q1 0))))
set_option maxRecDepth 100000 in
set_option maxHeartbeats 4000000 in
theorem c_X11_waysOfTwo {l : Launch} {x0 : Int32} {Q1 : Int32 → Prop} (hB : P_X11_waysOfTwo x0 Q1) : Met l yX11_waysOfTwo (Cond.code yX11_waysOfTwo cX11_waysOfTwo 1 (some .int) :: TB) (RM 1) (va_Pc [.int x0] StP) (QcR Q1) 0 0 (fun _ => False) := by
  refine st_S (by decide) (Nat.le_of_ble_eq_true rfl) (fun p e s m args below meth c ls C hr hlk hl => ?_)
  have hl : lv_has ls 1 [(0, .int x0)] := hl
  have hx := C.1
  have hb := C.2.1
  delta P_X11_waysOfTwo at hB
  refine lv_iload_n hx hb dX11_waysOfTwo_0 rfl (lv_at hl 0 rfl) ?_
  refine lv_if_lt (tgt := 10) hx hb dX11_waysOfTwo_1 (by decide) (fun q1 => ?_) (fun q1 => ?_)
  · have hB := hB.1 q1
    refine lv_iconst (v := 0) hx hb dX11_waysOfTwo_10 (by decide) ?_
    exact e_iR C hr hlk dX11_waysOfTwo_11 hB
  · have hB := hB.2 q1
    refine lv_iload_n hx hb dX11_waysOfTwo_4 rfl (lv_at hl 0 rfl) ?_
    refine lv_bipush (v := 18) hx hb dX11_waysOfTwo_5 (by decide) ?_
    refine lv_icmp_le (tgt := 12) hx hb dX11_waysOfTwo_7 (by decide) (fun q2 => ?_) (fun q2 => ?_)
    · have hB := hB.1 q2
      refine lv_iload_n hx hb dX11_waysOfTwo_12 rfl (lv_at hl 0 rfl) ?_
      refine lv_bipush (v := 9) hx hb dX11_waysOfTwo_13 (by decide) ?_
      refine lv_icmp_gt (tgt := 24) hx hb dX11_waysOfTwo_15 (by decide) (fun q3 => ?_) (fun q3 => ?_)
      · have hB := hB.1 q3
        refine lv_bipush (v := 19) hx hb dX11_waysOfTwo_24 (by decide) ?_
        refine lv_iload_n hx hb dX11_waysOfTwo_26 rfl (lv_at hl 0 rfl) ?_
        refine lv_isub hx hb dX11_waysOfTwo_27 ?_
        exact e_iR C hr hlk dX11_waysOfTwo_28 hB
      · have hB := hB.2 q3
        refine lv_iload_n hx hb dX11_waysOfTwo_18 rfl (lv_at hl 0 rfl) ?_
        refine lv_iconst (v := 1) hx hb dX11_waysOfTwo_19 (by decide) ?_
        refine lv_iadd hx hb dX11_waysOfTwo_20 ?_
        refine lv_goto (tgt := 28) hx hb dX11_waysOfTwo_21 (by decide) ?_
        exact e_iR C hr hlk dX11_waysOfTwo_28 hB
    · have hB := hB.2 q2
      refine lv_iconst (v := 0) hx hb dX11_waysOfTwo_10 (by decide) ?_
      exact e_iR C hr hlk dX11_waysOfTwo_11 hB
set_option maxRecDepth 100000 in
set_option maxHeartbeats 4000000 in
theorem v_X11_waysOfTwo {x0 : Int32} {Q1 : Int32 → Prop} (C : CallFix p m c cc nL s args TB own) (hls : ls.size = nL) (hlink : Cond.methodLink own index yX11_waysOfTwo ∈ TB) (hR : 1 + 1 ≤ R.frames ∧ 8 + (1 + 11) + 48 * 1 ≤ R.locals) (hcs : cells ≤ R.cells ∧ slots ≤ R.slots) (hcat : (rest.map fun v => v.category).sum ≤ 8) (hdg : decode cc pc = .ok (.invokestatic index, 3)) (hB : P_X11_waysOfTwo x0 Q1)
    (kk : ∀ r : Int32, Q1 r → W p l e R s m args below meth c H locs cells slots QQ (F0 m (pc + 3) ls (.int r :: rest))) : W p l e R s m args below meth c H locs cells slots QQ (F0 m pc ls (.int x0 :: rest)) :=
  k_S (n := 1) (c_X11_waysOfTwo hB) tw_4_110 tw_4_109 tw_1_1 ⟨by decide, by decide, by decide +kernel⟩ rfl C hls  hlink hR hcs hcat rfl hdg kk
def B_X11_waysToOpen_21 (Q1 : Int32 → Prop) (x1 : Int32) (x2 : Int32) (x3 : Int32) : Prop :=
  ∀ X21 : Int32 → Int32 → Prop, (∀ (x2 : Int32) (x3 : Int32), (((9 < x3 → Q1 x2) ∧
    (¬ 9 < x3 → P_X11_waysOfTwo (x1 - x3) (fun v4 => ∀ x2_5 : Int32, x2_5 = x2 + v4 → ∀ x3_6 : Int32, x3_6 = x3 + 1 → X21 x2_5 x3_6)))) → X21 x2 x3) → X21 x2 x3
def P_X11_waysToOpen (x0 : Int32) (x1 : Int32) (Q1 : Int32 → Prop) : Prop :=
  ((2 ≤ x0 → ((¬ x0 = 2 → B_X11_waysToOpen_21 Q1 x1 0 0) ∧
      (x0 = 2 → P_X11_waysOfTwo x1 (fun v7 => Q1 v7)))) ∧
    (¬ 2 ≤ x0 → Q1 1))
set_option maxRecDepth 100000 in
set_option maxHeartbeats 4000000 in
theorem w_X11_waysToOpen_21 {Q1 : Int32 → Prop} {x1 : Int32} {x2 : Int32} {x3 : Int32} (C : CallFix p m c cX11_waysToOpen 4 s args TB "OneOfTwo") (hr : meth.sig.returnType = (some .int)) (hlk : meth.locks = false) {ls : Array Slot} (hl : lv_has ls 4 [(1, .int x1), (2, .int x2), (3, .int x3)]) (hB : B_X11_waysToOpen_21 Q1 x1 x2 x3) : W p l e (RM 2) s m args below meth c s.heap [] 0 0 (MQ below (QcR Q1) args s 0 0 (fun _ => False)) (F0 m 21 ls []) := by
  delta B_X11_waysToOpen_21 at hB
  obtain ⟨X21, hX21, hY21⟩ : ∃ X21 : Int32 → Int32 → Prop, (∀ (x2 : Int32) (x3 : Int32), X21 x2 x3 → ∀ (ls : Array Slot), lv_has ls 4 [(1, .int x1), (2, .int x2), (3, .int x3)] → W p l e (RM 2) s m args below meth c s.heap [] 0 0 (MQ below (QcR Q1) args s 0 0 (fun _ => False)) (F0 m 21 ls [])) ∧ (∀ (x2 : Int32) (x3 : Int32), (∀ (ls : Array Slot), lv_has ls 4 [(1, .int x1), (2, .int x2), (3, .int x3)] → W p l e (RM 2) s m args below meth c s.heap [] 0 0 (MQ below (QcR Q1) args s 0 0 (fun _ => False)) (F0 m 21 ls [])) → X21 x2 x3) := ⟨fun (x2 : Int32) (x3 : Int32) => ∀ (ls : Array Slot), lv_has ls 4 [(1, .int x1), (2, .int x2), (3, .int x3)] → W p l e (RM 2) s m args below meth c s.heap [] 0 0 (MQ below (QcR Q1) args s 0 0 (fun _ => False)) (F0 m 21 ls []), fun _ _ h => h, fun _ _ h => h⟩
  refine hX21 _ _ (hB X21 (fun x2 x3 hB => hY21 _ _ (fun ls hl => ?_))) _ hl
  have hx := C.1
  have hb := C.2.1
  refine lv_iload_n hx hb dX11_waysToOpen_21 rfl (lv_at hl 2 rfl) ?_
  refine lv_bipush (v := 9) hx hb dX11_waysToOpen_22 (by decide) ?_
  refine lv_icmp_gt (tgt := 42) hx hb dX11_waysToOpen_24 (by decide) (fun q3 => ?_) (fun q3 => ?_)
  · have hB := hB.1 q3
    refine lv_iload_n hx hb dX11_waysToOpen_42 rfl (lv_at hl 1 rfl) ?_
    exact e_iR C hr hlk dX11_waysToOpen_43 hB
  · have hB := hB.2 q3
    refine lv_iload_n hx hb dX11_waysToOpen_27 rfl (lv_at hl 1 rfl) ?_
    refine lv_iload_n hx hb dX11_waysToOpen_28 rfl (lv_at hl 0 rfl) ?_
    refine lv_iload_n hx hb dX11_waysToOpen_29 rfl (lv_at hl 2 rfl) ?_
    refine lv_isub hx hb dX11_waysToOpen_30 ?_
    refine v_X11_waysOfTwo C hl.1 tw_4_108 ⟨Nat.le_of_ble_eq_true rfl, Nat.le_of_ble_eq_true rfl⟩ ⟨Nat.le_refl _, Nat.le_refl _⟩ (Nat.le_of_ble_eq_true rfl) dX11_waysToOpen_31 hB (fun v4 hB => ?_)
    refine lv_iadd hx hb dX11_waysToOpen_34 ?_
    refine lv_topi (fun x2_5 ex2_5 => ?_)
    have hB := hB x2_5 ex2_5
    refine lv_istore_n (lv' := [(2, .int x2_5), (1, .int x1), (3, .int x3)]) hx hb dX11_waysToOpen_35 rfl hl (by decide) rfl (fun ls hl => ?_)
    obtain ⟨x3_6, ex3_6⟩ : ∃ y : Int32, y = x3 + 1 := ⟨_, rfl⟩
    have hB := hB x3_6 ex3_6
    refine lv_iinc (v := x3_6) (lv' := [(3, .int x3_6), (2, .int x2_5), (1, .int x1)]) hx hb dX11_waysToOpen_36 hl (k := 2) rfl (by rw [ex3_6]; rfl) (by decide) rfl (fun ls hl => ?_)
    refine lv_goto (tgt := 21) hx hb dX11_waysToOpen_39 (by decide) ?_
    exact hX21 _ _ hB _ (lv_sub hl [2, 1, 0] rfl)
set_option maxRecDepth 100000 in
set_option maxHeartbeats 4000000 in
theorem c_X11_waysToOpen {l : Launch} {x0 : Int32} {x1 : Int32} {Q1 : Int32 → Prop} (hB : P_X11_waysToOpen x0 x1 Q1) : Met l yX11_waysToOpen (Cond.code yX11_waysToOpen cX11_waysToOpen 4 (some .int) :: TB) (RM 2) (va_Pc [.int x0, .int x1] StP) (QcR Q1) 0 0 (fun _ => False) := by
  refine st_S (by decide) (Nat.le_of_ble_eq_true rfl) (fun p e s m args below meth c ls C hr hlk hl => ?_)
  have hl : lv_has ls 4 [(0, .int x0), (1, .int x1)] := hl
  have hx := C.1
  have hb := C.2.1
  delta P_X11_waysToOpen at hB
  refine lv_iload_n hx hb dX11_waysToOpen_0 rfl (lv_at hl 0 rfl) ?_
  refine lv_iconst (v := 2) hx hb dX11_waysToOpen_1 (by decide) ?_
  refine lv_icmp_ge (tgt := 7) hx hb dX11_waysToOpen_2 (by decide) (fun q1 => ?_) (fun q1 => ?_)
  · have hB := hB.1 q1
    refine lv_iload_n hx hb dX11_waysToOpen_7 rfl (lv_at hl 0 rfl) ?_
    refine lv_iconst (v := 2) hx hb dX11_waysToOpen_8 (by decide) ?_
    refine lv_icmp_ne (tgt := 17) hx hb dX11_waysToOpen_9 (by decide) (fun q2 => ?_) (fun q2 => ?_)
    · have hB := hB.1 q2
      refine lv_iconst (v := 0) hx hb dX11_waysToOpen_17 (by decide) ?_
      refine lv_istore_n (lv' := [(2, .int 0), (0, .int x0), (1, .int x1)]) hx hb dX11_waysToOpen_18 rfl hl (by decide) rfl (fun ls hl => ?_)
      refine lv_iconst (v := 0) hx hb dX11_waysToOpen_19 (by decide) ?_
      refine lv_istore_n (lv' := [(3, .int 0), (2, .int 0), (0, .int x0), (1, .int x1)]) hx hb dX11_waysToOpen_20 rfl hl (by decide) rfl (fun ls hl => ?_)
      exact w_X11_waysToOpen_21 C hr hlk (lv_sub hl [3, 1, 0] rfl) hB
    · have hB := hB.2 q2
      refine lv_iload_n hx hb dX11_waysToOpen_12 rfl (lv_at hl 1 rfl) ?_
      refine v_X11_waysOfTwo C hl.1 tw_4_108 ⟨Nat.le_of_ble_eq_true rfl, Nat.le_of_ble_eq_true rfl⟩ ⟨Nat.le_refl _, Nat.le_refl _⟩ (Nat.le_of_ble_eq_true rfl) dX11_waysToOpen_13 hB (fun v7 hB => ?_)
      exact e_iR C hr hlk dX11_waysToOpen_16 hB
  · have hB := hB.2 q1
    refine lv_iconst (v := 1) hx hb dX11_waysToOpen_5 (by decide) ?_
    exact e_iR C hr hlk dX11_waysToOpen_6 hB
set_option maxRecDepth 100000 in
set_option maxHeartbeats 4000000 in
theorem v_X11_waysToOpen {x0 : Int32} {x1 : Int32} {Q1 : Int32 → Prop} (C : CallFix p m c cc nL s args TB own) (hls : ls.size = nL) (hlink : Cond.methodLink own index yX11_waysToOpen ∈ TB) (hR : 2 + 1 ≤ R.frames ∧ 8 + (4 + 11) + 48 * 2 ≤ R.locals) (hcs : cells ≤ R.cells ∧ slots ≤ R.slots) (hcat : (rest.map fun v => v.category).sum ≤ 8) (hdg : decode cc pc = .ok (.invokestatic index, 3)) (hB : P_X11_waysToOpen x0 x1 Q1)
    (kk : ∀ r : Int32, Q1 r → W p l e R s m args below meth c H locs cells slots QQ (F0 m (pc + 3) ls (.int r :: rest))) : W p l e R s m args below meth c H locs cells slots QQ (F0 m pc ls (.int x1 :: .int x0 :: rest)) :=
  k_S (n := 2) (c_X11_waysToOpen hB) tw_4_107 tw_4_106 tw_1_1 ⟨by decide, by decide, by decide +kernel⟩ rfl C hls  hlink hR hcs hcat rfl hdg kk
def B_X11_standings_4 (K : Nat) (M : Mem) (Q1 : Int32 → Prop) (x1 : Int32) (x2 : Int32) : Prop :=
  ∀ X4 : Int32 → Int32 → Prop, (∀ (x1 : Int32) (x2 : Int32), ((((M 30 1) ≤ x2 → Q1 x1) ∧
    (¬ (M 30 1) ≤ x2 → P_X2_setOf K M 30 x2 (fun v2 => P_X2_swollenSet K M 30 (fun v3 => ∀ x3_4 : Int32, x3_4 = v2 &&& (v3 ^^^ (-1)) → P_J6_bitCount_0f7a4 x3_4 (fun v5 => P_X2_openOf K M 30 x3_4 (fun v6 => P_X11_waysToOpen v5 v6 (fun v7 => ∀ x1_8 : Int32, x1_8 = x1 * v7 → ∀ x2_9 : Int32, x2_9 = x2 + 1 → X4 x1_8 x2_9)))))))) → X4 x1 x2) → X4 x1 x2
def P_X11_standings (K : Nat) (M : Mem) (Q1 : Int32 → Prop) : Prop :=
  B_X11_standings_4 K M Q1 1 0
set_option maxRecDepth 100000 in
set_option maxHeartbeats 4000000 in
theorem w_X11_standings_4 {K : Nat} {M : Mem} {Q1 : Int32 → Prop} {x1 : Int32} {x2 : Int32} (C : Cx T D p s m args c cX11_standings 4 "OneOfTwo") (hr : meth.sig.returnType = (some .int)) (hlk : meth.locks = false) (hP : Pw EC T D ad (69 + K) M s.heap) {ls : Array Slot} (hl : lv_has ls 4 [(0, .ref (ad 0)), (1, .int x1), (2, .int x2)]) (hB : B_X11_standings_4 K M Q1 x1 x2) : W p l e (RM 3) s m args below meth c s.heap [] 0 0 (MQ below (QcR Q1) args s 0 0 (fun _ => False)) (F0 m 4 ls []) := by
  delta B_X11_standings_4 at hB
  obtain ⟨X4, hX4, hY4⟩ : ∃ X4 : Int32 → Int32 → Prop, (∀ (x1 : Int32) (x2 : Int32), X4 x1 x2 → ∀ (ls : Array Slot), lv_has ls 4 [(0, .ref (ad 0)), (1, .int x1), (2, .int x2)] → W p l e (RM 3) s m args below meth c s.heap [] 0 0 (MQ below (QcR Q1) args s 0 0 (fun _ => False)) (F0 m 4 ls [])) ∧ (∀ (x1 : Int32) (x2 : Int32), (∀ (ls : Array Slot), lv_has ls 4 [(0, .ref (ad 0)), (1, .int x1), (2, .int x2)] → W p l e (RM 3) s m args below meth c s.heap [] 0 0 (MQ below (QcR Q1) args s 0 0 (fun _ => False)) (F0 m 4 ls [])) → X4 x1 x2) := ⟨fun (x1 : Int32) (x2 : Int32) => ∀ (ls : Array Slot), lv_has ls 4 [(0, .ref (ad 0)), (1, .int x1), (2, .int x2)] → W p l e (RM 3) s m args below meth c s.heap [] 0 0 (MQ below (QcR Q1) args s 0 0 (fun _ => False)) (F0 m 4 ls []), fun _ _ h => h, fun _ _ h => h⟩
  refine hX4 _ _ (hB X4 (fun x1 x2 hB => hY4 _ _ (fun ls hl => ?_))) _ hl
  have hx := C.x
  have hb := C.b
  refine lv_iload_n hx hb dX11_standings_4 rfl (lv_at hl 2 rfl) ?_
  refine lv_aload_n hx hb dX11_standings_5 rfl (lv_at hl 0 rfl) ?_
  refine gf_X11_5 C hP tw_2_17 dX11_standings_6 ?_
  refine gf_X2_1 C hP isH_0 tw_1_131 dX11_standings_9 ?_
  refine lv_icmp_ge (tgt := 58) hx hb dX11_standings_12 (by decide) (fun q1 => ?_) (fun q1 => ?_)
  · have hB := hB.1 q1
    refine lv_iload_n hx hb dX11_standings_58 rfl (lv_at hl 1 rfl) ?_
    exact e_iR C.1 hr hlk dX11_standings_59 hB
  · have hB := hB.2 q1
    refine lv_aload_n hx hb dX11_standings_15 rfl (lv_at hl 0 rfl) ?_
    refine gf_X11_5 C hP tw_2_17 dX11_standings_16 ?_
    refine lv_iload_n hx hb dX11_standings_19 rfl (lv_at hl 2 rfl) ?_
    refine v_X2_setOf C hl.1 hP isH_0 tw_2_103 ⟨Nat.le_of_ble_eq_true rfl, Nat.le_of_ble_eq_true rfl⟩ ⟨Nat.le_refl _, Nat.le_refl _⟩ (Nat.le_of_ble_eq_true rfl) dX11_standings_20 hB (fun v2 hB => ?_)
    refine lv_aload_n hx hb dX11_standings_23 rfl (lv_at hl 0 rfl) ?_
    refine gf_X11_5 C hP tw_2_17 dX11_standings_24 ?_
    refine v_X2_swollenSet C hl.1 hP isH_0 tw_4_101 ⟨Nat.le_of_ble_eq_true rfl, Nat.le_of_ble_eq_true rfl⟩ ⟨Nat.le_refl _, Nat.le_refl _⟩ (Nat.le_of_ble_eq_true rfl) dX11_standings_27 hB (fun v3 hB => ?_)
    refine lv_iconst (v := (-1)) hx hb dX11_standings_30 (by decide) ?_
    refine lv_ixor hx hb dX11_standings_31 ?_
    refine lv_iand hx hb dX11_standings_32 ?_
    refine lv_topi (fun x3_4 ex3_4 => ?_)
    have hB := hB x3_4 ex3_4
    refine lv_istore_n (lv' := [(3, .int x3_4), (0, .ref (ad 0)), (1, .int x1), (2, .int x2)]) hx hb dX11_standings_33 rfl hl (by decide) rfl (fun ls hl => ?_)
    refine lv_iload_n hx hb dX11_standings_34 rfl (lv_at hl 2 rfl) ?_
    refine lv_iload_n hx hb dX11_standings_35 rfl (lv_at hl 0 rfl) ?_
    refine v_J6_bitCount_0f7a4 C.1 hl.1 tw_2_69 ⟨Nat.le_of_ble_eq_true rfl, Nat.le_of_ble_eq_true rfl⟩ ⟨Nat.le_refl _, Nat.le_refl _⟩ (Nat.le_of_ble_eq_true rfl) dX11_standings_36 hB (fun v5 hB => ?_)
    refine lv_aload_n hx hb dX11_standings_39 rfl (lv_at hl 1 rfl) ?_
    refine gf_X11_5 C hP tw_2_17 dX11_standings_40 ?_
    refine lv_iload_n hx hb dX11_standings_43 rfl (lv_at hl 0 rfl) ?_
    refine v_X2_openOf C hl.1 hP isH_0 tw_2_107 ⟨Nat.le_of_ble_eq_true rfl, Nat.le_of_ble_eq_true rfl⟩ ⟨Nat.le_refl _, Nat.le_refl _⟩ (Nat.le_of_ble_eq_true rfl) dX11_standings_44 hB (fun v6 hB => ?_)
    refine v_X11_waysToOpen C.1 hl.1 tw_4_105 ⟨Nat.le_of_ble_eq_true rfl, Nat.le_of_ble_eq_true rfl⟩ ⟨Nat.le_refl _, Nat.le_refl _⟩ (Nat.le_of_ble_eq_true rfl) dX11_standings_47 hB (fun v7 hB => ?_)
    refine lv_imul hx hb dX11_standings_50 ?_
    refine lv_topi (fun x1_8 ex1_8 => ?_)
    have hB := hB x1_8 ex1_8
    refine lv_istore_n (lv' := [(1, .int x1_8), (3, .int x3_4), (0, .ref (ad 0)), (2, .int x2)]) hx hb dX11_standings_51 rfl hl (by decide) rfl (fun ls hl => ?_)
    obtain ⟨x2_9, ex2_9⟩ : ∃ y : Int32, y = x2 + 1 := ⟨_, rfl⟩
    have hB := hB x2_9 ex2_9
    refine lv_iinc (v := x2_9) (lv' := [(2, .int x2_9), (1, .int x1_8), (3, .int x3_4), (0, .ref (ad 0))]) hx hb dX11_standings_52 hl (k := 3) rfl (by rw [ex2_9]; rfl) (by decide) rfl (fun ls hl => ?_)
    refine lv_goto (tgt := 4) hx hb dX11_standings_55 (by decide) ?_
    exact hX4 _ _ hB _ (lv_sub hl [3, 1, 0] rfl)
set_option maxRecDepth 100000 in
set_option maxHeartbeats 4000000 in
theorem c_X11_standings {l : Launch} {T : Nat → ClassId} {D : va_G} {ad : Nat → Nat} {K : Nat} {M : Mem} {Q1 : Int32 → Prop} (hB : P_X11_standings K M Q1) : Met l yX11_standings (Cond.code yX11_standings cX11_standings 4 (some .int) :: TB) (RM 3) (va_Pc [.ref (ad 0)] (RdP EC T D ad (69 + K) M)) (QcR Q1) 0 0 (fun _ => False) := by
  refine st_R (by decide) (Nat.le_of_ble_eq_true rfl) (fun p e s m args below meth c ls C hr hlk hP hl => ?_)
  have hl : lv_has ls 4 [(0, .ref (ad 0))] := hl
  have hx := C.x
  have hb := C.b
  delta P_X11_standings at hB
  refine lv_iconst (v := 1) hx hb dX11_standings_0 (by decide) ?_
  refine lv_istore_n (lv' := [(1, .int 1), (0, .ref (ad 0))]) hx hb dX11_standings_1 rfl hl (by decide) rfl (fun ls hl => ?_)
  refine lv_iconst (v := 0) hx hb dX11_standings_2 (by decide) ?_
  refine lv_istore_n (lv' := [(2, .int 0), (1, .int 1), (0, .ref (ad 0))]) hx hb dX11_standings_3 rfl hl (by decide) rfl (fun ls hl => ?_)
  exact w_X11_standings_4 C hr hlk hP (lv_sub hl [2, 1, 0] rfl) hB
set_option maxRecDepth 100000 in
set_option maxHeartbeats 4000000 in
theorem v_X11_standings {K : Nat} {M : Mem} {Q1 : Int32 → Prop} (C : Cx T D p s m args c cc nL own) (hls : ls.size = nL) (hP : Pw EC T D ad (69 + K) M H) (hlink : Cond.methodLink own index yX11_standings ∈ TB) (hR : 3 + 1 ≤ R.frames ∧ 8 + (4 + 11) + 48 * 3 ≤ R.locals) (hcs : cells ≤ R.cells ∧ slots ≤ R.slots) (hcat : (rest.map fun v => v.category).sum ≤ 8) (hdg : decode cc pc = .ok (.invokevirtual index, 3)) (hB : P_X11_standings K M Q1)
    (kk : ∀ r : Int32, Q1 r → W p l e R s m args below meth c H locs cells slots QQ (F0 m (pc + 3) ls (.int r :: rest))) : W p l e R s m args below meth c H locs cells slots QQ (F0 m pc ls (.ref (ad 0) :: rest)) :=
  k_V (ci := 11) (n := 0) (c_X11_standings hB) tw_4_100 tw_4_98 tw_4_99 tw_1_1 ⟨rfl, by decide, by decide, by decide +kernel⟩ rfl rfl C hls hP oO hlink hR hcs hcat rfl hdg kk
def B_J7_fill_53178_5 (r0 : Nat) (n0 : Nat) (Q1 : Mem → Prop) (x1 : Int32) (x2 : Int32) (x3 : Int32) (M : Mem) : Prop :=
  ∀ X5 : Int32 → Mem → Prop, (∀ (x2 : Int32) (M : Mem), (((x3 ≤ x2 → Q1 M) ∧
    (¬ x3 ≤ x2 → vp_in x2 n0 ∧ ∀ M3 : Mem, M3 = sf M r0 x2.toNatClampNeg x1 → ∀ x2_5 : Int32, x2_5 = x2 + 1 → X5 x2_5 M3))) → X5 x2 M) → X5 x2 M
def P_J7_fill_53178 (M : Mem) (r0 : Nat) (n0 : Nat) (x1 : Int32) (Q1 : Mem → Prop) : Prop :=
  ∀ x3_1 : Int32, x3_1 = Int32.ofNat n0 → B_J7_fill_53178_5 r0 n0 Q1 x1 0 x3_1 M
set_option maxRecDepth 100000 in
set_option maxHeartbeats 4000000 in
theorem w_J7_fill_53178_5 {E : ET} {K : Nat} {r0 : Nat} {n0 : Nat} {M : Mem} {Q1 : Mem → Prop} {x1 : Int32} {x2 : Int32} {x3 : Int32} (C : Cx T D p s m args c cJ7_fill_53178 4 "java/util/Arrays") (hr : meth.sig.returnType = none) (hlk : meth.locks = false) (Z : Zz E T D ad K A s.heap M H locs) (f0 : IA E K r0 n0) {ls : Array Slot} (hl : lv_has ls 4 [(0, .ref (ad r0)), (1, .int x1), (2, .int x2), (3, .int x3)]) (hB : B_J7_fill_53178_5 r0 n0 Q1 x1 x2 x3 M) : W p l e (RM 1) s m args below meth c H locs 0 0 (MQ below (QcV E T D ad K A Q1) args s 0 0 A) (F0 m 5 ls []) := by
  delta B_J7_fill_53178_5 at hB
  obtain ⟨X5, hX5, hY5⟩ : ∃ X5 : Int32 → Mem → Prop, (∀ (x2 : Int32) (M : Mem), X5 x2 M → ∀ (H : Heap) (locs : List Loc) (ls : Array Slot), Zz E T D ad K A s.heap M H locs → lv_has ls 4 [(0, .ref (ad r0)), (1, .int x1), (2, .int x2), (3, .int x3)] → W p l e (RM 1) s m args below meth c H locs 0 0 (MQ below (QcV E T D ad K A Q1) args s 0 0 A) (F0 m 5 ls [])) ∧ (∀ (x2 : Int32) (M : Mem), (∀ (H : Heap) (locs : List Loc) (ls : Array Slot), Zz E T D ad K A s.heap M H locs → lv_has ls 4 [(0, .ref (ad r0)), (1, .int x1), (2, .int x2), (3, .int x3)] → W p l e (RM 1) s m args below meth c H locs 0 0 (MQ below (QcV E T D ad K A Q1) args s 0 0 A) (F0 m 5 ls [])) → X5 x2 M) := ⟨fun (x2 : Int32) (M : Mem) => ∀ (H : Heap) (locs : List Loc) (ls : Array Slot), Zz E T D ad K A s.heap M H locs → lv_has ls 4 [(0, .ref (ad r0)), (1, .int x1), (2, .int x2), (3, .int x3)] → W p l e (RM 1) s m args below meth c H locs 0 0 (MQ below (QcV E T D ad K A Q1) args s 0 0 A) (F0 m 5 ls []), fun _ _ h => h, fun _ _ h => h⟩
  refine hX5 _ _ (hB X5 (fun x2 M hB => hY5 _ _ (fun H locs ls Z hl => ?_))) _ _ _ Z hl
  have hx := C.x
  have hb := C.b
  refine lv_iload_n hx hb dJ7_fill_53178_5 rfl (lv_at hl 2 rfl) ?_
  refine lv_iload_n hx hb dJ7_fill_53178_6 rfl (lv_at hl 3 rfl) ?_
  refine lv_icmp_ge (tgt := 20) hx hb dJ7_fill_53178_7 (by decide) (fun q2 => ?_) (fun q2 => ?_)
  · have hB := hB.1 q2
    exact e_vW C hr hlk Z dJ7_fill_53178_20 hB
  · have hB := hB.2 q2
    refine lv_aload_n hx hb dJ7_fill_53178_10 rfl (lv_at hl 0 rfl) ?_
    refine lv_iload_n hx hb dJ7_fill_53178_11 rfl (lv_at hl 2 rfl) ?_
    refine lv_iload_n hx hb dJ7_fill_53178_12 rfl (lv_at hl 1 rfl) ?_
    obtain ⟨q4, hB⟩ := hB
    refine a_st C Z f0 q4 dJ7_fill_53178_13 (fun M3 H locs eM3 Z => ?_)
    have hB := hB M3 eM3
    obtain ⟨x2_5, ex2_5⟩ : ∃ y : Int32, y = x2 + 1 := ⟨_, rfl⟩
    have hB := hB x2_5 ex2_5
    refine lv_iinc (v := x2_5) (lv' := [(2, .int x2_5), (0, .ref (ad r0)), (1, .int x1), (3, .int x3)]) hx hb dJ7_fill_53178_14 hl (k := 2) rfl (by rw [ex2_5]; rfl) (by decide) rfl (fun ls hl => ?_)
    refine lv_goto (tgt := 5) hx hb dJ7_fill_53178_17 (by decide) ?_
    exact hX5 _ _ hB _ _ _ Z (lv_sub hl [1, 2, 0, 3] rfl)
set_option maxRecDepth 100000 in
set_option maxHeartbeats 4000000 in
theorem c_J7_fill_53178 {l : Launch} {T : Nat → ClassId} {D : va_G} {ad : Nat → Nat} {E : ET} {K : Nat} {M : Mem} {r0 : Nat} {n0 : Nat} {x1 : Int32} {sz : Nat} {Q1 : Mem → Prop} (f0 : IA E K r0 n0) (hB : P_J7_fill_53178 M r0 n0 x1 Q1) : Met l yJ7_fill_53178 (Cond.code yJ7_fill_53178 cJ7_fill_53178 4 none :: TB) (RM 1) (va_Pc [.ref (ad r0), .int x1] (WrP E T D ad K M sz)) (QcV E T D ad K (AA ad K sz) Q1) 0 0 (AA ad K sz) := by
  refine st_W (by decide) (Nat.le_of_ble_eq_true rfl) (fun p e s m args below meth c ls C hr hlk hsz Z hl => ?_)
  have hl : lv_has ls 4 [(0, .ref (ad r0)), (1, .int x1)] := hl
  generalize AA ad K sz = A at Z ⊢
  have hx := C.x
  have hb := C.b
  delta P_J7_fill_53178 at hB
  refine lv_iconst (v := 0) hx hb dJ7_fill_53178_0 (by decide) ?_
  refine lv_istore_n (lv' := [(2, .int 0), (0, .ref (ad r0)), (1, .int x1)]) hx hb dJ7_fill_53178_1 rfl hl (by decide) rfl (fun ls hl => ?_)
  refine lv_aload_n hx hb dJ7_fill_53178_2 rfl (lv_at hl 1 rfl) ?_
  refine a_len (v := Int32.ofNat n0) C Z.1 f0 rfl dJ7_fill_53178_3 ?_
  refine lv_topi (fun x3_1 ex3_1 => ?_)
  have hB := hB x3_1 ex3_1
  refine lv_istore_n (lv' := [(3, .int x3_1), (2, .int 0), (0, .ref (ad r0)), (1, .int x1)]) hx hb dJ7_fill_53178_4 rfl hl (by decide) rfl (fun ls hl => ?_)
  exact w_J7_fill_53178_5 C hr hlk Z f0 (lv_sub hl [2, 3, 1, 0] rfl) hB
set_option maxRecDepth 100000 in
set_option maxHeartbeats 4000000 in
theorem v_J7_fill_53178 {E : ET} {K : Nat} {M : Mem} {r0 : Nat} {n0 : Nat} {x1 : Int32} {Q1 : Mem → Prop} (C : Cx T D p s m args c cc nL own) (hls : ls.size = nL) (Z : Zz E T D ad K A H0 M H locs) (f0 : IA E K r0 n0) (hlink : Cond.methodLink own index yJ7_fill_53178 ∈ TB) (hR : 1 + 1 ≤ R.frames ∧ 8 + (4 + 11) + 48 * 1 ≤ R.locals) (hcs : cells ≤ R.cells ∧ slots ≤ R.slots) (hcat : (rest.map fun v => v.category).sum ≤ 8) (hdg : decode cc pc = .ok (.invokestatic index, 3)) (hB : P_J7_fill_53178 M r0 n0 x1 Q1)
    (kk : ∀ (M1 : Mem) (H1 : Heap) (locs1 : List Loc), Q1 M1 → Zz E T D ad K A H0 M1 H1 locs1 → W p l e R s m args below meth c H1 locs1 cells slots QQ (F0 m (pc + 3) ls rest)) : W p l e R s m args below meth c H locs cells slots QQ (F0 m pc ls (.int x1 :: .ref (ad r0) :: rest)) :=
  k_SV (n := 2) (c_J7_fill_53178 f0 hB) tw_4_125 tw_4_124 tw_1_22 ⟨by decide, by decide, by decide +kernel⟩ rfl C hls Z hlink hR hcs hcat rfl hdg kk
def P_X5_looseOn (K : Nat) (M : Mem) (x1 : Int32) (Q1 : Int32 → Prop) : Prop :=
  vp_in x1 8 ∧ (((M 34 x1.toNatClampNeg) = 0 → vp_in x1 8 ∧ Q1 (M 33 x1.toNatClampNeg)) ∧
    (¬ (M 34 x1.toNatClampNeg) = 0 → Q1 (-1)))
set_option maxRecDepth 100000 in
set_option maxHeartbeats 4000000 in
theorem c_X5_looseOn {l : Launch} {T : Nat → ClassId} {D : va_G} {ad : Nat → Nat} {K : Nat} {M : Mem} {x1 : Int32} {Q1 : Int32 → Prop} (hB : P_X5_looseOn K M x1 Q1) : Met l yX5_looseOn (Cond.code yX5_looseOn cX5_looseOn 2 (some .int) :: TB) (RM 1) (va_Pc [.ref (ad 7), .int x1] (RdP EC T D ad (69 + K) M)) (QcR Q1) 0 0 (fun _ => False) := by
  refine st_R (by decide) (Nat.le_of_ble_eq_true rfl) (fun p e s m args below meth c ls C hr hlk hP hl => ?_)
  have hl : lv_has ls 2 [(0, .ref (ad 7)), (1, .int x1)] := hl
  have hx := C.x
  have hb := C.b
  delta P_X5_looseOn at hB
  refine lv_aload_n hx hb dX5_looseOn_0 rfl (lv_at hl 0 rfl) ?_
  refine gf_X5_0 C hP tw_1_218 dX5_looseOn_1 ?_
  refine gf_X2_6 C hP isH_0 tw_1_147 dX5_looseOn_4 ?_
  refine lv_iload_n hx hb dX5_looseOn_7 rfl (lv_at hl 1 rfl) ?_
  obtain ⟨q1, hB⟩ := hB
  refine a_ld C hP (aH_4 isH_0) q1 dX5_looseOn_8 ?_
  refine lv_if_eq (tgt := 16) hx hb dX5_looseOn_9 (by decide) (fun q2 => ?_) (fun q2 => ?_)
  · have hB := hB.1 q2
    refine lv_aload_n hx hb dX5_looseOn_16 rfl (lv_at hl 0 rfl) ?_
    refine gf_X5_0 C hP tw_1_218 dX5_looseOn_17 ?_
    refine gf_X2_5 C hP isH_0 tw_1_144 dX5_looseOn_20 ?_
    refine lv_iload_n hx hb dX5_looseOn_23 rfl (lv_at hl 1 rfl) ?_
    obtain ⟨q3, hB⟩ := hB
    refine a_ld C hP (aH_3 isH_0) q3 dX5_looseOn_24 ?_
    exact e_iR C.1 hr hlk dX5_looseOn_25 hB
  · have hB := hB.2 q2
    refine lv_iconst (v := (-1)) hx hb dX5_looseOn_12 (by decide) ?_
    refine lv_goto (tgt := 25) hx hb dX5_looseOn_13 (by decide) ?_
    exact e_iR C.1 hr hlk dX5_looseOn_25 hB
set_option maxRecDepth 100000 in
set_option maxHeartbeats 4000000 in
theorem v_X5_looseOn {K : Nat} {M : Mem} {x1 : Int32} {Q1 : Int32 → Prop} (C : Cx T D p s m args c cc nL own) (hls : ls.size = nL) (hP : Pw EC T D ad (69 + K) M H) (hlink : Cond.methodLink own index yX5_looseOn ∈ TB) (hR : 1 + 1 ≤ R.frames ∧ 8 + (2 + 11) + 48 * 1 ≤ R.locals) (hcs : cells ≤ R.cells ∧ slots ≤ R.slots) (hcat : (rest.map fun v => v.category).sum ≤ 8) (hdg : decode cc pc = .ok (.invokevirtual index, 3)) (hB : P_X5_looseOn K M x1 Q1)
    (kk : ∀ r : Int32, Q1 r → W p l e R s m args below meth c H locs cells slots QQ (F0 m (pc + 3) ls (.int r :: rest))) : W p l e R s m args below meth c H locs cells slots QQ (F0 m pc ls (.int x1 :: .ref (ad 7) :: rest)) :=
  k_V (ci := 5) (n := 1) (c_X5_looseOn hB) tw_4_129 tw_4_128 tw_s_12 tw_1_11 ⟨rfl, by decide, by decide, by decide +kernel⟩ rfl rfl C hls hP oS hlink hR hcs hcat rfl hdg kk
def B_X5_prepareCords_121 (K : Nat) (Q1 : Mem → Prop) (x1 : Int32) (M : Mem) : Prop :=
  ∀ X121 : Int32 → Mem → Prop, (∀ (x1 : Int32) (M : Mem), ((((M 30 1) ≤ x1 → Q1 M) ∧
    (¬ (M 30 1) ≤ x1 → vp_in x1 4 ∧ (((M 11 x1.toNatClampNeg) ≤ 0 → ∀ x1_8 : Int32, x1_8 = x1 + 1 → X121 x1_8 M) ∧
      (¬ (M 11 x1.toNatClampNeg) ≤ 0 → vp_in x1 4 ∧ vp_in (M 12 x1.toNatClampNeg) 8 ∧ ∀ v11 : Int32, v11 = (M 31 (M 12 x1.toNatClampNeg).toNatClampNeg) + 1 → vp_in v11 11 ∧ vp_in x1 4 ∧ vp_in v11 11 ∧ ∀ M14 : Mem, M14 = sf M 9 v11.toNatClampNeg ((M 9 v11.toNatClampNeg) + (M 10 x1.toNatClampNeg)) → ∀ x1_16 : Int32, x1_16 = x1 + 1 → X121 x1_16 M14))))) → X121 x1 M) → X121 x1 M
def B_X5_prepareCords_26 (K : Nat) (Q1 : Mem → Prop) (x1 : Int32) (M : Mem) : Prop :=
  ∀ X26 : Int32 → Mem → Prop, (∀ (x1 : Int32) (M : Mem), ((((M 30 0) ≤ x1 → B_X5_prepareCords_121 K Q1 0 M) ∧
    (¬ (M 30 0) ≤ x1 → P_X5_looseOn K M x1 (fun v17 => ((v17 < 0 → vp_in x1 8 ∧ ∀ v20 : Int32, v20 = (M 31 x1.toNatClampNeg) + 1 → vp_in v20 11 ∧ vp_in x1 8 ∧ vp_in v20 11 ∧ ∀ M23 : Mem, M23 = sf M 9 v20.toNatClampNeg ((M 9 v20.toNatClampNeg) + (M 32 x1.toNatClampNeg)) → ∀ x1_25 : Int32, x1_25 = x1 + 1 → X26 x1_25 M23) ∧
      (¬ v17 < 0 → vp_in v17 4 ∧ vp_in x1 8 ∧ vp_in v17 4 ∧ ∀ M28 : Mem, M28 = sf M 10 v17.toNatClampNeg ((M 10 v17.toNatClampNeg) + (M 32 x1.toNatClampNeg)) → vp_in v17 4 ∧ vp_in v17 4 ∧ ∀ M31 : Mem, M31 = sf M28 11 v17.toNatClampNeg ((M28 11 v17.toNatClampNeg) + 1) → vp_in v17 4 ∧ ∀ M33 : Mem, M33 = sf M31 12 v17.toNatClampNeg x1 → ∀ x1_35 : Int32, x1_35 = x1 + 1 → X26 x1_35 M33)))))) → X26 x1 M) → X26 x1 M
def P_X5_prepareCords (K : Nat) (M : Mem) (Q1 : Mem → Prop) : Prop :=
  P_J7_fill_53178 M 9 11 0 (fun M1 => P_J7_fill_53178 M1 10 4 0 (fun M2 => P_J7_fill_53178 M2 11 4 0 (fun M3 => B_X5_prepareCords_26 K Q1 0 M3)))
set_option maxRecDepth 100000 in
set_option maxHeartbeats 4000000 in
theorem w_X5_prepareCords_121 {K : Nat} {M : Mem} {Q1 : Mem → Prop} {x1 : Int32} (C : Cx T D p s m args c cX5_prepareCords 3 "OneOfTwo$Search") (hr : meth.sig.returnType = none) (hlk : meth.locks = false) (Z : Zz EC T D ad (69 + K) A s.heap M H locs) {ls : Array Slot} (hl : lv_has ls 3 [(0, .ref (ad 7)), (1, .int x1)]) (hB : B_X5_prepareCords_121 K Q1 x1 M) : W p l e (RM 2) s m args below meth c H locs 0 0 (MQ below (QcV EC T D ad (69 + K) A Q1) args s 0 0 A) (F0 m 121 ls []) := by
  delta B_X5_prepareCords_121 at hB
  obtain ⟨X121, hX121, hY121⟩ : ∃ X121 : Int32 → Mem → Prop, (∀ (x1 : Int32) (M : Mem), X121 x1 M → ∀ (H : Heap) (locs : List Loc) (ls : Array Slot), Zz EC T D ad (69 + K) A s.heap M H locs → lv_has ls 3 [(0, .ref (ad 7)), (1, .int x1)] → W p l e (RM 2) s m args below meth c H locs 0 0 (MQ below (QcV EC T D ad (69 + K) A Q1) args s 0 0 A) (F0 m 121 ls [])) ∧ (∀ (x1 : Int32) (M : Mem), (∀ (H : Heap) (locs : List Loc) (ls : Array Slot), Zz EC T D ad (69 + K) A s.heap M H locs → lv_has ls 3 [(0, .ref (ad 7)), (1, .int x1)] → W p l e (RM 2) s m args below meth c H locs 0 0 (MQ below (QcV EC T D ad (69 + K) A Q1) args s 0 0 A) (F0 m 121 ls [])) → X121 x1 M) := ⟨fun (x1 : Int32) (M : Mem) => ∀ (H : Heap) (locs : List Loc) (ls : Array Slot), Zz EC T D ad (69 + K) A s.heap M H locs → lv_has ls 3 [(0, .ref (ad 7)), (1, .int x1)] → W p l e (RM 2) s m args below meth c H locs 0 0 (MQ below (QcV EC T D ad (69 + K) A Q1) args s 0 0 A) (F0 m 121 ls []), fun _ _ h => h, fun _ _ h => h⟩
  refine hX121 _ _ (hB X121 (fun x1 M hB => hY121 _ _ (fun H locs ls Z hl => ?_))) _ _ _ Z hl
  have hx := C.x
  have hb := C.b
  refine lv_iload_n hx hb dX5_prepareCords_121 rfl (lv_at hl 1 rfl) ?_
  refine lv_aload_n hx hb dX5_prepareCords_122 rfl (lv_at hl 0 rfl) ?_
  refine gf_X5_0 C Z.1 tw_1_218 dX5_prepareCords_123 ?_
  refine gf_X2_1 C Z.1 isH_0 tw_1_132 dX5_prepareCords_126 ?_
  refine lv_icmp_ge (tgt := 177) hx hb dX5_prepareCords_129 (by decide) (fun q5 => ?_) (fun q5 => ?_)
  · have hB := hB.1 q5
    exact e_vW C hr hlk Z dX5_prepareCords_177 hB
  · have hB := hB.2 q5
    refine lv_aload_n hx hb dX5_prepareCords_132 rfl (lv_at hl 0 rfl) ?_
    refine gf_X5_4 C Z.1 tw_1_222 dX5_prepareCords_133 ?_
    refine lv_iload_n hx hb dX5_prepareCords_136 rfl (lv_at hl 1 rfl) ?_
    obtain ⟨q6, hB⟩ := hB
    refine a_ld C Z.1 aC_11 q6 dX5_prepareCords_137 ?_
    refine lv_if_le (tgt := 171) hx hb dX5_prepareCords_138 (by decide) (fun q7 => ?_) (fun q7 => ?_)
    · have hB := hB.1 q7
      obtain ⟨x1_8, ex1_8⟩ : ∃ y : Int32, y = x1 + 1 := ⟨_, rfl⟩
      have hB := hB x1_8 ex1_8
      refine lv_iinc (v := x1_8) (lv' := [(1, .int x1_8), (0, .ref (ad 7))]) hx hb dX5_prepareCords_171 hl (k := 1) rfl (by rw [ex1_8]; rfl) (by decide) rfl (fun ls hl => ?_)
      refine lv_goto (tgt := 121) hx hb dX5_prepareCords_174 (by decide) ?_
      exact hX121 _ _ hB _ _ _ Z (lv_sub hl [1, 0] rfl)
    · have hB := hB.2 q7
      refine lv_aload_n hx hb dX5_prepareCords_141 rfl (lv_at hl 0 rfl) ?_
      refine gf_X5_2 C Z.1 tw_1_220 dX5_prepareCords_142 ?_
      refine lv_aload_n hx hb dX5_prepareCords_145 rfl (lv_at hl 0 rfl) ?_
      refine gf_X5_0 C Z.1 tw_1_218 dX5_prepareCords_146 ?_
      refine gf_X2_3 C Z.1 isH_0 tw_1_137 dX5_prepareCords_149 ?_
      refine lv_aload_n hx hb dX5_prepareCords_152 rfl (lv_at hl 0 rfl) ?_
      refine gf_X5_5 C Z.1 tw_1_223 dX5_prepareCords_153 ?_
      refine lv_iload_n hx hb dX5_prepareCords_156 rfl (lv_at hl 1 rfl) ?_
      obtain ⟨q9, hB⟩ := hB
      refine a_ld C Z.1 aC_12 q9 dX5_prepareCords_157 ?_
      obtain ⟨q10, hB⟩ := hB
      refine a_ld C Z.1 (aH_1 isH_0) q10 dX5_prepareCords_158 ?_
      refine lv_iconst (v := 1) hx hb dX5_prepareCords_159 (by decide) ?_
      refine lv_iadd hx hb dX5_prepareCords_160 ?_
      refine lv_topi (fun v11 ev11 => ?_)
      have hB := hB v11 ev11
      refine lv_dup2_11 hx hb dX5_prepareCords_161 rfl rfl ?_
      obtain ⟨q12, hB⟩ := hB
      refine a_ld C Z.1 aC_9 q12 dX5_prepareCords_162 ?_
      refine lv_aload_n hx hb dX5_prepareCords_163 rfl (lv_at hl 0 rfl) ?_
      refine gf_X5_3 C Z.1 tw_1_221 dX5_prepareCords_164 ?_
      refine lv_iload_n hx hb dX5_prepareCords_167 rfl (lv_at hl 1 rfl) ?_
      obtain ⟨q13, hB⟩ := hB
      refine a_ld C Z.1 aC_10 q13 dX5_prepareCords_168 ?_
      refine lv_iadd hx hb dX5_prepareCords_169 ?_
      obtain ⟨q15, hB⟩ := hB
      refine a_st C Z aC_9 q15 dX5_prepareCords_170 (fun M14 H locs eM14 Z => ?_)
      have hB := hB M14 eM14
      obtain ⟨x1_16, ex1_16⟩ : ∃ y : Int32, y = x1 + 1 := ⟨_, rfl⟩
      have hB := hB x1_16 ex1_16
      refine lv_iinc (v := x1_16) (lv' := [(1, .int x1_16), (0, .ref (ad 7))]) hx hb dX5_prepareCords_171 hl (k := 1) rfl (by rw [ex1_16]; rfl) (by decide) rfl (fun ls hl => ?_)
      refine lv_goto (tgt := 121) hx hb dX5_prepareCords_174 (by decide) ?_
      exact hX121 _ _ hB _ _ _ Z (lv_sub hl [1, 0] rfl)
set_option maxRecDepth 100000 in
set_option maxHeartbeats 4000000 in
theorem w_X5_prepareCords_26 {K : Nat} {M : Mem} {Q1 : Mem → Prop} {x1 : Int32} (C : Cx T D p s m args c cX5_prepareCords 3 "OneOfTwo$Search") (hr : meth.sig.returnType = none) (hlk : meth.locks = false) (Z : Zz EC T D ad (69 + K) A s.heap M H locs) {ls : Array Slot} (hl : lv_has ls 3 [(0, .ref (ad 7)), (1, .int x1)]) (hB : B_X5_prepareCords_26 K Q1 x1 M) : W p l e (RM 2) s m args below meth c H locs 0 0 (MQ below (QcV EC T D ad (69 + K) A Q1) args s 0 0 A) (F0 m 26 ls []) := by
  delta B_X5_prepareCords_26 at hB
  obtain ⟨X26, hX26, hY26⟩ : ∃ X26 : Int32 → Mem → Prop, (∀ (x1 : Int32) (M : Mem), X26 x1 M → ∀ (H : Heap) (locs : List Loc) (ls : Array Slot), Zz EC T D ad (69 + K) A s.heap M H locs → lv_has ls 3 [(0, .ref (ad 7)), (1, .int x1)] → W p l e (RM 2) s m args below meth c H locs 0 0 (MQ below (QcV EC T D ad (69 + K) A Q1) args s 0 0 A) (F0 m 26 ls [])) ∧ (∀ (x1 : Int32) (M : Mem), (∀ (H : Heap) (locs : List Loc) (ls : Array Slot), Zz EC T D ad (69 + K) A s.heap M H locs → lv_has ls 3 [(0, .ref (ad 7)), (1, .int x1)] → W p l e (RM 2) s m args below meth c H locs 0 0 (MQ below (QcV EC T D ad (69 + K) A Q1) args s 0 0 A) (F0 m 26 ls [])) → X26 x1 M) := ⟨fun (x1 : Int32) (M : Mem) => ∀ (H : Heap) (locs : List Loc) (ls : Array Slot), Zz EC T D ad (69 + K) A s.heap M H locs → lv_has ls 3 [(0, .ref (ad 7)), (1, .int x1)] → W p l e (RM 2) s m args below meth c H locs 0 0 (MQ below (QcV EC T D ad (69 + K) A Q1) args s 0 0 A) (F0 m 26 ls []), fun _ _ h => h, fun _ _ h => h⟩
  refine hX26 _ _ (hB X26 (fun x1 M hB => hY26 _ _ (fun H locs ls Z hl => ?_))) _ _ _ Z hl
  have hx := C.x
  have hb := C.b
  refine lv_iload_n hx hb dX5_prepareCords_26 rfl (lv_at hl 1 rfl) ?_
  refine lv_aload_n hx hb dX5_prepareCords_27 rfl (lv_at hl 0 rfl) ?_
  refine gf_X5_0 C Z.1 tw_1_218 dX5_prepareCords_28 ?_
  refine gf_X2_0 C Z.1 isH_0 tw_1_129 dX5_prepareCords_31 ?_
  refine lv_icmp_ge (tgt := 119) hx hb dX5_prepareCords_34 (by decide) (fun q4 => ?_) (fun q4 => ?_)
  · have hB := hB.1 q4
    refine lv_iconst (v := 0) hx hb dX5_prepareCords_119 (by decide) ?_
    refine lv_istore_n (lv' := [(1, .int 0), (0, .ref (ad 7))]) hx hb dX5_prepareCords_120 rfl hl (by decide) rfl (fun ls hl => ?_)
    exact w_X5_prepareCords_121 C hr hlk Z (lv_sub hl [1, 0] rfl) hB
  · have hB := hB.2 q4
    refine lv_aload_n hx hb dX5_prepareCords_37 rfl (lv_at hl 0 rfl) ?_
    refine lv_iload_n hx hb dX5_prepareCords_38 rfl (lv_at hl 1 rfl) ?_
    refine v_X5_looseOn C hl.1 Z.1 tw_4_126 ⟨Nat.le_of_ble_eq_true rfl, Nat.le_of_ble_eq_true rfl⟩ ⟨Nat.le_refl _, Nat.le_refl _⟩ (Nat.le_of_ble_eq_true rfl) dX5_prepareCords_39 hB (fun v17 hB => ?_)
    refine lv_istore_n (lv' := [(2, .int v17), (0, .ref (ad 7)), (1, .int x1)]) hx hb dX5_prepareCords_42 rfl hl (by decide) rfl (fun ls hl => ?_)
    refine lv_iload_n hx hb dX5_prepareCords_43 rfl (lv_at hl 0 rfl) ?_
    refine lv_if_lt (tgt := 85) hx hb dX5_prepareCords_44 (by decide) (fun q18 => ?_) (fun q18 => ?_)
    · have hB := hB.1 q18
      refine lv_aload_n hx hb dX5_prepareCords_85 rfl (lv_at hl 1 rfl) ?_
      refine gf_X5_2 C Z.1 tw_1_220 dX5_prepareCords_86 ?_
      refine lv_aload_n hx hb dX5_prepareCords_89 rfl (lv_at hl 1 rfl) ?_
      refine gf_X5_0 C Z.1 tw_1_218 dX5_prepareCords_90 ?_
      refine gf_X2_3 C Z.1 isH_0 tw_1_137 dX5_prepareCords_93 ?_
      refine lv_iload_n hx hb dX5_prepareCords_96 rfl (lv_at hl 2 rfl) ?_
      obtain ⟨q19, hB⟩ := hB
      refine a_ld C Z.1 (aH_1 isH_0) q19 dX5_prepareCords_97 ?_
      refine lv_iconst (v := 1) hx hb dX5_prepareCords_98 (by decide) ?_
      refine lv_iadd hx hb dX5_prepareCords_99 ?_
      refine lv_topi (fun v20 ev20 => ?_)
      have hB := hB v20 ev20
      refine lv_dup2_11 hx hb dX5_prepareCords_100 rfl rfl ?_
      obtain ⟨q21, hB⟩ := hB
      refine a_ld C Z.1 aC_9 q21 dX5_prepareCords_101 ?_
      refine lv_aload_n hx hb dX5_prepareCords_102 rfl (lv_at hl 1 rfl) ?_
      refine gf_X5_0 C Z.1 tw_1_218 dX5_prepareCords_103 ?_
      refine gf_X2_4 C Z.1 isH_0 tw_1_140 dX5_prepareCords_106 ?_
      refine lv_iload_n hx hb dX5_prepareCords_109 rfl (lv_at hl 2 rfl) ?_
      obtain ⟨q22, hB⟩ := hB
      refine a_ld C Z.1 (aH_2 isH_0) q22 dX5_prepareCords_110 ?_
      refine lv_iadd hx hb dX5_prepareCords_111 ?_
      obtain ⟨q24, hB⟩ := hB
      refine a_st C Z aC_9 q24 dX5_prepareCords_112 (fun M23 H locs eM23 Z => ?_)
      have hB := hB M23 eM23
      obtain ⟨x1_25, ex1_25⟩ : ∃ y : Int32, y = x1 + 1 := ⟨_, rfl⟩
      have hB := hB x1_25 ex1_25
      refine lv_iinc (v := x1_25) (lv' := [(1, .int x1_25), (2, .int v17), (0, .ref (ad 7))]) hx hb dX5_prepareCords_113 hl (k := 2) rfl (by rw [ex1_25]; rfl) (by decide) rfl (fun ls hl => ?_)
      refine lv_goto (tgt := 26) hx hb dX5_prepareCords_116 (by decide) ?_
      exact hX26 _ _ hB _ _ _ Z (lv_sub hl [2, 0] rfl)
    · have hB := hB.2 q18
      refine lv_aload_n hx hb dX5_prepareCords_47 rfl (lv_at hl 1 rfl) ?_
      refine gf_X5_3 C Z.1 tw_1_221 dX5_prepareCords_48 ?_
      refine lv_iload_n hx hb dX5_prepareCords_51 rfl (lv_at hl 0 rfl) ?_
      refine lv_dup2_11 hx hb dX5_prepareCords_52 rfl rfl ?_
      obtain ⟨q26, hB⟩ := hB
      refine a_ld C Z.1 aC_10 q26 dX5_prepareCords_53 ?_
      refine lv_aload_n hx hb dX5_prepareCords_54 rfl (lv_at hl 1 rfl) ?_
      refine gf_X5_0 C Z.1 tw_1_218 dX5_prepareCords_55 ?_
      refine gf_X2_4 C Z.1 isH_0 tw_1_140 dX5_prepareCords_58 ?_
      refine lv_iload_n hx hb dX5_prepareCords_61 rfl (lv_at hl 2 rfl) ?_
      obtain ⟨q27, hB⟩ := hB
      refine a_ld C Z.1 (aH_2 isH_0) q27 dX5_prepareCords_62 ?_
      refine lv_iadd hx hb dX5_prepareCords_63 ?_
      obtain ⟨q29, hB⟩ := hB
      refine a_st C Z aC_10 q29 dX5_prepareCords_64 (fun M28 H locs eM28 Z => ?_)
      have hB := hB M28 eM28
      refine lv_aload_n hx hb dX5_prepareCords_65 rfl (lv_at hl 1 rfl) ?_
      refine gf_X5_4 C Z.1 tw_1_222 dX5_prepareCords_66 ?_
      refine lv_iload_n hx hb dX5_prepareCords_69 rfl (lv_at hl 0 rfl) ?_
      refine lv_dup2_11 hx hb dX5_prepareCords_70 rfl rfl ?_
      obtain ⟨q30, hB⟩ := hB
      refine a_ld C Z.1 aC_11 q30 dX5_prepareCords_71 ?_
      refine lv_iconst (v := 1) hx hb dX5_prepareCords_72 (by decide) ?_
      refine lv_iadd hx hb dX5_prepareCords_73 ?_
      obtain ⟨q32, hB⟩ := hB
      refine a_st C Z aC_11 q32 dX5_prepareCords_74 (fun M31 H locs eM31 Z => ?_)
      have hB := hB M31 eM31
      refine lv_aload_n hx hb dX5_prepareCords_75 rfl (lv_at hl 1 rfl) ?_
      refine gf_X5_5 C Z.1 tw_1_223 dX5_prepareCords_76 ?_
      refine lv_iload_n hx hb dX5_prepareCords_79 rfl (lv_at hl 0 rfl) ?_
      refine lv_iload_n hx hb dX5_prepareCords_80 rfl (lv_at hl 2 rfl) ?_
      obtain ⟨q34, hB⟩ := hB
      refine a_st C Z aC_12 q34 dX5_prepareCords_81 (fun M33 H locs eM33 Z => ?_)
      have hB := hB M33 eM33
      refine lv_goto (tgt := 113) hx hb dX5_prepareCords_82 (by decide) ?_
      obtain ⟨x1_35, ex1_35⟩ : ∃ y : Int32, y = x1 + 1 := ⟨_, rfl⟩
      have hB := hB x1_35 ex1_35
      refine lv_iinc (v := x1_35) (lv' := [(1, .int x1_35), (2, .int v17), (0, .ref (ad 7))]) hx hb dX5_prepareCords_113 hl (k := 2) rfl (by rw [ex1_35]; rfl) (by decide) rfl (fun ls hl => ?_)
      refine lv_goto (tgt := 26) hx hb dX5_prepareCords_116 (by decide) ?_
      exact hX26 _ _ hB _ _ _ Z (lv_sub hl [2, 0] rfl)
set_option maxRecDepth 100000 in
set_option maxHeartbeats 4000000 in
theorem c_X5_prepareCords {l : Launch} {T : Nat → ClassId} {D : va_G} {ad : Nat → Nat} {K : Nat} {M : Mem} {sz : Nat} {Q1 : Mem → Prop} (hB : P_X5_prepareCords K M Q1) : Met l yX5_prepareCords (Cond.code yX5_prepareCords cX5_prepareCords 3 none :: TB) (RM 2) (va_Pc [.ref (ad 7)] (WrP EC T D ad (69 + K) M sz)) (QcV EC T D ad (69 + K) (AA ad (69 + K) sz) Q1) 0 0 (AA ad (69 + K) sz) := by
  refine st_W (by decide) (Nat.le_of_ble_eq_true rfl) (fun p e s m args below meth c ls C hr hlk hsz Z hl => ?_)
  have hl : lv_has ls 3 [(0, .ref (ad 7))] := hl
  generalize AA ad (69 + K) sz = A at Z ⊢
  have hx := C.x
  have hb := C.b
  delta P_X5_prepareCords at hB
  refine lv_aload_n hx hb dX5_prepareCords_0 rfl (lv_at hl 0 rfl) ?_
  refine gf_X5_2 C Z.1 tw_1_220 dX5_prepareCords_1 ?_
  refine lv_iconst (v := 0) hx hb dX5_prepareCords_4 (by decide) ?_
  refine v_J7_fill_53178 C hl.1 Z aC_9 tw_4_123 ⟨Nat.le_of_ble_eq_true rfl, Nat.le_of_ble_eq_true rfl⟩ ⟨Nat.le_refl _, Nat.le_refl _⟩ (Nat.le_of_ble_eq_true rfl) dX5_prepareCords_5 hB (fun M1 H locs hB Z => ?_)
  refine lv_aload_n hx hb dX5_prepareCords_8 rfl (lv_at hl 0 rfl) ?_
  refine gf_X5_3 C Z.1 tw_1_221 dX5_prepareCords_9 ?_
  refine lv_iconst (v := 0) hx hb dX5_prepareCords_12 (by decide) ?_
  refine v_J7_fill_53178 C hl.1 Z aC_10 tw_4_123 ⟨Nat.le_of_ble_eq_true rfl, Nat.le_of_ble_eq_true rfl⟩ ⟨Nat.le_refl _, Nat.le_refl _⟩ (Nat.le_of_ble_eq_true rfl) dX5_prepareCords_13 hB (fun M2 H locs hB Z => ?_)
  refine lv_aload_n hx hb dX5_prepareCords_16 rfl (lv_at hl 0 rfl) ?_
  refine gf_X5_4 C Z.1 tw_1_222 dX5_prepareCords_17 ?_
  refine lv_iconst (v := 0) hx hb dX5_prepareCords_20 (by decide) ?_
  refine v_J7_fill_53178 C hl.1 Z aC_11 tw_4_123 ⟨Nat.le_of_ble_eq_true rfl, Nat.le_of_ble_eq_true rfl⟩ ⟨Nat.le_refl _, Nat.le_refl _⟩ (Nat.le_of_ble_eq_true rfl) dX5_prepareCords_21 hB (fun M3 H locs hB Z => ?_)
  refine lv_iconst (v := 0) hx hb dX5_prepareCords_24 (by decide) ?_
  refine lv_istore_n (lv' := [(1, .int 0), (0, .ref (ad 7))]) hx hb dX5_prepareCords_25 rfl hl (by decide) rfl (fun ls hl => ?_)
  exact w_X5_prepareCords_26 C hr hlk Z (lv_sub hl [1, 0] rfl) hB
set_option maxRecDepth 100000 in
set_option maxHeartbeats 4000000 in
theorem v_X5_prepareCords {K : Nat} {M : Mem} {Q1 : Mem → Prop} (C : Cx T D p s m args c cc nL own) (hls : ls.size = nL) (Z : Zz EC T D ad (69 + K) A H0 M H locs) (hlink : Cond.methodLink own index yX5_prepareCords ∈ TB) (hR : 2 + 1 ≤ R.frames ∧ 8 + (3 + 11) + 48 * 2 ≤ R.locals) (hcs : cells ≤ R.cells ∧ slots ≤ R.slots) (hcat : (rest.map fun v => v.category).sum ≤ 8) (hdg : decode cc pc = .ok (.invokevirtual index, 3)) (hB : P_X5_prepareCords K M Q1)
    (kk : ∀ (M1 : Mem) (H1 : Heap) (locs1 : List Loc), Q1 M1 → Zz EC T D ad (69 + K) A H0 M1 H1 locs1 → W p l e R s m args below meth c H1 locs1 cells slots QQ (F0 m (pc + 3) ls rest)) : W p l e R s m args below meth c H locs cells slots QQ (F0 m pc ls (.ref (ad 7) :: rest)) :=
  k_VV (ci := 5) (n := 0) (c_X5_prepareCords hB) tw_4_122 tw_4_121 tw_s_11 tw_1_11 ⟨rfl, by decide, by decide, by decide +kernel⟩ rfl rfl C hls Z oS hlink hR hcs hcat rfl hdg kk
def P_X5_placeFor (K : Nat) (M : Mem) (x1 : Int32) (x2 : Int32) (Q1 : Int32 → Prop) : Prop :=
  vp_in x2 8 ∧ vp_in x1 6 ∧ ∀ v3 : Int32, v3 = (if 0 ≤ ((M 31 x2.toNatClampNeg) - (M 37 x1.toNatClampNeg)) then ((M 31 x2.toNatClampNeg) - (M 37 x1.toNatClampNeg)) else 0 - ((M 31 x2.toNatClampNeg) - (M 37 x1.toNatClampNeg))) → ∀ v4 : Int32, v4 = (if v3 < 2 then v3 else 2) → Q1 v4
set_option maxRecDepth 100000 in
set_option maxHeartbeats 4000000 in
theorem c_X5_placeFor {l : Launch} {T : Nat → ClassId} {D : va_G} {ad : Nat → Nat} {K : Nat} {M : Mem} {x1 : Int32} {x2 : Int32} {Q1 : Int32 → Prop} (hB : P_X5_placeFor K M x1 x2 Q1) : Met l yX5_placeFor (Cond.code yX5_placeFor cX5_placeFor 3 (some .int) :: TB) (RM 2) (va_Pc [.ref (ad 7), .int x1, .int x2] (RdP EC T D ad (69 + K) M)) (QcR Q1) 0 0 (fun _ => False) := by
  refine st_R (by decide) (Nat.le_of_ble_eq_true rfl) (fun p e s m args below meth c ls C hr hlk hP hl => ?_)
  have hl : lv_has ls 3 [(0, .ref (ad 7)), (1, .int x1), (2, .int x2)] := hl
  have hx := C.x
  have hb := C.b
  delta P_X5_placeFor at hB
  refine lv_iconst (v := 2) hx hb dX5_placeFor_0 (by decide) ?_
  refine lv_aload_n hx hb dX5_placeFor_1 rfl (lv_at hl 0 rfl) ?_
  refine gf_X5_0 C hP tw_1_218 dX5_placeFor_2 ?_
  refine gf_X2_3 C hP isH_0 tw_1_137 dX5_placeFor_5 ?_
  refine lv_iload_n hx hb dX5_placeFor_8 rfl (lv_at hl 2 rfl) ?_
  obtain ⟨q1, hB⟩ := hB
  refine a_ld C hP (aH_1 isH_0) q1 dX5_placeFor_9 ?_
  refine lv_aload_n hx hb dX5_placeFor_10 rfl (lv_at hl 0 rfl) ?_
  refine gf_X5_0 C hP tw_1_218 dX5_placeFor_11 ?_
  refine gf_X2_9 C hP isH_0 tw_1_153 dX5_placeFor_14 ?_
  refine lv_iload_n hx hb dX5_placeFor_17 rfl (lv_at hl 1 rfl) ?_
  obtain ⟨q2, hB⟩ := hB
  refine a_ld C hP (aH_7 isH_0) q2 dX5_placeFor_18 ?_
  refine lv_isub hx hb dX5_placeFor_19 ?_
  refine m_abs C.1 hl.1 tw_4_138 (Nat.le_of_ble_eq_true rfl) (Nat.le_of_ble_eq_true rfl) dX5_placeFor_20 ?_
  refine lv_topi (fun v3 ev3 => ?_)
  have hB := hB v3 ev3
  refine m_min C.1 hl.1 tw_4_139 (Nat.le_of_ble_eq_true rfl) (Nat.le_of_ble_eq_true rfl) dX5_placeFor_23 ?_
  refine lv_topi (fun v4 ev4 => ?_)
  have hB := hB v4 ev4
  exact e_iR C.1 hr hlk dX5_placeFor_26 hB
set_option maxRecDepth 100000 in
set_option maxHeartbeats 4000000 in
theorem v_X5_placeFor {K : Nat} {M : Mem} {x1 : Int32} {x2 : Int32} {Q1 : Int32 → Prop} (C : Cx T D p s m args c cc nL own) (hls : ls.size = nL) (hP : Pw EC T D ad (69 + K) M H) (hlink : Cond.methodLink own index yX5_placeFor ∈ TB) (hR : 2 + 1 ≤ R.frames ∧ 8 + (3 + 11) + 48 * 2 ≤ R.locals) (hcs : cells ≤ R.cells ∧ slots ≤ R.slots) (hcat : (rest.map fun v => v.category).sum ≤ 8) (hdg : decode cc pc = .ok (.invokevirtual index, 3)) (hB : P_X5_placeFor K M x1 x2 Q1)
    (kk : ∀ r : Int32, Q1 r → W p l e R s m args below meth c H locs cells slots QQ (F0 m (pc + 3) ls (.int r :: rest))) : W p l e R s m args below meth c H locs cells slots QQ (F0 m pc ls (.int x2 :: .int x1 :: .ref (ad 7) :: rest)) :=
  k_V (ci := 5) (n := 2) (c_X5_placeFor hB) tw_4_137 tw_4_136 tw_s_14 tw_1_11 ⟨rfl, by decide, by decide, by decide +kernel⟩ rfl rfl C hls hP oS hlink hR hcs hcat rfl hdg kk
def B_X5_prepareLodgers_25 (K : Nat) (Q1 : Mem → Prop) (X10 : Int32 → Mem → Prop) (x1 : Int32) (x2 : Int32) (x3 : Int32) (M : Mem) : Prop :=
  ∀ X25 : Int32 → Int32 → Mem → Prop, (∀ (x2 : Int32) (x3 : Int32) (M : Mem), ((((M 30 0) ≤ x3 → vp_in x2 9 ∧ vp_in x2 9 ∧ ∀ M5 : Mem, M5 = sf M 13 x2.toNatClampNeg ((M 13 x2.toNatClampNeg) ||| (1 <<< (x1 &&& 31))) → ∀ x1_7 : Int32, x1_7 = x1 + 1 → X10 x1_7 M5) ∧
    (¬ (M 30 0) ≤ x3 → P_X5_looseOn K M x3 (fun v8 => ((v8 < 0 → ∀ x3_10 : Int32, x3_10 = x3 + 1 → X25 x2 x3_10 M) ∧
      (¬ v8 < 0 → P_X5_placeFor K M x1 x3 (fun v11 => vp_in v8 4 ∧ P_X5_placeFor K M x1 (M 12 v8.toNatClampNeg) (fun v13 => ((v11 = v13 → ∀ x3_15 : Int32, x3_15 = x3 + 1 → X25 x2 x3_15 M) ∧
        (¬ v11 = v13 → ∀ x2_16 : Int32, x2_16 = x3 + 1 → ∀ x3_17 : Int32, x3_17 = x3 + 1 → X25 x2_16 x3_17 M)))))))))) → X25 x2 x3 M) → X25 x2 x3 M
def B_X5_prepareLodgers_10 (K : Nat) (Q1 : Mem → Prop) (x1 : Int32) (M : Mem) : Prop :=
  ∀ X10 : Int32 → Mem → Prop, (∀ (x1 : Int32) (M : Mem), ((((M 30 2) ≤ x1 → Q1 M) ∧
    (¬ (M 30 2) ≤ x1 → B_X5_prepareLodgers_25 K Q1 X10 x1 0 0 M))) → X10 x1 M) → X10 x1 M
def P_X5_prepareLodgers (K : Nat) (M : Mem) (Q1 : Mem → Prop) : Prop :=
  P_J7_fill_53178 M 13 9 0 (fun M1 => B_X5_prepareLodgers_10 K Q1 0 M1)
set_option maxRecDepth 100000 in
set_option maxHeartbeats 4000000 in
theorem w_X5_prepareLodgers_25 {K : Nat} {M : Mem} {Q1 : Mem → Prop} {X10 : Int32 → Mem → Prop} {x1 : Int32} {x2 : Int32} {x3 : Int32} (C : Cx T D p s m args c cX5_prepareLodgers 5 "OneOfTwo$Search") (hr : meth.sig.returnType = none) (hlk : meth.locks = false) (Z : Zz EC T D ad (69 + K) A s.heap M H locs) (hX10 : ∀ (x1 : Int32) (M : Mem), X10 x1 M → ∀ (H : Heap) (locs : List Loc) (ls : Array Slot), Zz EC T D ad (69 + K) A s.heap M H locs → lv_has ls 5 [(0, .ref (ad 7)), (1, .int x1)] → W p l e (RM 3) s m args below meth c H locs 0 0 (MQ below (QcV EC T D ad (69 + K) A Q1) args s 0 0 A) (F0 m 10 ls [])) {ls : Array Slot} (hl : lv_has ls 5 [(0, .ref (ad 7)), (1, .int x1), (2, .int x2), (3, .int x3)]) (hB : B_X5_prepareLodgers_25 K Q1 X10 x1 x2 x3 M) : W p l e (RM 3) s m args below meth c H locs 0 0 (MQ below (QcV EC T D ad (69 + K) A Q1) args s 0 0 A) (F0 m 25 ls []) := by
  delta B_X5_prepareLodgers_25 at hB
  obtain ⟨X25, hX25, hY25⟩ : ∃ X25 : Int32 → Int32 → Mem → Prop, (∀ (x2 : Int32) (x3 : Int32) (M : Mem), X25 x2 x3 M → ∀ (H : Heap) (locs : List Loc) (ls : Array Slot), Zz EC T D ad (69 + K) A s.heap M H locs → lv_has ls 5 [(0, .ref (ad 7)), (1, .int x1), (2, .int x2), (3, .int x3)] → W p l e (RM 3) s m args below meth c H locs 0 0 (MQ below (QcV EC T D ad (69 + K) A Q1) args s 0 0 A) (F0 m 25 ls [])) ∧ (∀ (x2 : Int32) (x3 : Int32) (M : Mem), (∀ (H : Heap) (locs : List Loc) (ls : Array Slot), Zz EC T D ad (69 + K) A s.heap M H locs → lv_has ls 5 [(0, .ref (ad 7)), (1, .int x1), (2, .int x2), (3, .int x3)] → W p l e (RM 3) s m args below meth c H locs 0 0 (MQ below (QcV EC T D ad (69 + K) A Q1) args s 0 0 A) (F0 m 25 ls [])) → X25 x2 x3 M) := ⟨fun (x2 : Int32) (x3 : Int32) (M : Mem) => ∀ (H : Heap) (locs : List Loc) (ls : Array Slot), Zz EC T D ad (69 + K) A s.heap M H locs → lv_has ls 5 [(0, .ref (ad 7)), (1, .int x1), (2, .int x2), (3, .int x3)] → W p l e (RM 3) s m args below meth c H locs 0 0 (MQ below (QcV EC T D ad (69 + K) A Q1) args s 0 0 A) (F0 m 25 ls []), fun _ _ _ h => h, fun _ _ _ h => h⟩
  refine hX25 _ _ _ (hB X25 (fun x2 x3 M hB => hY25 _ _ _ (fun H locs ls Z hl => ?_))) _ _ _ Z hl
  have hx := C.x
  have hb := C.b
  refine lv_iload_n hx hb dX5_prepareLodgers_25 rfl (lv_at hl 3 rfl) ?_
  refine lv_aload_n hx hb dX5_prepareLodgers_26 rfl (lv_at hl 0 rfl) ?_
  refine gf_X5_0 C Z.1 tw_1_218 dX5_prepareLodgers_27 ?_
  refine gf_X2_0 C Z.1 isH_0 tw_1_129 dX5_prepareLodgers_30 ?_
  refine lv_icmp_ge (tgt := 79) hx hb dX5_prepareLodgers_33 (by decide) (fun q3 => ?_) (fun q3 => ?_)
  · have hB := hB.1 q3
    refine lv_aload_n hx hb dX5_prepareLodgers_79 rfl (lv_at hl 0 rfl) ?_
    refine gf_X5_6 C Z.1 tw_1_224 dX5_prepareLodgers_80 ?_
    refine lv_iload_n hx hb dX5_prepareLodgers_83 rfl (lv_at hl 2 rfl) ?_
    refine lv_dup2_11 hx hb dX5_prepareLodgers_84 rfl rfl ?_
    obtain ⟨q4, hB⟩ := hB
    refine a_ld C Z.1 aC_13 q4 dX5_prepareLodgers_85 ?_
    refine lv_iconst (v := 1) hx hb dX5_prepareLodgers_86 (by decide) ?_
    refine lv_iload_n hx hb dX5_prepareLodgers_87 rfl (lv_at hl 1 rfl) ?_
    refine lv_ishl hx hb dX5_prepareLodgers_88 ?_
    refine lv_ior hx hb dX5_prepareLodgers_89 ?_
    obtain ⟨q6, hB⟩ := hB
    refine a_st C Z aC_13 q6 dX5_prepareLodgers_90 (fun M5 H locs eM5 Z => ?_)
    have hB := hB M5 eM5
    obtain ⟨x1_7, ex1_7⟩ : ∃ y : Int32, y = x1 + 1 := ⟨_, rfl⟩
    have hB := hB x1_7 ex1_7
    refine lv_iinc (v := x1_7) (lv' := [(1, .int x1_7), (0, .ref (ad 7)), (2, .int x2), (3, .int x3)]) hx hb dX5_prepareLodgers_91 hl (k := 1) rfl (by rw [ex1_7]; rfl) (by decide) rfl (fun ls hl => ?_)
    refine lv_goto (tgt := 10) hx hb dX5_prepareLodgers_94 (by decide) ?_
    exact hX10 _ _ hB _ _ _ Z (lv_sub hl [1, 0] rfl)
  · have hB := hB.2 q3
    refine lv_aload_n hx hb dX5_prepareLodgers_36 rfl (lv_at hl 0 rfl) ?_
    refine lv_iload_n hx hb dX5_prepareLodgers_37 rfl (lv_at hl 3 rfl) ?_
    refine v_X5_looseOn C hl.1 Z.1 tw_4_126 ⟨Nat.le_of_ble_eq_true rfl, Nat.le_of_ble_eq_true rfl⟩ ⟨Nat.le_refl _, Nat.le_refl _⟩ (Nat.le_of_ble_eq_true rfl) dX5_prepareLodgers_38 hB (fun v8 hB => ?_)
    refine lv_istore (lv' := [(4, .int v8), (0, .ref (ad 7)), (1, .int x1), (2, .int x2), (3, .int x3)]) hx hb dX5_prepareLodgers_41 hl (by decide) rfl (fun ls hl => ?_)
    refine lv_iload hx hb dX5_prepareLodgers_43 (lv_at hl 0 rfl) ?_
    refine lv_if_lt (tgt := 73) hx hb dX5_prepareLodgers_45 (by decide) (fun q9 => ?_) (fun q9 => ?_)
    · have hB := hB.1 q9
      obtain ⟨x3_10, ex3_10⟩ : ∃ y : Int32, y = x3 + 1 := ⟨_, rfl⟩
      have hB := hB x3_10 ex3_10
      refine lv_iinc (v := x3_10) (lv' := [(3, .int x3_10), (4, .int v8), (0, .ref (ad 7)), (1, .int x1), (2, .int x2)]) hx hb dX5_prepareLodgers_73 hl (k := 4) rfl (by rw [ex3_10]; rfl) (by decide) rfl (fun ls hl => ?_)
      refine lv_goto (tgt := 25) hx hb dX5_prepareLodgers_76 (by decide) ?_
      exact hX25 _ _ _ hB _ _ _ Z (lv_sub hl [2, 3, 4, 0] rfl)
    · have hB := hB.2 q9
      refine lv_aload_n hx hb dX5_prepareLodgers_48 rfl (lv_at hl 1 rfl) ?_
      refine lv_iload_n hx hb dX5_prepareLodgers_49 rfl (lv_at hl 2 rfl) ?_
      refine lv_iload_n hx hb dX5_prepareLodgers_50 rfl (lv_at hl 4 rfl) ?_
      refine v_X5_placeFor C hl.1 Z.1 tw_4_134 ⟨Nat.le_of_ble_eq_true rfl, Nat.le_of_ble_eq_true rfl⟩ ⟨Nat.le_refl _, Nat.le_refl _⟩ (Nat.le_of_ble_eq_true rfl) dX5_prepareLodgers_51 hB (fun v11 hB => ?_)
      refine lv_aload_n hx hb dX5_prepareLodgers_54 rfl (lv_at hl 1 rfl) ?_
      refine lv_iload_n hx hb dX5_prepareLodgers_55 rfl (lv_at hl 2 rfl) ?_
      refine lv_aload_n hx hb dX5_prepareLodgers_56 rfl (lv_at hl 1 rfl) ?_
      refine gf_X5_5 C Z.1 tw_1_223 dX5_prepareLodgers_57 ?_
      refine lv_iload hx hb dX5_prepareLodgers_60 (lv_at hl 0 rfl) ?_
      obtain ⟨q12, hB⟩ := hB
      refine a_ld C Z.1 aC_12 q12 dX5_prepareLodgers_62 ?_
      refine v_X5_placeFor C hl.1 Z.1 tw_4_134 ⟨Nat.le_of_ble_eq_true rfl, Nat.le_of_ble_eq_true rfl⟩ ⟨Nat.le_refl _, Nat.le_refl _⟩ (Nat.le_of_ble_eq_true rfl) dX5_prepareLodgers_63 hB (fun v13 hB => ?_)
      refine lv_icmp_eq (tgt := 73) hx hb dX5_prepareLodgers_66 (by decide) (fun q14 => ?_) (fun q14 => ?_)
      · have hB := hB.1 q14
        obtain ⟨x3_15, ex3_15⟩ : ∃ y : Int32, y = x3 + 1 := ⟨_, rfl⟩
        have hB := hB x3_15 ex3_15
        refine lv_iinc (v := x3_15) (lv' := [(3, .int x3_15), (4, .int v8), (0, .ref (ad 7)), (1, .int x1), (2, .int x2)]) hx hb dX5_prepareLodgers_73 hl (k := 4) rfl (by rw [ex3_15]; rfl) (by decide) rfl (fun ls hl => ?_)
        refine lv_goto (tgt := 25) hx hb dX5_prepareLodgers_76 (by decide) ?_
        exact hX25 _ _ _ hB _ _ _ Z (lv_sub hl [2, 3, 4, 0] rfl)
      · have hB := hB.2 q14
        refine lv_iload_n hx hb dX5_prepareLodgers_69 rfl (lv_at hl 4 rfl) ?_
        refine lv_iconst (v := 1) hx hb dX5_prepareLodgers_70 (by decide) ?_
        refine lv_iadd hx hb dX5_prepareLodgers_71 ?_
        refine lv_topi (fun x2_16 ex2_16 => ?_)
        have hB := hB x2_16 ex2_16
        refine lv_istore_n (lv' := [(2, .int x2_16), (4, .int v8), (0, .ref (ad 7)), (1, .int x1), (3, .int x3)]) hx hb dX5_prepareLodgers_72 rfl hl (by decide) rfl (fun ls hl => ?_)
        obtain ⟨x3_17, ex3_17⟩ : ∃ y : Int32, y = x3 + 1 := ⟨_, rfl⟩
        have hB := hB x3_17 ex3_17
        refine lv_iinc (v := x3_17) (lv' := [(3, .int x3_17), (2, .int x2_16), (4, .int v8), (0, .ref (ad 7)), (1, .int x1)]) hx hb dX5_prepareLodgers_73 hl (k := 4) rfl (by rw [ex3_17]; rfl) (by decide) rfl (fun ls hl => ?_)
        refine lv_goto (tgt := 25) hx hb dX5_prepareLodgers_76 (by decide) ?_
        exact hX25 _ _ _ hB _ _ _ Z (lv_sub hl [3, 4, 1, 0] rfl)
set_option maxRecDepth 100000 in
set_option maxHeartbeats 4000000 in
theorem w_X5_prepareLodgers_10 {K : Nat} {M : Mem} {Q1 : Mem → Prop} {x1 : Int32} (C : Cx T D p s m args c cX5_prepareLodgers 5 "OneOfTwo$Search") (hr : meth.sig.returnType = none) (hlk : meth.locks = false) (Z : Zz EC T D ad (69 + K) A s.heap M H locs) {ls : Array Slot} (hl : lv_has ls 5 [(0, .ref (ad 7)), (1, .int x1)]) (hB : B_X5_prepareLodgers_10 K Q1 x1 M) : W p l e (RM 3) s m args below meth c H locs 0 0 (MQ below (QcV EC T D ad (69 + K) A Q1) args s 0 0 A) (F0 m 10 ls []) := by
  delta B_X5_prepareLodgers_10 at hB
  obtain ⟨X10, hX10, hY10⟩ : ∃ X10 : Int32 → Mem → Prop, (∀ (x1 : Int32) (M : Mem), X10 x1 M → ∀ (H : Heap) (locs : List Loc) (ls : Array Slot), Zz EC T D ad (69 + K) A s.heap M H locs → lv_has ls 5 [(0, .ref (ad 7)), (1, .int x1)] → W p l e (RM 3) s m args below meth c H locs 0 0 (MQ below (QcV EC T D ad (69 + K) A Q1) args s 0 0 A) (F0 m 10 ls [])) ∧ (∀ (x1 : Int32) (M : Mem), (∀ (H : Heap) (locs : List Loc) (ls : Array Slot), Zz EC T D ad (69 + K) A s.heap M H locs → lv_has ls 5 [(0, .ref (ad 7)), (1, .int x1)] → W p l e (RM 3) s m args below meth c H locs 0 0 (MQ below (QcV EC T D ad (69 + K) A Q1) args s 0 0 A) (F0 m 10 ls [])) → X10 x1 M) := ⟨fun (x1 : Int32) (M : Mem) => ∀ (H : Heap) (locs : List Loc) (ls : Array Slot), Zz EC T D ad (69 + K) A s.heap M H locs → lv_has ls 5 [(0, .ref (ad 7)), (1, .int x1)] → W p l e (RM 3) s m args below meth c H locs 0 0 (MQ below (QcV EC T D ad (69 + K) A Q1) args s 0 0 A) (F0 m 10 ls []), fun _ _ h => h, fun _ _ h => h⟩
  refine hX10 _ _ (hB X10 (fun x1 M hB => hY10 _ _ (fun H locs ls Z hl => ?_))) _ _ _ Z hl
  have hx := C.x
  have hb := C.b
  refine lv_iload_n hx hb dX5_prepareLodgers_10 rfl (lv_at hl 1 rfl) ?_
  refine lv_aload_n hx hb dX5_prepareLodgers_11 rfl (lv_at hl 0 rfl) ?_
  refine gf_X5_0 C Z.1 tw_1_218 dX5_prepareLodgers_12 ?_
  refine gf_X2_2 C Z.1 isH_0 tw_1_134 dX5_prepareLodgers_15 ?_
  refine lv_icmp_ge (tgt := 97) hx hb dX5_prepareLodgers_18 (by decide) (fun q2 => ?_) (fun q2 => ?_)
  · have hB := hB.1 q2
    exact e_vW C hr hlk Z dX5_prepareLodgers_97 hB
  · have hB := hB.2 q2
    refine lv_iconst (v := 0) hx hb dX5_prepareLodgers_21 (by decide) ?_
    refine lv_istore_n (lv' := [(2, .int 0), (0, .ref (ad 7)), (1, .int x1)]) hx hb dX5_prepareLodgers_22 rfl hl (by decide) rfl (fun ls hl => ?_)
    refine lv_iconst (v := 0) hx hb dX5_prepareLodgers_23 (by decide) ?_
    refine lv_istore_n (lv' := [(3, .int 0), (2, .int 0), (0, .ref (ad 7)), (1, .int x1)]) hx hb dX5_prepareLodgers_24 rfl hl (by decide) rfl (fun ls hl => ?_)
    exact w_X5_prepareLodgers_25 C hr hlk Z hX10 (lv_sub hl [2, 3, 1, 0] rfl) hB
set_option maxRecDepth 100000 in
set_option maxHeartbeats 4000000 in
theorem c_X5_prepareLodgers {l : Launch} {T : Nat → ClassId} {D : va_G} {ad : Nat → Nat} {K : Nat} {M : Mem} {sz : Nat} {Q1 : Mem → Prop} (hB : P_X5_prepareLodgers K M Q1) : Met l yX5_prepareLodgers (Cond.code yX5_prepareLodgers cX5_prepareLodgers 5 none :: TB) (RM 3) (va_Pc [.ref (ad 7)] (WrP EC T D ad (69 + K) M sz)) (QcV EC T D ad (69 + K) (AA ad (69 + K) sz) Q1) 0 0 (AA ad (69 + K) sz) := by
  refine st_W (by decide) (Nat.le_of_ble_eq_true rfl) (fun p e s m args below meth c ls C hr hlk hsz Z hl => ?_)
  have hl : lv_has ls 5 [(0, .ref (ad 7))] := hl
  generalize AA ad (69 + K) sz = A at Z ⊢
  have hx := C.x
  have hb := C.b
  delta P_X5_prepareLodgers at hB
  refine lv_aload_n hx hb dX5_prepareLodgers_0 rfl (lv_at hl 0 rfl) ?_
  refine gf_X5_6 C Z.1 tw_1_224 dX5_prepareLodgers_1 ?_
  refine lv_iconst (v := 0) hx hb dX5_prepareLodgers_4 (by decide) ?_
  refine v_J7_fill_53178 C hl.1 Z aC_13 tw_4_123 ⟨Nat.le_of_ble_eq_true rfl, Nat.le_of_ble_eq_true rfl⟩ ⟨Nat.le_refl _, Nat.le_refl _⟩ (Nat.le_of_ble_eq_true rfl) dX5_prepareLodgers_5 hB (fun M1 H locs hB Z => ?_)
  refine lv_iconst (v := 0) hx hb dX5_prepareLodgers_8 (by decide) ?_
  refine lv_istore_n (lv' := [(1, .int 0), (0, .ref (ad 7))]) hx hb dX5_prepareLodgers_9 rfl hl (by decide) rfl (fun ls hl => ?_)
  exact w_X5_prepareLodgers_10 C hr hlk Z (lv_sub hl [1, 0] rfl) hB
set_option maxRecDepth 100000 in
set_option maxHeartbeats 4000000 in
theorem v_X5_prepareLodgers {K : Nat} {M : Mem} {Q1 : Mem → Prop} (C : Cx T D p s m args c cc nL own) (hls : ls.size = nL) (Z : Zz EC T D ad (69 + K) A H0 M H locs) (hlink : Cond.methodLink own index yX5_prepareLodgers ∈ TB) (hR : 3 + 1 ≤ R.frames ∧ 8 + (5 + 11) + 48 * 3 ≤ R.locals) (hcs : cells ≤ R.cells ∧ slots ≤ R.slots) (hcat : (rest.map fun v => v.category).sum ≤ 8) (hdg : decode cc pc = .ok (.invokevirtual index, 3)) (hB : P_X5_prepareLodgers K M Q1)
    (kk : ∀ (M1 : Mem) (H1 : Heap) (locs1 : List Loc), Q1 M1 → Zz EC T D ad (69 + K) A H0 M1 H1 locs1 → W p l e R s m args below meth c H1 locs1 cells slots QQ (F0 m (pc + 3) ls rest)) : W p l e R s m args below meth c H locs cells slots QQ (F0 m pc ls (.ref (ad 7) :: rest)) :=
  k_VV (ci := 5) (n := 0) (c_X5_prepareLodgers hB) tw_4_133 tw_4_132 tw_s_13 tw_1_11 ⟨rfl, by decide, by decide, by decide +kernel⟩ rfl rfl C hls Z oS hlink hR hcs hcat rfl hdg kk
def B_X5_contentOf_4 (K : Nat) (Q1 : Int32 → Mem → Prop) (x1 : Int32) (x2 : Int32) (x3 : Int32) (M : Mem) : Prop :=
  ∀ X4 : Int32 → Int32 → Mem → Prop, (∀ (x2 : Int32) (x3 : Int32) (M : Mem), ((((M 30 2) ≤ x3 → Q1 x2 M) ∧
    (¬ (M 30 2) ≤ x3 → (((x1 >>> (x3 &&& 31)) = 0 → Q1 x2 M) ∧
      (¬ (x1 >>> (x3 &&& 31)) = 0 → ((((x1 >>> (x3 &&& 31)) &&& 1) = 0 → ∀ x3_4 : Int32, x3_4 = x3 + 1 → X4 x2 x3_4 M) ∧
        (¬ ((x1 >>> (x3 &&& 31)) &&& 1) = 0 → vp_in x3 6 ∧ ∀ x4_6 : Int32, x4_6 = (M 37 x3.toNatClampNeg) + 1 → vp_in x4_6 11 ∧ vp_in (x4_6 - 1) 11 ∧ vp_in (x4_6 + 1) 11 ∧ P_X2_airBy K M 30 (M 9 x4_6.toNatClampNeg) ((M 9 (x4_6 - 1).toNatClampNeg) + (M 9 (x4_6 + 1).toNatClampNeg)) (fun v10 M11 => P_X2_isContentBy K M11 30 x3 v10 (fun v12 => ((v12 = 0 → ∀ x2_14 : Int32, x2_14 = x2 + 0 → ∀ x3_15 : Int32, x3_15 = x3 + 1 → X4 x2_14 x3_15 M11) ∧
          (¬ v12 = 0 → ∀ x2_16 : Int32, x2_16 = x2 + 1 → ∀ x3_17 : Int32, x3_17 = x3 + 1 → X4 x2_16 x3_17 M11))))))))))) → X4 x2 x3 M) → X4 x2 x3 M
def P_X5_contentOf (K : Nat) (M : Mem) (x1 : Int32) (Q1 : Int32 → Mem → Prop) : Prop :=
  B_X5_contentOf_4 K Q1 x1 0 0 M
set_option maxRecDepth 100000 in
set_option maxHeartbeats 4000000 in
theorem w_X5_contentOf_4 {K : Nat} {M : Mem} {Q1 : Int32 → Mem → Prop} {x1 : Int32} {x2 : Int32} {x3 : Int32} (C : Cx T D p s m args c cX5_contentOf 6 "OneOfTwo$Search") (hr : meth.sig.returnType = (some .int)) (hlk : meth.locks = false) (Z : Zz EC T D ad (69 + K) A s.heap M H locs) {ls : Array Slot} (hl : lv_has ls 6 [(0, .ref (ad 7)), (1, .int x1), (2, .int x2), (3, .int x3)]) (hB : B_X5_contentOf_4 K Q1 x1 x2 x3 M) : W p l e (RM 4) s m args below meth c H locs 0 0 (MQ below (QcW EC T D ad (69 + K) A Q1) args s 0 0 A) (F0 m 4 ls []) := by
  delta B_X5_contentOf_4 at hB
  obtain ⟨X4, hX4, hY4⟩ : ∃ X4 : Int32 → Int32 → Mem → Prop, (∀ (x2 : Int32) (x3 : Int32) (M : Mem), X4 x2 x3 M → ∀ (H : Heap) (locs : List Loc) (ls : Array Slot), Zz EC T D ad (69 + K) A s.heap M H locs → lv_has ls 6 [(0, .ref (ad 7)), (1, .int x1), (2, .int x2), (3, .int x3)] → W p l e (RM 4) s m args below meth c H locs 0 0 (MQ below (QcW EC T D ad (69 + K) A Q1) args s 0 0 A) (F0 m 4 ls [])) ∧ (∀ (x2 : Int32) (x3 : Int32) (M : Mem), (∀ (H : Heap) (locs : List Loc) (ls : Array Slot), Zz EC T D ad (69 + K) A s.heap M H locs → lv_has ls 6 [(0, .ref (ad 7)), (1, .int x1), (2, .int x2), (3, .int x3)] → W p l e (RM 4) s m args below meth c H locs 0 0 (MQ below (QcW EC T D ad (69 + K) A Q1) args s 0 0 A) (F0 m 4 ls [])) → X4 x2 x3 M) := ⟨fun (x2 : Int32) (x3 : Int32) (M : Mem) => ∀ (H : Heap) (locs : List Loc) (ls : Array Slot), Zz EC T D ad (69 + K) A s.heap M H locs → lv_has ls 6 [(0, .ref (ad 7)), (1, .int x1), (2, .int x2), (3, .int x3)] → W p l e (RM 4) s m args below meth c H locs 0 0 (MQ below (QcW EC T D ad (69 + K) A Q1) args s 0 0 A) (F0 m 4 ls []), fun _ _ _ h => h, fun _ _ _ h => h⟩
  refine hX4 _ _ _ (hB X4 (fun x2 x3 M hB => hY4 _ _ _ (fun H locs ls Z hl => ?_))) _ _ _ Z hl
  have hx := C.x
  have hb := C.b
  refine lv_iload_n hx hb dX5_contentOf_4 rfl (lv_at hl 3 rfl) ?_
  refine lv_aload_n hx hb dX5_contentOf_5 rfl (lv_at hl 0 rfl) ?_
  refine gf_X5_0 C Z.1 tw_1_218 dX5_contentOf_6 ?_
  refine gf_X2_2 C Z.1 isH_0 tw_1_134 dX5_contentOf_9 ?_
  refine lv_icmp_ge (tgt := 104) hx hb dX5_contentOf_12 (by decide) (fun q1 => ?_) (fun q1 => ?_)
  · have hB := hB.1 q1
    refine lv_iload_n hx hb dX5_contentOf_104 rfl (lv_at hl 2 rfl) ?_
    exact e_iW C hr hlk Z dX5_contentOf_105 hB
  · have hB := hB.2 q1
    refine lv_iload_n hx hb dX5_contentOf_15 rfl (lv_at hl 1 rfl) ?_
    refine lv_iload_n hx hb dX5_contentOf_16 rfl (lv_at hl 3 rfl) ?_
    refine lv_ishr hx hb dX5_contentOf_17 ?_
    refine lv_if_eq (tgt := 104) hx hb dX5_contentOf_18 (by decide) (fun q2 => ?_) (fun q2 => ?_)
    · have hB := hB.1 q2
      refine lv_iload_n hx hb dX5_contentOf_104 rfl (lv_at hl 2 rfl) ?_
      exact e_iW C hr hlk Z dX5_contentOf_105 hB
    · have hB := hB.2 q2
      refine lv_iload_n hx hb dX5_contentOf_21 rfl (lv_at hl 1 rfl) ?_
      refine lv_iload_n hx hb dX5_contentOf_22 rfl (lv_at hl 3 rfl) ?_
      refine lv_ishr hx hb dX5_contentOf_23 ?_
      refine lv_iconst (v := 1) hx hb dX5_contentOf_24 (by decide) ?_
      refine lv_iand hx hb dX5_contentOf_25 ?_
      refine lv_if_eq (tgt := 98) hx hb dX5_contentOf_26 (by decide) (fun q3 => ?_) (fun q3 => ?_)
      · have hB := hB.1 q3
        obtain ⟨x3_4, ex3_4⟩ : ∃ y : Int32, y = x3 + 1 := ⟨_, rfl⟩
        have hB := hB x3_4 ex3_4
        refine lv_iinc (v := x3_4) (lv' := [(3, .int x3_4), (0, .ref (ad 7)), (1, .int x1), (2, .int x2)]) hx hb dX5_contentOf_98 hl (k := 3) rfl (by rw [ex3_4]; rfl) (by decide) rfl (fun ls hl => ?_)
        refine lv_goto (tgt := 4) hx hb dX5_contentOf_101 (by decide) ?_
        exact hX4 _ _ _ hB _ _ _ Z (lv_sub hl [1, 2, 3, 0] rfl)
      · have hB := hB.2 q3
        refine lv_aload_n hx hb dX5_contentOf_29 rfl (lv_at hl 0 rfl) ?_
        refine gf_X5_0 C Z.1 tw_1_218 dX5_contentOf_30 ?_
        refine gf_X2_9 C Z.1 isH_0 tw_1_153 dX5_contentOf_33 ?_
        refine lv_iload_n hx hb dX5_contentOf_36 rfl (lv_at hl 3 rfl) ?_
        obtain ⟨q5, hB⟩ := hB
        refine a_ld C Z.1 (aH_7 isH_0) q5 dX5_contentOf_37 ?_
        refine lv_iconst (v := 1) hx hb dX5_contentOf_38 (by decide) ?_
        refine lv_iadd hx hb dX5_contentOf_39 ?_
        refine lv_topi (fun x4_6 ex4_6 => ?_)
        have hB := hB x4_6 ex4_6
        refine lv_istore (lv' := [(4, .int x4_6), (0, .ref (ad 7)), (1, .int x1), (2, .int x2), (3, .int x3)]) hx hb dX5_contentOf_40 hl (by decide) rfl (fun ls hl => ?_)
        refine lv_aload_n hx hb dX5_contentOf_42 rfl (lv_at hl 1 rfl) ?_
        refine gf_X5_0 C Z.1 tw_1_218 dX5_contentOf_43 ?_
        refine lv_aload_n hx hb dX5_contentOf_46 rfl (lv_at hl 1 rfl) ?_
        refine gf_X5_2 C Z.1 tw_1_220 dX5_contentOf_47 ?_
        refine lv_iload hx hb dX5_contentOf_50 (lv_at hl 0 rfl) ?_
        obtain ⟨q7, hB⟩ := hB
        refine a_ld C Z.1 aC_9 q7 dX5_contentOf_52 ?_
        refine lv_aload_n hx hb dX5_contentOf_53 rfl (lv_at hl 1 rfl) ?_
        refine gf_X5_2 C Z.1 tw_1_220 dX5_contentOf_54 ?_
        refine lv_iload hx hb dX5_contentOf_57 (lv_at hl 0 rfl) ?_
        refine lv_iconst (v := 1) hx hb dX5_contentOf_59 (by decide) ?_
        refine lv_isub hx hb dX5_contentOf_60 ?_
        obtain ⟨q8, hB⟩ := hB
        refine a_ld C Z.1 aC_9 q8 dX5_contentOf_61 ?_
        refine lv_aload_n hx hb dX5_contentOf_62 rfl (lv_at hl 1 rfl) ?_
        refine gf_X5_2 C Z.1 tw_1_220 dX5_contentOf_63 ?_
        refine lv_iload hx hb dX5_contentOf_66 (lv_at hl 0 rfl) ?_
        refine lv_iconst (v := 1) hx hb dX5_contentOf_68 (by decide) ?_
        refine lv_iadd hx hb dX5_contentOf_69 ?_
        obtain ⟨q9, hB⟩ := hB
        refine a_ld C Z.1 aC_9 q9 dX5_contentOf_70 ?_
        refine lv_iadd hx hb dX5_contentOf_71 ?_
        refine v_X2_airBy C hl.1 Z isH_0 tw_4_153 ⟨Nat.le_of_ble_eq_true rfl, Nat.le_of_ble_eq_true rfl⟩ ⟨Nat.le_refl _, Nat.le_refl _⟩ (Nat.le_of_ble_eq_true rfl) dX5_contentOf_72 hB (fun v10 M11 H locs hB Z => ?_)
        refine lv_istore (lv' := [(5, .int v10), (4, .int x4_6), (0, .ref (ad 7)), (1, .int x1), (2, .int x2), (3, .int x3)]) hx hb dX5_contentOf_75 hl (by decide) rfl (fun ls hl => ?_)
        refine lv_iload_n hx hb dX5_contentOf_77 rfl (lv_at hl 4 rfl) ?_
        refine lv_aload_n hx hb dX5_contentOf_78 rfl (lv_at hl 2 rfl) ?_
        refine gf_X5_0 C Z.1 tw_1_218 dX5_contentOf_79 ?_
        refine lv_iload_n hx hb dX5_contentOf_82 rfl (lv_at hl 5 rfl) ?_
        refine lv_iload hx hb dX5_contentOf_83 (lv_at hl 0 rfl) ?_
        refine v_X2_isContentBy C hl.1 Z.1 isH_0 tw_4_154 ⟨Nat.le_of_ble_eq_true rfl, Nat.le_of_ble_eq_true rfl⟩ ⟨Nat.le_refl _, Nat.le_refl _⟩ (Nat.le_of_ble_eq_true rfl) dX5_contentOf_85 hB (fun v12 hB => ?_)
        refine lv_if_eq (tgt := 95) hx hb dX5_contentOf_88 (by decide) (fun q13 => ?_) (fun q13 => ?_)
        · have hB := hB.1 q13
          refine lv_iconst (v := 0) hx hb dX5_contentOf_95 (by decide) ?_
          refine lv_iadd hx hb dX5_contentOf_96 ?_
          refine lv_topi (fun x2_14 ex2_14 => ?_)
          have hB := hB x2_14 ex2_14
          refine lv_istore_n (lv' := [(2, .int x2_14), (5, .int v10), (4, .int x4_6), (0, .ref (ad 7)), (1, .int x1), (3, .int x3)]) hx hb dX5_contentOf_97 rfl hl (by decide) rfl (fun ls hl => ?_)
          obtain ⟨x3_15, ex3_15⟩ : ∃ y : Int32, y = x3 + 1 := ⟨_, rfl⟩
          have hB := hB x3_15 ex3_15
          refine lv_iinc (v := x3_15) (lv' := [(3, .int x3_15), (2, .int x2_14), (5, .int v10), (4, .int x4_6), (0, .ref (ad 7)), (1, .int x1)]) hx hb dX5_contentOf_98 hl (k := 5) rfl (by rw [ex3_15]; rfl) (by decide) rfl (fun ls hl => ?_)
          refine lv_goto (tgt := 4) hx hb dX5_contentOf_101 (by decide) ?_
          exact hX4 _ _ _ hB _ _ _ Z (lv_sub hl [4, 5, 1, 0] rfl)
        · have hB := hB.2 q13
          refine lv_iconst (v := 1) hx hb dX5_contentOf_91 (by decide) ?_
          refine lv_goto (tgt := 96) hx hb dX5_contentOf_92 (by decide) ?_
          refine lv_iadd hx hb dX5_contentOf_96 ?_
          refine lv_topi (fun x2_16 ex2_16 => ?_)
          have hB := hB x2_16 ex2_16
          refine lv_istore_n (lv' := [(2, .int x2_16), (5, .int v10), (4, .int x4_6), (0, .ref (ad 7)), (1, .int x1), (3, .int x3)]) hx hb dX5_contentOf_97 rfl hl (by decide) rfl (fun ls hl => ?_)
          obtain ⟨x3_17, ex3_17⟩ : ∃ y : Int32, y = x3 + 1 := ⟨_, rfl⟩
          have hB := hB x3_17 ex3_17
          refine lv_iinc (v := x3_17) (lv' := [(3, .int x3_17), (2, .int x2_16), (5, .int v10), (4, .int x4_6), (0, .ref (ad 7)), (1, .int x1)]) hx hb dX5_contentOf_98 hl (k := 5) rfl (by rw [ex3_17]; rfl) (by decide) rfl (fun ls hl => ?_)
          refine lv_goto (tgt := 4) hx hb dX5_contentOf_101 (by decide) ?_
          exact hX4 _ _ _ hB _ _ _ Z (lv_sub hl [4, 5, 1, 0] rfl)
set_option maxRecDepth 100000 in
set_option maxHeartbeats 4000000 in
theorem c_X5_contentOf {l : Launch} {T : Nat → ClassId} {D : va_G} {ad : Nat → Nat} {K : Nat} {M : Mem} {x1 : Int32} {sz : Nat} {Q1 : Int32 → Mem → Prop} (hB : P_X5_contentOf K M x1 Q1) : Met l yX5_contentOf (Cond.code yX5_contentOf cX5_contentOf 6 (some .int) :: TB) (RM 4) (va_Pc [.ref (ad 7), .int x1] (WrP EC T D ad (69 + K) M sz)) (QcW EC T D ad (69 + K) (AA ad (69 + K) sz) Q1) 0 0 (AA ad (69 + K) sz) := by
  refine st_W (by decide) (Nat.le_of_ble_eq_true rfl) (fun p e s m args below meth c ls C hr hlk hsz Z hl => ?_)
  have hl : lv_has ls 6 [(0, .ref (ad 7)), (1, .int x1)] := hl
  generalize AA ad (69 + K) sz = A at Z ⊢
  have hx := C.x
  have hb := C.b
  delta P_X5_contentOf at hB
  refine lv_iconst (v := 0) hx hb dX5_contentOf_0 (by decide) ?_
  refine lv_istore_n (lv' := [(2, .int 0), (0, .ref (ad 7)), (1, .int x1)]) hx hb dX5_contentOf_1 rfl hl (by decide) rfl (fun ls hl => ?_)
  refine lv_iconst (v := 0) hx hb dX5_contentOf_2 (by decide) ?_
  refine lv_istore_n (lv' := [(3, .int 0), (2, .int 0), (0, .ref (ad 7)), (1, .int x1)]) hx hb dX5_contentOf_3 rfl hl (by decide) rfl (fun ls hl => ?_)
  exact w_X5_contentOf_4 C hr hlk Z (lv_sub hl [2, 3, 1, 0] rfl) hB
set_option maxRecDepth 100000 in
set_option maxHeartbeats 4000000 in
theorem v_X5_contentOf {K : Nat} {M : Mem} {x1 : Int32} {Q1 : Int32 → Mem → Prop} (C : Cx T D p s m args c cc nL own) (hls : ls.size = nL) (Z : Zz EC T D ad (69 + K) A H0 M H locs) (hlink : Cond.methodLink own index yX5_contentOf ∈ TB) (hR : 4 + 1 ≤ R.frames ∧ 8 + (6 + 11) + 48 * 4 ≤ R.locals) (hcs : cells ≤ R.cells ∧ slots ≤ R.slots) (hcat : (rest.map fun v => v.category).sum ≤ 8) (hdg : decode cc pc = .ok (.invokevirtual index, 3)) (hB : P_X5_contentOf K M x1 Q1)
    (kk : ∀ (r : Int32) (M1 : Mem) (H1 : Heap) (locs1 : List Loc), Q1 r M1 → Zz EC T D ad (69 + K) A H0 M1 H1 locs1 → W p l e R s m args below meth c H1 locs1 cells slots QQ (F0 m (pc + 3) ls (.int r :: rest))) : W p l e R s m args below meth c H locs cells slots QQ (F0 m pc ls (.int x1 :: .ref (ad 7) :: rest)) :=
  k_VW (ci := 5) (n := 1) (c_X5_contentOf hB) tw_4_152 tw_4_151 tw_s_16 tw_1_11 ⟨rfl, by decide, by decide, by decide +kernel⟩ rfl rfl C hls Z oS hlink hR hcs hcat rfl hdg kk
def P_X5_fill (K : Nat) (M : Mem) (x1 : Int32) (x2 : Int32) (x3 : Int32) (x4 : Int32) (Q1 : Mem → Prop) : Prop :=
  vp_in x1 8 ∧ ∀ v2 : Int32, v2 = (M 31 x1.toNatClampNeg) + 1 → vp_in v2 11 ∧ vp_in v2 11 ∧ ∀ M4 : Mem, M4 = sf M 9 v2.toNatClampNeg ((M 9 v2.toNatClampNeg) + x3) → vp_in x2 4 ∧ vp_in (M4 12 x2.toNatClampNeg) 8 ∧ ∀ v8 : Int32, v8 = (M4 31 (M4 12 x2.toNatClampNeg).toNatClampNeg) + 1 → vp_in v8 11 ∧ vp_in v8 11 ∧ ∀ M10 : Mem, M10 = sf M4 9 v8.toNatClampNeg ((M4 9 v8.toNatClampNeg) - x3) → vp_in x2 4 ∧ vp_in x2 4 ∧ ∀ M13 : Mem, M13 = sf M10 10 x2.toNatClampNeg ((M10 10 x2.toNatClampNeg) - x3) → vp_in x2 4 ∧ vp_in x2 4 ∧ ∀ M16 : Mem, M16 = sf M13 11 x2.toNatClampNeg ((M13 11 x2.toNatClampNeg) - x4) → Q1 M16
set_option maxRecDepth 100000 in
set_option maxHeartbeats 4000000 in
theorem c_X5_fill {l : Launch} {T : Nat → ClassId} {D : va_G} {ad : Nat → Nat} {K : Nat} {M : Mem} {x1 : Int32} {x2 : Int32} {x3 : Int32} {x4 : Int32} {sz : Nat} {Q1 : Mem → Prop} (hB : P_X5_fill K M x1 x2 x3 x4 Q1) : Met l yX5_fill (Cond.code yX5_fill cX5_fill 5 none :: TB) (RM 1) (va_Pc [.ref (ad 7), .int x1, .int x2, .int x3, .int x4] (WrP EC T D ad (69 + K) M sz)) (QcV EC T D ad (69 + K) (AA ad (69 + K) sz) Q1) 0 0 (AA ad (69 + K) sz) := by
  refine st_W (by decide) (Nat.le_of_ble_eq_true rfl) (fun p e s m args below meth c ls C hr hlk hsz Z hl => ?_)
  have hl : lv_has ls 5 [(0, .ref (ad 7)), (1, .int x1), (2, .int x2), (3, .int x3), (4, .int x4)] := hl
  generalize AA ad (69 + K) sz = A at Z ⊢
  have hx := C.x
  have hb := C.b
  delta P_X5_fill at hB
  refine lv_aload_n hx hb dX5_fill_0 rfl (lv_at hl 0 rfl) ?_
  refine gf_X5_2 C Z.1 tw_1_220 dX5_fill_1 ?_
  refine lv_aload_n hx hb dX5_fill_4 rfl (lv_at hl 0 rfl) ?_
  refine gf_X5_0 C Z.1 tw_1_218 dX5_fill_5 ?_
  refine gf_X2_3 C Z.1 isH_0 tw_1_137 dX5_fill_8 ?_
  refine lv_iload_n hx hb dX5_fill_11 rfl (lv_at hl 1 rfl) ?_
  obtain ⟨q1, hB⟩ := hB
  refine a_ld C Z.1 (aH_1 isH_0) q1 dX5_fill_12 ?_
  refine lv_iconst (v := 1) hx hb dX5_fill_13 (by decide) ?_
  refine lv_iadd hx hb dX5_fill_14 ?_
  refine lv_topi (fun v2 ev2 => ?_)
  have hB := hB v2 ev2
  refine lv_dup2_11 hx hb dX5_fill_15 rfl rfl ?_
  obtain ⟨q3, hB⟩ := hB
  refine a_ld C Z.1 aC_9 q3 dX5_fill_16 ?_
  refine lv_iload_n hx hb dX5_fill_17 rfl (lv_at hl 3 rfl) ?_
  refine lv_iadd hx hb dX5_fill_18 ?_
  obtain ⟨q5, hB⟩ := hB
  refine a_st C Z aC_9 q5 dX5_fill_19 (fun M4 H locs eM4 Z => ?_)
  have hB := hB M4 eM4
  refine lv_aload_n hx hb dX5_fill_20 rfl (lv_at hl 0 rfl) ?_
  refine gf_X5_2 C Z.1 tw_1_220 dX5_fill_21 ?_
  refine lv_aload_n hx hb dX5_fill_24 rfl (lv_at hl 0 rfl) ?_
  refine gf_X5_0 C Z.1 tw_1_218 dX5_fill_25 ?_
  refine gf_X2_3 C Z.1 isH_0 tw_1_137 dX5_fill_28 ?_
  refine lv_aload_n hx hb dX5_fill_31 rfl (lv_at hl 0 rfl) ?_
  refine gf_X5_5 C Z.1 tw_1_223 dX5_fill_32 ?_
  refine lv_iload_n hx hb dX5_fill_35 rfl (lv_at hl 2 rfl) ?_
  obtain ⟨q6, hB⟩ := hB
  refine a_ld C Z.1 aC_12 q6 dX5_fill_36 ?_
  obtain ⟨q7, hB⟩ := hB
  refine a_ld C Z.1 (aH_1 isH_0) q7 dX5_fill_37 ?_
  refine lv_iconst (v := 1) hx hb dX5_fill_38 (by decide) ?_
  refine lv_iadd hx hb dX5_fill_39 ?_
  refine lv_topi (fun v8 ev8 => ?_)
  have hB := hB v8 ev8
  refine lv_dup2_11 hx hb dX5_fill_40 rfl rfl ?_
  obtain ⟨q9, hB⟩ := hB
  refine a_ld C Z.1 aC_9 q9 dX5_fill_41 ?_
  refine lv_iload_n hx hb dX5_fill_42 rfl (lv_at hl 3 rfl) ?_
  refine lv_isub hx hb dX5_fill_43 ?_
  obtain ⟨q11, hB⟩ := hB
  refine a_st C Z aC_9 q11 dX5_fill_44 (fun M10 H locs eM10 Z => ?_)
  have hB := hB M10 eM10
  refine lv_aload_n hx hb dX5_fill_45 rfl (lv_at hl 0 rfl) ?_
  refine gf_X5_3 C Z.1 tw_1_221 dX5_fill_46 ?_
  refine lv_iload_n hx hb dX5_fill_49 rfl (lv_at hl 2 rfl) ?_
  refine lv_dup2_11 hx hb dX5_fill_50 rfl rfl ?_
  obtain ⟨q12, hB⟩ := hB
  refine a_ld C Z.1 aC_10 q12 dX5_fill_51 ?_
  refine lv_iload_n hx hb dX5_fill_52 rfl (lv_at hl 3 rfl) ?_
  refine lv_isub hx hb dX5_fill_53 ?_
  obtain ⟨q14, hB⟩ := hB
  refine a_st C Z aC_10 q14 dX5_fill_54 (fun M13 H locs eM13 Z => ?_)
  have hB := hB M13 eM13
  refine lv_aload_n hx hb dX5_fill_55 rfl (lv_at hl 0 rfl) ?_
  refine gf_X5_4 C Z.1 tw_1_222 dX5_fill_56 ?_
  refine lv_iload_n hx hb dX5_fill_59 rfl (lv_at hl 2 rfl) ?_
  refine lv_dup2_11 hx hb dX5_fill_60 rfl rfl ?_
  obtain ⟨q15, hB⟩ := hB
  refine a_ld C Z.1 aC_11 q15 dX5_fill_61 ?_
  refine lv_iload hx hb dX5_fill_62 (lv_at hl 4 rfl) ?_
  refine lv_isub hx hb dX5_fill_64 ?_
  obtain ⟨q17, hB⟩ := hB
  refine a_st C Z aC_11 q17 dX5_fill_65 (fun M16 H locs eM16 Z => ?_)
  have hB := hB M16 eM16
  exact e_vW C hr hlk Z dX5_fill_66 hB
set_option maxRecDepth 100000 in
set_option maxHeartbeats 4000000 in
theorem v_X5_fill {K : Nat} {M : Mem} {x1 : Int32} {x2 : Int32} {x3 : Int32} {x4 : Int32} {Q1 : Mem → Prop} (C : Cx T D p s m args c cc nL own) (hls : ls.size = nL) (Z : Zz EC T D ad (69 + K) A H0 M H locs) (hlink : Cond.methodLink own index yX5_fill ∈ TB) (hR : 1 + 1 ≤ R.frames ∧ 8 + (5 + 11) + 48 * 1 ≤ R.locals) (hcs : cells ≤ R.cells ∧ slots ≤ R.slots) (hcat : (rest.map fun v => v.category).sum ≤ 8) (hdg : decode cc pc = .ok (.invokevirtual index, 3)) (hB : P_X5_fill K M x1 x2 x3 x4 Q1)
    (kk : ∀ (M1 : Mem) (H1 : Heap) (locs1 : List Loc), Q1 M1 → Zz EC T D ad (69 + K) A H0 M1 H1 locs1 → W p l e R s m args below meth c H1 locs1 cells slots QQ (F0 m (pc + 3) ls rest)) : W p l e R s m args below meth c H locs cells slots QQ (F0 m pc ls (.int x4 :: .int x3 :: .int x2 :: .int x1 :: .ref (ad 7) :: rest)) :=
  k_VV (ci := 5) (n := 4) (c_X5_fill hB) tw_4_158 tw_4_157 tw_s_17 tw_1_11 ⟨rfl, by decide, by decide, by decide +kernel⟩ rfl rfl C hls Z oS hlink hR hcs hcat rfl hdg kk
set_option maxRecDepth 100000 in
set_option maxHeartbeats 4000000 in
theorem vm_X5_place {K : Nat} {M : Mem} {x1 : Int32} {x2 : Int32} {x3 : Int32} {x4 : Int32} {n : Nat} {Q1 : Mem → Prop} (C : Cx T D p s m args c cc nL own) (hls : ls.size = nL) (Z : Zz EC T D ad (69 + K) A H0 M H locs) (hlink : Cond.methodLink own index yX5_place ∈ TB) (hR : (n + 60) + 1 ≤ R.frames ∧ 8 + (13 + 11) + 48 * (n + 60) ≤ R.locals) (hcs : cells ≤ R.cells ∧ slots ≤ R.slots) (hcat : (rest.map fun v => v.category).sum ≤ 8) (hdg : decode cc pc = .ok (.invokevirtual index, 3)) (hB : Met l yX5_place (Cond.code yX5_place cX5_place 13 none :: TB) (RM (n + 60)) (va_Pc [.ref (ad 7), .int x1, .int x2, .int x3, .int x4] (WrP EC T D ad (69 + K) M H.size)) (QcV EC T D ad (69 + K) (AA ad (69 + K) H.size) Q1) 0 0 (AA ad (69 + K) H.size))
    (kk : ∀ (M1 : Mem) (H1 : Heap) (locs1 : List Loc), Q1 M1 → Zz EC T D ad (69 + K) A H0 M1 H1 locs1 → W p l e R s m args below meth c H1 locs1 cells slots QQ (F0 m (pc + 3) ls rest)) : W p l e R s m args below meth c H locs cells slots QQ (F0 m pc ls (.int x4 :: .int x3 :: .int x2 :: .int x1 :: .ref (ad 7) :: rest)) :=
  k_VV (lv := n + 60) (ci := 5) (n := 4) hB tw_4_148 tw_4_147 tw_s_15 tw_1_11 ⟨rfl, by decide, by decide, by decide +kernel⟩ rfl rfl C hls Z oS hlink hR hcs hcat rfl hdg kk
def B_X5_place_188 (u : Mem → Int32 → Int32 → Int32 → Int32 → (Mem → Prop) → Prop) (K : Nat) (Q1 : Mem → Prop) (x1 : Int32) (x2 : Int32) (x5 : Int32) (x6 : Int32) (x8 : Int32) (x9 : Int32) (x11 : Int32) (x12 : Int32) (M : Mem) : Prop :=
  ∀ X188 : Int32 → Mem → Prop, (∀ (x12 : Int32) (M : Mem), (((x11 < x12 → Q1 M) ∧
    (¬ x11 < x12 → vp_in x1 8 ∧ ∀ M22 : Mem, M22 = sf M 8 x1.toNatClampNeg x12 → P_X5_fill K M22 x1 x9 x12 1 (fun M24 => ∀ v25 : Int32, v25 = (if 0 < (x12 - x8) then (x12 - x8) else 0) → u M24 (x1 + 1) (x2 + v25) x5 x6 (fun M26 => P_X5_fill K M26 x1 x9 (-x12) (-1) (fun M27 => ∀ x12_28 : Int32, x12_28 = x12 + 1 → X188 x12_28 M27)))))) → X188 x12 M) → X188 x12 M
def B_X5_place_62 (u : Mem → Int32 → Int32 → Int32 → Int32 → (Mem → Prop) → Prop) (K : Nat) (Q1 : Mem → Prop) (x1 : Int32) (x2 : Int32) (x5 : Int32) (x6 : Int32) (M : Mem) : Prop :=
  ((x1 < (M 30 0) → vp_in x1 8 ∧ ∀ x8_13 : Int32, x8_13 = M 32 x1.toNatClampNeg → P_X5_looseOn K M x1 (fun v14 => ((0 ≤ v14 → vp_in v14 4 ∧ vp_in v14 4 ∧ ∀ v18 : Int32, v18 = (if 0 < ((M 10 v14.toNatClampNeg) - (9 * ((M 11 v14.toNatClampNeg) - 1))) then ((M 10 v14.toNatClampNeg) - (9 * ((M 11 v14.toNatClampNeg) - 1))) else 0) → vp_in v14 4 ∧ ∀ v20 : Int32, v20 = (if (M 10 v14.toNatClampNeg) < 9 then (M 10 v14.toNatClampNeg) else 9) → B_X5_place_188 u K Q1 x1 x2 x5 x6 x8_13 v14 v20 v18 M) ∧
      (¬ 0 ≤ v14 → vp_in x1 8 ∧ ∀ M29 : Mem, M29 = sf M 8 x1.toNatClampNeg x8_13 → u M29 (x1 + 1) x2 x5 x6 (fun M31 => Q1 M31))))) ∧
    (¬ x1 < (M 30 0) → ∀ M32 : Mem, M32 = sf M 7 8 x5 → ∀ M33 : Mem, M33 = sf M32 7 9 x2 → ¬ (0 : Int32) < 0 ∧ ¬ (0 : Int32) < 0 ∧ ¬ (8 : Int32) < 0 ∧ (0 : Int32).toNatClampNeg + (8 : Int32).toNatClampNeg ≤ 8 ∧ (0 : Int32).toNatClampNeg + (8 : Int32).toNatClampNeg ≤ 8 ∧ ∀ M39 : Mem, M39 = mu M33 14 (va_cpy (M33 8) (M33 14) (0 : Int32).toNatClampNeg (0 : Int32).toNatClampNeg (8 : Int32).toNatClampNeg) → Q1 M39))
def Pb_X5_place (u : Mem → Int32 → Int32 → Int32 → Int32 → (Mem → Prop) → Prop) (K : Nat) (M : Mem) (x1 : Int32) (x2 : Int32) (x3 : Int32) (x4 : Int32) (Q1 : Mem → Prop) : Prop :=
  vp_in x1 9 ∧ P_X5_contentOf K M (M 13 x1.toNatClampNeg) (fun v2 M3 => ∀ x5_4 : Int32, x5_4 = x3 + v2 → vp_in x1 9 ∧ P_J6_bitCount_0f7a4 (M3 13 x1.toNatClampNeg) (fun v6 => ∀ x6_7 : Int32, x6_7 = x4 - v6 → ∀ x7_8 : Int32, x7_8 = x5_4 + x6_7 → ((x7_8 < (M3 7 8) → Q1 M3) ∧
    (¬ x7_8 < (M3 7 8) → ((¬ x7_8 = (M3 7 8) → B_X5_place_62 u K Q1 x1 x2 x5_4 x6_7 M3) ∧
      (x7_8 = (M3 7 8) → ((x2 < (M3 7 9) → B_X5_place_62 u K Q1 x1 x2 x5_4 x6_7 M3) ∧
        (¬ x2 < (M3 7 9) → Q1 M3))))))))
set_option maxRecDepth 100000 in
set_option maxHeartbeats 4000000 in
theorem w_X5_place_188 {u : Mem → Int32 → Int32 → Int32 → Int32 → (Mem → Prop) → Prop} {K : Nat} {n : Nat} {M : Mem} {Q1 : Mem → Prop} {x1 : Int32} {x2 : Int32} {x5 : Int32} {x6 : Int32} {x8 : Int32} {x9 : Int32} {x11 : Int32} {x12 : Int32} (C : Cx T D p s m args c cX5_place 13 "OneOfTwo$Search") (hr : meth.sig.returnType = none) (hlk : meth.locks = false) (Z : Zz EC T D ad (69 + K) A s.heap M H locs) (hu : ∀ (M : Mem) (x1 : Int32) (x2 : Int32) (x3 : Int32) (x4 : Int32) (sz : Nat) (Q1 : Mem → Prop), u M x1 x2 x3 x4 Q1 → Met l yX5_place (Cond.code yX5_place cX5_place 13 none :: TB) (RM (n + 60)) (va_Pc [.ref (ad 7), .int x1, .int x2, .int x3, .int x4] (WrP EC T D ad (69 + K) M sz)) (QcV EC T D ad (69 + K) (AA ad (69 + K) sz) Q1) 0 0 (AA ad (69 + K) sz)) {ls : Array Slot} (hl : lv_has ls 13 [(0, .ref (ad 7)), (1, .int x1), (2, .int x2), (5, .int x5), (6, .int x6), (8, .int x8), (9, .int x9), (11, .int x11), (12, .int x12)]) (hB : B_X5_place_188 u K Q1 x1 x2 x5 x6 x8 x9 x11 x12 M) : W p l e (RM (n + 62)) s m args below meth c H locs 0 0 (MQ below (QcV EC T D ad (69 + K) A Q1) args s 0 0 A) (F0 m 188 ls []) := by
  delta B_X5_place_188 at hB
  obtain ⟨X188, hX188, hY188⟩ : ∃ X188 : Int32 → Mem → Prop, (∀ (x12 : Int32) (M : Mem), X188 x12 M → ∀ (H : Heap) (locs : List Loc) (ls : Array Slot), Zz EC T D ad (69 + K) A s.heap M H locs → lv_has ls 13 [(0, .ref (ad 7)), (1, .int x1), (2, .int x2), (5, .int x5), (6, .int x6), (8, .int x8), (9, .int x9), (11, .int x11), (12, .int x12)] → W p l e (RM (n + 62)) s m args below meth c H locs 0 0 (MQ below (QcV EC T D ad (69 + K) A Q1) args s 0 0 A) (F0 m 188 ls [])) ∧ (∀ (x12 : Int32) (M : Mem), (∀ (H : Heap) (locs : List Loc) (ls : Array Slot), Zz EC T D ad (69 + K) A s.heap M H locs → lv_has ls 13 [(0, .ref (ad 7)), (1, .int x1), (2, .int x2), (5, .int x5), (6, .int x6), (8, .int x8), (9, .int x9), (11, .int x11), (12, .int x12)] → W p l e (RM (n + 62)) s m args below meth c H locs 0 0 (MQ below (QcV EC T D ad (69 + K) A Q1) args s 0 0 A) (F0 m 188 ls [])) → X188 x12 M) := ⟨fun (x12 : Int32) (M : Mem) => ∀ (H : Heap) (locs : List Loc) (ls : Array Slot), Zz EC T D ad (69 + K) A s.heap M H locs → lv_has ls 13 [(0, .ref (ad 7)), (1, .int x1), (2, .int x2), (5, .int x5), (6, .int x6), (8, .int x8), (9, .int x9), (11, .int x11), (12, .int x12)] → W p l e (RM (n + 62)) s m args below meth c H locs 0 0 (MQ below (QcV EC T D ad (69 + K) A Q1) args s 0 0 A) (F0 m 188 ls []), fun _ _ h => h, fun _ _ h => h⟩
  refine hX188 _ _ (hB X188 (fun x12 M hB => hY188 _ _ (fun H locs ls Z hl => ?_))) _ _ _ Z hl
  have hx := C.x
  have hb := C.b
  refine lv_iload hx hb dX5_place_188 (lv_at hl 8 rfl) ?_
  refine lv_iload hx hb dX5_place_190 (lv_at hl 7 rfl) ?_
  refine lv_icmp_gt (tgt := 252) hx hb dX5_place_192 (by decide) (fun q21 => ?_) (fun q21 => ?_)
  · have hB := hB.1 q21
    exact e_vW C hr hlk Z dX5_place_252 hB
  · have hB := hB.2 q21
    refine lv_aload_n hx hb dX5_place_195 rfl (lv_at hl 0 rfl) ?_
    refine gf_X5_1 C Z.1 tw_1_219 dX5_place_196 ?_
    refine lv_iload_n hx hb dX5_place_199 rfl (lv_at hl 1 rfl) ?_
    refine lv_iload hx hb dX5_place_200 (lv_at hl 8 rfl) ?_
    obtain ⟨q23, hB⟩ := hB
    refine a_st C Z aC_8 q23 dX5_place_202 (fun M22 H locs eM22 Z => ?_)
    have hB := hB M22 eM22
    refine lv_aload_n hx hb dX5_place_203 rfl (lv_at hl 0 rfl) ?_
    refine lv_iload_n hx hb dX5_place_204 rfl (lv_at hl 1 rfl) ?_
    refine lv_iload hx hb dX5_place_205 (lv_at hl 6 rfl) ?_
    refine lv_iload hx hb dX5_place_207 (lv_at hl 8 rfl) ?_
    refine lv_iconst (v := 1) hx hb dX5_place_209 (by decide) ?_
    refine v_X5_fill C hl.1 Z tw_4_155 (rmk (by omega) (by omega)) ⟨Nat.le_refl _, Nat.le_refl _⟩ (Nat.le_of_ble_eq_true rfl) dX5_place_210 hB (fun M24 H locs hB Z => ?_)
    refine lv_aload_n hx hb dX5_place_213 rfl (lv_at hl 0 rfl) ?_
    refine lv_iload_n hx hb dX5_place_214 rfl (lv_at hl 1 rfl) ?_
    refine lv_iconst (v := 1) hx hb dX5_place_215 (by decide) ?_
    refine lv_iadd hx hb dX5_place_216 ?_
    refine lv_iload_n hx hb dX5_place_217 rfl (lv_at hl 2 rfl) ?_
    refine lv_iconst (v := 0) hx hb dX5_place_218 (by decide) ?_
    refine lv_iload hx hb dX5_place_219 (lv_at hl 8 rfl) ?_
    refine lv_iload hx hb dX5_place_221 (lv_at hl 5 rfl) ?_
    refine lv_isub hx hb dX5_place_223 ?_
    refine m_max C.1 hl.1 tw_4_142 (Nat.le_of_ble_eq_true rfl) (Nat.le_of_ble_eq_true rfl) dX5_place_224 ?_
    refine lv_topi (fun v25 ev25 => ?_)
    have hB := hB v25 ev25
    refine lv_iadd hx hb dX5_place_227 ?_
    refine lv_iload hx hb dX5_place_228 (lv_at hl 3 rfl) ?_
    refine lv_iload hx hb dX5_place_230 (lv_at hl 4 rfl) ?_
    refine vm_X5_place C hl.1 Z tw_4_145 (rmk (by omega) (by omega)) ⟨Nat.le_refl _, Nat.le_refl _⟩ (Nat.le_of_ble_eq_true rfl) dX5_place_232 (hu _ _ _ _ _ _ _ hB) (fun M26 H locs hB Z => ?_)
    refine lv_aload_n hx hb dX5_place_235 rfl (lv_at hl 0 rfl) ?_
    refine lv_iload_n hx hb dX5_place_236 rfl (lv_at hl 1 rfl) ?_
    refine lv_iload hx hb dX5_place_237 (lv_at hl 6 rfl) ?_
    refine lv_iload hx hb dX5_place_239 (lv_at hl 8 rfl) ?_
    refine lv_ineg hx hb dX5_place_241 ?_
    refine lv_iconst (v := (-1)) hx hb dX5_place_242 (by decide) ?_
    refine v_X5_fill C hl.1 Z tw_4_155 (rmk (by omega) (by omega)) ⟨Nat.le_refl _, Nat.le_refl _⟩ (Nat.le_of_ble_eq_true rfl) dX5_place_243 hB (fun M27 H locs hB Z => ?_)
    obtain ⟨x12_28, ex12_28⟩ : ∃ y : Int32, y = x12 + 1 := ⟨_, rfl⟩
    have hB := hB x12_28 ex12_28
    refine lv_iinc (v := x12_28) (lv' := [(12, .int x12_28), (0, .ref (ad 7)), (1, .int x1), (2, .int x2), (5, .int x5), (6, .int x6), (8, .int x8), (9, .int x9), (11, .int x11)]) hx hb dX5_place_246 hl (k := 8) rfl (by rw [ex12_28]; rfl) (by decide) rfl (fun ls hl => ?_)
    refine lv_goto (tgt := 188) hx hb dX5_place_249 (by decide) ?_
    exact hX188 _ _ hB _ _ _ Z (lv_sub hl [1, 2, 3, 4, 5, 6, 7, 8, 0] rfl)
set_option maxRecDepth 100000 in
set_option maxHeartbeats 4000000 in
theorem w_X5_place_62 {u : Mem → Int32 → Int32 → Int32 → Int32 → (Mem → Prop) → Prop} {K : Nat} {n : Nat} {M : Mem} {Q1 : Mem → Prop} {x1 : Int32} {x2 : Int32} {x5 : Int32} {x6 : Int32} (C : Cx T D p s m args c cX5_place 13 "OneOfTwo$Search") (hr : meth.sig.returnType = none) (hlk : meth.locks = false) (Z : Zz EC T D ad (69 + K) A s.heap M H locs) (hu : ∀ (M : Mem) (x1 : Int32) (x2 : Int32) (x3 : Int32) (x4 : Int32) (sz : Nat) (Q1 : Mem → Prop), u M x1 x2 x3 x4 Q1 → Met l yX5_place (Cond.code yX5_place cX5_place 13 none :: TB) (RM (n + 60)) (va_Pc [.ref (ad 7), .int x1, .int x2, .int x3, .int x4] (WrP EC T D ad (69 + K) M sz)) (QcV EC T D ad (69 + K) (AA ad (69 + K) sz) Q1) 0 0 (AA ad (69 + K) sz)) {ls : Array Slot} (hl : lv_has ls 13 [(0, .ref (ad 7)), (1, .int x1), (2, .int x2), (5, .int x5), (6, .int x6)]) (hB : B_X5_place_62 u K Q1 x1 x2 x5 x6 M) : W p l e (RM (n + 62)) s m args below meth c H locs 0 0 (MQ below (QcV EC T D ad (69 + K) A Q1) args s 0 0 A) (F0 m 62 ls []) := by
  have hx := C.x
  have hb := C.b
  delta B_X5_place_62 at hB
  refine lv_iload_n hx hb dX5_place_62 rfl (lv_at hl 1 rfl) ?_
  refine lv_aload_n hx hb dX5_place_63 rfl (lv_at hl 0 rfl) ?_
  refine gf_X5_0 C Z.1 tw_1_218 dX5_place_64 ?_
  refine gf_X2_0 C Z.1 isH_0 tw_1_129 dX5_place_67 ?_
  refine lv_icmp_lt (tgt := 100) hx hb dX5_place_70 (by decide) (fun q11 => ?_) (fun q11 => ?_)
  · have hB := hB.1 q11
    refine lv_aload_n hx hb dX5_place_100 rfl (lv_at hl 0 rfl) ?_
    refine gf_X5_0 C Z.1 tw_1_218 dX5_place_101 ?_
    refine gf_X2_4 C Z.1 isH_0 tw_1_140 dX5_place_104 ?_
    refine lv_iload_n hx hb dX5_place_107 rfl (lv_at hl 1 rfl) ?_
    obtain ⟨q12, hB⟩ := hB
    refine a_ld C Z.1 (aH_2 isH_0) q12 dX5_place_108 ?_
    refine lv_topi (fun x8_13 ex8_13 => ?_)
    have hB := hB x8_13 ex8_13
    refine lv_istore (lv' := [(8, .int x8_13), (0, .ref (ad 7)), (1, .int x1), (2, .int x2), (5, .int x5), (6, .int x6)]) hx hb dX5_place_109 hl (by decide) rfl (fun ls hl => ?_)
    refine lv_aload_n hx hb dX5_place_111 rfl (lv_at hl 1 rfl) ?_
    refine lv_iload_n hx hb dX5_place_112 rfl (lv_at hl 2 rfl) ?_
    refine v_X5_looseOn C hl.1 Z.1 tw_4_126 (rmk (by omega) (by omega)) ⟨Nat.le_refl _, Nat.le_refl _⟩ (Nat.le_of_ble_eq_true rfl) dX5_place_113 hB (fun v14 hB => ?_)
    refine lv_istore (lv' := [(9, .int v14), (8, .int x8_13), (0, .ref (ad 7)), (1, .int x1), (2, .int x2), (5, .int x5), (6, .int x6)]) hx hb dX5_place_116 hl (by decide) rfl (fun ls hl => ?_)
    refine lv_iload hx hb dX5_place_118 (lv_at hl 0 rfl) ?_
    refine lv_if_ge (tgt := 144) hx hb dX5_place_120 (by decide) (fun q15 => ?_) (fun q15 => ?_)
    · have hB := hB.1 q15
      refine lv_iconst (v := 0) hx hb dX5_place_144 (by decide) ?_
      refine lv_aload_n hx hb dX5_place_145 rfl (lv_at hl 2 rfl) ?_
      refine gf_X5_3 C Z.1 tw_1_221 dX5_place_146 ?_
      refine lv_iload hx hb dX5_place_149 (lv_at hl 0 rfl) ?_
      obtain ⟨q16, hB⟩ := hB
      refine a_ld C Z.1 aC_10 q16 dX5_place_151 ?_
      refine lv_bipush (v := 9) hx hb dX5_place_152 (by decide) ?_
      refine lv_aload_n hx hb dX5_place_154 rfl (lv_at hl 2 rfl) ?_
      refine gf_X5_4 C Z.1 tw_1_222 dX5_place_155 ?_
      refine lv_iload hx hb dX5_place_158 (lv_at hl 0 rfl) ?_
      obtain ⟨q17, hB⟩ := hB
      refine a_ld C Z.1 aC_11 q17 dX5_place_160 ?_
      refine lv_iconst (v := 1) hx hb dX5_place_161 (by decide) ?_
      refine lv_isub hx hb dX5_place_162 ?_
      refine lv_imul hx hb dX5_place_163 ?_
      refine lv_isub hx hb dX5_place_164 ?_
      refine m_max C.1 hl.1 tw_4_142 (Nat.le_of_ble_eq_true rfl) (Nat.le_of_ble_eq_true rfl) dX5_place_165 ?_
      refine lv_topi (fun v18 ev18 => ?_)
      have hB := hB v18 ev18
      refine lv_istore (lv' := [(10, .int v18), (9, .int v14), (8, .int x8_13), (0, .ref (ad 7)), (1, .int x1), (2, .int x2), (5, .int x5), (6, .int x6)]) hx hb dX5_place_168 hl (by decide) rfl (fun ls hl => ?_)
      refine lv_bipush (v := 9) hx hb dX5_place_170 (by decide) ?_
      refine lv_aload_n hx hb dX5_place_172 rfl (lv_at hl 3 rfl) ?_
      refine gf_X5_3 C Z.1 tw_1_221 dX5_place_173 ?_
      refine lv_iload hx hb dX5_place_176 (lv_at hl 1 rfl) ?_
      obtain ⟨q19, hB⟩ := hB
      refine a_ld C Z.1 aC_10 q19 dX5_place_178 ?_
      refine m_min C.1 hl.1 tw_4_139 (Nat.le_of_ble_eq_true rfl) (Nat.le_of_ble_eq_true rfl) dX5_place_179 ?_
      refine lv_topi (fun v20 ev20 => ?_)
      have hB := hB v20 ev20
      refine lv_istore (lv' := [(11, .int v20), (10, .int v18), (9, .int v14), (8, .int x8_13), (0, .ref (ad 7)), (1, .int x1), (2, .int x2), (5, .int x5), (6, .int x6)]) hx hb dX5_place_182 hl (by decide) rfl (fun ls hl => ?_)
      refine lv_iload hx hb dX5_place_184 (lv_at hl 1 rfl) ?_
      refine lv_istore (lv' := [(12, .int v18), (11, .int v20), (10, .int v18), (9, .int v14), (8, .int x8_13), (0, .ref (ad 7)), (1, .int x1), (2, .int x2), (5, .int x5), (6, .int x6)]) hx hb dX5_place_186 hl (by decide) rfl (fun ls hl => ?_)
      exact w_X5_place_188 C hr hlk Z hu (lv_sub hl [5, 6, 7, 8, 9, 4, 3, 1, 0] rfl) hB
    · have hB := hB.2 q15
      refine lv_aload_n hx hb dX5_place_123 rfl (lv_at hl 2 rfl) ?_
      refine gf_X5_1 C Z.1 tw_1_219 dX5_place_124 ?_
      refine lv_iload_n hx hb dX5_place_127 rfl (lv_at hl 3 rfl) ?_
      refine lv_iload hx hb dX5_place_128 (lv_at hl 1 rfl) ?_
      obtain ⟨q30, hB⟩ := hB
      refine a_st C Z aC_8 q30 dX5_place_130 (fun M29 H locs eM29 Z => ?_)
      have hB := hB M29 eM29
      refine lv_aload_n hx hb dX5_place_131 rfl (lv_at hl 2 rfl) ?_
      refine lv_iload_n hx hb dX5_place_132 rfl (lv_at hl 3 rfl) ?_
      refine lv_iconst (v := 1) hx hb dX5_place_133 (by decide) ?_
      refine lv_iadd hx hb dX5_place_134 ?_
      refine lv_iload_n hx hb dX5_place_135 rfl (lv_at hl 4 rfl) ?_
      refine lv_iload hx hb dX5_place_136 (lv_at hl 5 rfl) ?_
      refine lv_iload hx hb dX5_place_138 (lv_at hl 6 rfl) ?_
      refine vm_X5_place C hl.1 Z tw_4_145 (rmk (by omega) (by omega)) ⟨Nat.le_refl _, Nat.le_refl _⟩ (Nat.le_of_ble_eq_true rfl) dX5_place_140 (hu _ _ _ _ _ _ _ hB) (fun M31 H locs hB Z => ?_)
      exact e_vW C hr hlk Z dX5_place_143 hB
  · have hB := hB.2 q11
    refine lv_aload_n hx hb dX5_place_73 rfl (lv_at hl 0 rfl) ?_
    refine lv_iload hx hb dX5_place_74 (lv_at hl 3 rfl) ?_
    refine pf_X5_8 C Z tw_1_227 dX5_place_76 (fun M32 H locs eM32 Z => ?_)
    have hB := hB M32 eM32
    refine lv_aload_n hx hb dX5_place_79 rfl (lv_at hl 0 rfl) ?_
    refine lv_iload_n hx hb dX5_place_80 rfl (lv_at hl 2 rfl) ?_
    refine pf_X5_9 C Z tw_1_229 dX5_place_81 (fun M33 H locs eM33 Z => ?_)
    have hB := hB M33 eM33
    refine lv_aload_n hx hb dX5_place_84 rfl (lv_at hl 0 rfl) ?_
    refine gf_X5_1 C Z.1 tw_1_219 dX5_place_85 ?_
    refine lv_iconst (v := 0) hx hb dX5_place_88 (by decide) ?_
    refine lv_aload_n hx hb dX5_place_89 rfl (lv_at hl 0 rfl) ?_
    refine gf_X5_7 C Z.1 tw_1_225 dX5_place_90 ?_
    refine lv_iconst (v := 0) hx hb dX5_place_93 (by decide) ?_
    refine lv_bipush (v := 8) hx hb dX5_place_94 (by decide) ?_
    obtain ⟨q34, q35, q36, q37, q38, hB⟩ := hB
    refine a_cp C Z hl.1 aC_8 aC_14 q34 q35 q36 q37 q38 tw_4_144 (Nat.le_of_ble_eq_true rfl) (Nat.le_of_ble_eq_true rfl) dX5_place_96 (fun M39 H locs eM39 Z => ?_)
    have hB := hB M39 eM39
    exact e_vW C hr hlk Z dX5_place_99 hB
set_option maxRecDepth 100000 in
set_option maxHeartbeats 4000000 in
theorem cb_X5_place {l : Launch} {T : Nat → ClassId} {D : va_G} {ad : Nat → Nat} {u : Mem → Int32 → Int32 → Int32 → Int32 → (Mem → Prop) → Prop} {K : Nat} {M : Mem} {x1 : Int32} {x2 : Int32} {x3 : Int32} {x4 : Int32} {n : Nat} {sz : Nat} {Q1 : Mem → Prop} (hu : ∀ (M : Mem) (x1 : Int32) (x2 : Int32) (x3 : Int32) (x4 : Int32) (sz : Nat) (Q1 : Mem → Prop), u M x1 x2 x3 x4 Q1 → Met l yX5_place (Cond.code yX5_place cX5_place 13 none :: TB) (RM (n + 60)) (va_Pc [.ref (ad 7), .int x1, .int x2, .int x3, .int x4] (WrP EC T D ad (69 + K) M sz)) (QcV EC T D ad (69 + K) (AA ad (69 + K) sz) Q1) 0 0 (AA ad (69 + K) sz)) (hB : Pb_X5_place u K M x1 x2 x3 x4 Q1) : Met l yX5_place (Cond.code yX5_place cX5_place 13 none :: TB) (RM (n + 62)) (va_Pc [.ref (ad 7), .int x1, .int x2, .int x3, .int x4] (WrP EC T D ad (69 + K) M sz)) (QcV EC T D ad (69 + K) (AA ad (69 + K) sz) Q1) 0 0 (AA ad (69 + K) sz) := by
  refine st_W (by decide) (Nat.le_of_ble_eq_true rfl) (fun p e s m args below meth c ls C hr hlk hsz Z hl => ?_)
  have hl : lv_has ls 13 [(0, .ref (ad 7)), (1, .int x1), (2, .int x2), (3, .int x3), (4, .int x4)] := hl
  generalize AA ad (69 + K) sz = A at Z ⊢
  have hx := C.x
  have hb := C.b
  delta Pb_X5_place at hB
  refine lv_iload_n hx hb dX5_place_0 rfl (lv_at hl 3 rfl) ?_
  refine lv_aload_n hx hb dX5_place_1 rfl (lv_at hl 0 rfl) ?_
  refine lv_aload_n hx hb dX5_place_2 rfl (lv_at hl 0 rfl) ?_
  refine gf_X5_6 C Z.1 tw_1_224 dX5_place_3 ?_
  refine lv_iload_n hx hb dX5_place_6 rfl (lv_at hl 1 rfl) ?_
  obtain ⟨q1, hB⟩ := hB
  refine a_ld C Z.1 aC_13 q1 dX5_place_7 ?_
  refine v_X5_contentOf C hl.1 Z tw_4_149 (rmk (by omega) (by omega)) ⟨Nat.le_refl _, Nat.le_refl _⟩ (Nat.le_of_ble_eq_true rfl) dX5_place_8 hB (fun v2 M3 H locs hB Z => ?_)
  refine lv_iadd hx hb dX5_place_11 ?_
  refine lv_topi (fun x5_4 ex5_4 => ?_)
  have hB := hB x5_4 ex5_4
  refine lv_istore (lv' := [(5, .int x5_4), (0, .ref (ad 7)), (1, .int x1), (2, .int x2), (3, .int x3), (4, .int x4)]) hx hb dX5_place_12 hl (by decide) rfl (fun ls hl => ?_)
  refine lv_iload hx hb dX5_place_14 (lv_at hl 5 rfl) ?_
  refine lv_aload_n hx hb dX5_place_16 rfl (lv_at hl 1 rfl) ?_
  refine gf_X5_6 C Z.1 tw_1_224 dX5_place_17 ?_
  refine lv_iload_n hx hb dX5_place_20 rfl (lv_at hl 2 rfl) ?_
  obtain ⟨q5, hB⟩ := hB
  refine a_ld C Z.1 aC_13 q5 dX5_place_21 ?_
  refine v_J6_bitCount_0f7a4 C.1 hl.1 tw_4_141 (rmk (by omega) (by omega)) ⟨Nat.le_refl _, Nat.le_refl _⟩ (Nat.le_of_ble_eq_true rfl) dX5_place_22 hB (fun v6 hB => ?_)
  refine lv_isub hx hb dX5_place_25 ?_
  refine lv_topi (fun x6_7 ex6_7 => ?_)
  have hB := hB x6_7 ex6_7
  refine lv_istore (lv' := [(6, .int x6_7), (5, .int x5_4), (0, .ref (ad 7)), (1, .int x1), (2, .int x2), (3, .int x3), (4, .int x4)]) hx hb dX5_place_26 hl (by decide) rfl (fun ls hl => ?_)
  refine lv_iload hx hb dX5_place_28 (lv_at hl 1 rfl) ?_
  refine lv_iload hx hb dX5_place_30 (lv_at hl 0 rfl) ?_
  refine lv_iadd hx hb dX5_place_32 ?_
  refine lv_topi (fun x7_8 ex7_8 => ?_)
  have hB := hB x7_8 ex7_8
  refine lv_istore (lv' := [(7, .int x7_8), (6, .int x6_7), (5, .int x5_4), (0, .ref (ad 7)), (1, .int x1), (2, .int x2), (3, .int x3), (4, .int x4)]) hx hb dX5_place_33 hl (by decide) rfl (fun ls hl => ?_)
  refine lv_iload hx hb dX5_place_35 (lv_at hl 0 rfl) ?_
  refine lv_aload_n hx hb dX5_place_37 rfl (lv_at hl 3 rfl) ?_
  refine gf_X5_8 C Z.1 tw_1_227 dX5_place_38 ?_
  refine lv_icmp_lt (tgt := 61) hx hb dX5_place_41 (by decide) (fun q9 => ?_) (fun q9 => ?_)
  · have hB := hB.1 q9
    exact e_vW C hr hlk Z dX5_place_61 hB
  · have hB := hB.2 q9
    refine lv_iload hx hb dX5_place_44 (lv_at hl 0 rfl) ?_
    refine lv_aload_n hx hb dX5_place_46 rfl (lv_at hl 3 rfl) ?_
    refine gf_X5_8 C Z.1 tw_1_227 dX5_place_47 ?_
    refine lv_icmp_ne (tgt := 62) hx hb dX5_place_50 (by decide) (fun q10 => ?_) (fun q10 => ?_)
    · have hB := hB.1 q10
      exact w_X5_place_62 C hr hlk Z hu (lv_sub hl [3, 4, 5, 2, 1] rfl) hB
    · have hB := hB.2 q10
      refine lv_iload_n hx hb dX5_place_53 rfl (lv_at hl 5 rfl) ?_
      refine lv_aload_n hx hb dX5_place_54 rfl (lv_at hl 3 rfl) ?_
      refine gf_X5_9 C Z.1 tw_1_229 dX5_place_55 ?_
      refine lv_icmp_lt (tgt := 62) hx hb dX5_place_58 (by decide) (fun q40 => ?_) (fun q40 => ?_)
      · have hB := hB.1 q40
        exact w_X5_place_62 C hr hlk Z hu (lv_sub hl [3, 4, 5, 2, 1] rfl) hB
      · have hB := hB.2 q40
        exact e_vW C hr hlk Z dX5_place_61 hB
def P_X5_place (K : Nat) : Nat → Mem → Int32 → Int32 → Int32 → Int32 → (Mem → Prop) → Prop
  | 0 => fun _ _ _ _ _ _ => False
  | n + 1 => Pb_X5_place (P_X5_place K n) K
set_option maxRecDepth 100000 in
set_option maxHeartbeats 4000000 in
theorem c_X5_place (n : Nat) : ∀ {l : Launch} {T : Nat → ClassId} {D : va_G} {ad : Nat → Nat} {K : Nat} {M : Mem} {x1 : Int32} {x2 : Int32} {x3 : Int32} {x4 : Int32} {sz : Nat} {Q1 : Mem → Prop}, P_X5_place K n M x1 x2 x3 x4 Q1 → Met l yX5_place (Cond.code yX5_place cX5_place 13 none :: TB) (RM (2 * n + 60)) (va_Pc [.ref (ad 7), .int x1, .int x2, .int x3, .int x4] (WrP EC T D ad (69 + K) M sz)) (QcV EC T D ad (69 + K) (AA ad (69 + K) sz) Q1) 0 0 (AA ad (69 + K) sz) := by
  induction n with
  | zero => intro _ _ _ _ _ _ _ _ _ _ _ _ hB; exact hB.elim
  | succ n ih =>
    intro _ _ _ _ K _ _ _ _ _ _ _ hB
    have e : 2 * (n + 1) + 60 = 2 * n + 62 := by omega
    rw [e]
    exact cb_X5_place (n := 2 * n) (u := P_X5_place K n) (fun _ _ _ _ _ _ _ h => ih  h)  hB
set_option maxRecDepth 100000 in
set_option maxHeartbeats 4000000 in
theorem v_X5_place {K : Nat} {M : Mem} {x1 : Int32} {x2 : Int32} {x3 : Int32} {x4 : Int32} {Q1 : Mem → Prop} (C : Cx T D p s m args c cc nL own) (hls : ls.size = nL) (Z : Zz EC T D ad (69 + K) A H0 M H locs) (hlink : Cond.methodLink own index yX5_place ∈ TB) (hR : 80 + 1 ≤ R.frames ∧ 8 + (13 + 11) + 48 * 80 ≤ R.locals) (hcs : cells ≤ R.cells ∧ slots ≤ R.slots) (hcat : (rest.map fun v => v.category).sum ≤ 8) (hdg : decode cc pc = .ok (.invokevirtual index, 3)) (hB : P_X5_place K 10 M x1 x2 x3 x4 Q1)
    (kk : ∀ (M1 : Mem) (H1 : Heap) (locs1 : List Loc), Q1 M1 → Zz EC T D ad (69 + K) A H0 M1 H1 locs1 → W p l e R s m args below meth c H1 locs1 cells slots QQ (F0 m (pc + 3) ls rest)) : W p l e R s m args below meth c H locs cells slots QQ (F0 m pc ls (.int x4 :: .int x3 :: .int x2 :: .int x1 :: .ref (ad 7) :: rest)) :=
  k_VV (lv := 80) (ci := 5) (n := 4) (c_X5_place 10  hB) tw_4_148 tw_4_147 tw_s_15 tw_1_11 ⟨rfl, by decide, by decide, by decide +kernel⟩ rfl rfl C hls Z oS hlink hR hcs hcat rfl hdg kk
def B_X5_find_40 (K : Nat) (Q1 : Mem → Prop) (s1 : Int32) (M : Mem) : Prop :=
  ∀ M9 : Mem, M9 = sf M 7 9 s1 → ¬ (0 : Int32) < 0 ∧ ¬ (0 : Int32) < 0 ∧ ¬ (8 : Int32) < 0 ∧ (0 : Int32).toNatClampNeg + (8 : Int32).toNatClampNeg ≤ 8 ∧ (0 : Int32).toNatClampNeg + (8 : Int32).toNatClampNeg ≤ 8 ∧ ∀ M15 : Mem, M15 = mu M9 14 (va_cpy (M9 32) (M9 14) (0 : Int32).toNatClampNeg (0 : Int32).toNatClampNeg (8 : Int32).toNatClampNeg) → P_X5_place K 10 M15 0 0 0 (M15 30 2) (fun M16 => Q1 M16)
def P_X5_find (K : Nat) (M : Mem) (x1 : Int32) (Q1 : Mem → Prop) : Prop :=
  P_X5_prepareCords K M (fun M1 => P_X5_prepareLodgers K M1 (fun M2 => P_X2_contentSet K M2 30 (fun v3 M4 => P_J6_bitCount_0f7a4 v3 (fun v5 => ∀ v6 : Int32, v6 = (if x1 < v5 then v5 else x1) → ∀ M7 : Mem, M7 = sf M4 7 8 v6 → ((v5 < x1 → B_X5_find_40 K Q1 1000000 M7) ∧
    (¬ v5 < x1 → B_X5_find_40 K Q1 0 M7))))))
set_option maxRecDepth 100000 in
set_option maxHeartbeats 4000000 in
theorem w_X5_find_40 {K : Nat} {M : Mem} {Q1 : Mem → Prop} {s1 : Int32} (C : Cx T D p s m args c cX5_find 3 "OneOfTwo$Search") (hr : meth.sig.returnType = none) (hlk : meth.locks = false) (Z : Zz EC T D ad (69 + K) A s.heap M H locs) {ls : Array Slot} (hl : lv_has ls 3 [(0, .ref (ad 7))]) (hB : B_X5_find_40 K Q1 s1 M) : W p l e (RM 81) s m args below meth c H locs 0 0 (MQ below (QcV EC T D ad (69 + K) A Q1) args s 0 0 A) (F0 m 40 ls [.int s1, .ref (ad 7)]) := by
  have hx := C.x
  have hb := C.b
  delta B_X5_find_40 at hB
  refine pf_X5_9 C Z tw_1_229 dX5_find_40 (fun M9 H locs eM9 Z => ?_)
  have hB := hB M9 eM9
  refine lv_aload_n hx hb dX5_find_43 rfl (lv_at hl 0 rfl) ?_
  refine gf_X5_0 C Z.1 tw_1_218 dX5_find_44 ?_
  refine gf_X2_4 C Z.1 isH_0 tw_1_140 dX5_find_47 ?_
  refine lv_iconst (v := 0) hx hb dX5_find_50 (by decide) ?_
  refine lv_aload_n hx hb dX5_find_51 rfl (lv_at hl 0 rfl) ?_
  refine gf_X5_7 C Z.1 tw_1_225 dX5_find_52 ?_
  refine lv_iconst (v := 0) hx hb dX5_find_55 (by decide) ?_
  refine lv_bipush (v := 8) hx hb dX5_find_56 (by decide) ?_
  obtain ⟨q10, q11, q12, q13, q14, hB⟩ := hB
  refine a_cp C Z hl.1 (aH_2 isH_0) aC_14 q10 q11 q12 q13 q14 tw_4_144 (Nat.le_of_ble_eq_true rfl) (Nat.le_of_ble_eq_true rfl) dX5_find_58 (fun M15 H locs eM15 Z => ?_)
  have hB := hB M15 eM15
  refine lv_aload_n hx hb dX5_find_61 rfl (lv_at hl 0 rfl) ?_
  refine lv_iconst (v := 0) hx hb dX5_find_62 (by decide) ?_
  refine lv_iconst (v := 0) hx hb dX5_find_63 (by decide) ?_
  refine lv_iconst (v := 0) hx hb dX5_find_64 (by decide) ?_
  refine lv_aload_n hx hb dX5_find_65 rfl (lv_at hl 0 rfl) ?_
  refine gf_X5_0 C Z.1 tw_1_218 dX5_find_66 ?_
  refine gf_X2_2 C Z.1 isH_0 tw_1_134 dX5_find_69 ?_
  refine v_X5_place C hl.1 Z tw_4_145 ⟨Nat.le_of_ble_eq_true rfl, Nat.le_of_ble_eq_true rfl⟩ ⟨Nat.le_refl _, Nat.le_refl _⟩ (Nat.le_of_ble_eq_true rfl) dX5_find_72 hB (fun M16 H locs hB Z => ?_)
  exact e_vW C hr hlk Z dX5_find_75 hB
set_option maxRecDepth 100000 in
set_option maxHeartbeats 4000000 in
theorem c_X5_find {l : Launch} {T : Nat → ClassId} {D : va_G} {ad : Nat → Nat} {K : Nat} {M : Mem} {x1 : Int32} {sz : Nat} {Q1 : Mem → Prop} (hB : P_X5_find K M x1 Q1) : Met l yX5_find (Cond.code yX5_find cX5_find 3 none :: TB) (RM 81) (va_Pc [.ref (ad 7), .int x1] (WrP EC T D ad (69 + K) M sz)) (QcV EC T D ad (69 + K) (AA ad (69 + K) sz) Q1) 0 0 (AA ad (69 + K) sz) := by
  refine st_W (by decide) (Nat.le_of_ble_eq_true rfl) (fun p e s m args below meth c ls C hr hlk hsz Z hl => ?_)
  have hl : lv_has ls 3 [(0, .ref (ad 7)), (1, .int x1)] := hl
  generalize AA ad (69 + K) sz = A at Z ⊢
  have hx := C.x
  have hb := C.b
  delta P_X5_find at hB
  refine lv_aload_n hx hb dX5_find_0 rfl (lv_at hl 0 rfl) ?_
  refine v_X5_prepareCords C hl.1 Z tw_4_119 ⟨Nat.le_of_ble_eq_true rfl, Nat.le_of_ble_eq_true rfl⟩ ⟨Nat.le_refl _, Nat.le_refl _⟩ (Nat.le_of_ble_eq_true rfl) dX5_find_1 hB (fun M1 H locs hB Z => ?_)
  refine lv_aload_n hx hb dX5_find_4 rfl (lv_at hl 0 rfl) ?_
  refine v_X5_prepareLodgers C hl.1 Z tw_4_130 ⟨Nat.le_of_ble_eq_true rfl, Nat.le_of_ble_eq_true rfl⟩ ⟨Nat.le_refl _, Nat.le_refl _⟩ (Nat.le_of_ble_eq_true rfl) dX5_find_5 hB (fun M2 H locs hB Z => ?_)
  refine lv_aload_n hx hb dX5_find_8 rfl (lv_at hl 0 rfl) ?_
  refine gf_X5_0 C Z.1 tw_1_218 dX5_find_9 ?_
  refine v_X2_contentSet C hl.1 Z isH_0 tw_4_140 ⟨Nat.le_of_ble_eq_true rfl, Nat.le_of_ble_eq_true rfl⟩ ⟨Nat.le_refl _, Nat.le_refl _⟩ (Nat.le_of_ble_eq_true rfl) dX5_find_12 hB (fun v3 M4 H locs hB Z => ?_)
  refine v_J6_bitCount_0f7a4 C.1 hl.1 tw_4_141 ⟨Nat.le_of_ble_eq_true rfl, Nat.le_of_ble_eq_true rfl⟩ ⟨Nat.le_refl _, Nat.le_refl _⟩ (Nat.le_of_ble_eq_true rfl) dX5_find_15 hB (fun v5 hB => ?_)
  refine lv_istore_n (lv' := [(2, .int v5), (0, .ref (ad 7)), (1, .int x1)]) hx hb dX5_find_18 rfl hl (by decide) rfl (fun ls hl => ?_)
  refine lv_aload_n hx hb dX5_find_19 rfl (lv_at hl 1 rfl) ?_
  refine lv_iload_n hx hb dX5_find_20 rfl (lv_at hl 2 rfl) ?_
  refine lv_iload_n hx hb dX5_find_21 rfl (lv_at hl 0 rfl) ?_
  refine m_max C.1 hl.1 tw_4_142 (Nat.le_of_ble_eq_true rfl) (Nat.le_of_ble_eq_true rfl) dX5_find_22 ?_
  refine lv_topi (fun v6 ev6 => ?_)
  have hB := hB v6 ev6
  refine pf_X5_8 C Z tw_1_227 dX5_find_25 (fun M7 H locs eM7 Z => ?_)
  have hB := hB M7 eM7
  refine lv_aload_n hx hb dX5_find_28 rfl (lv_at hl 1 rfl) ?_
  refine lv_iload_n hx hb dX5_find_29 rfl (lv_at hl 0 rfl) ?_
  refine lv_iload_n hx hb dX5_find_30 rfl (lv_at hl 2 rfl) ?_
  refine lv_icmp_lt (tgt := 38) hx hb dX5_find_31 (by decide) (fun q8 => ?_) (fun q8 => ?_)
  · have hB := hB.1 q8
    refine lv_ldc hx hb C.1.2.2.2.1 (C.1.2.2.2.2 _ tw_4_143) dX5_find_38 ?_
    exact w_X5_find_40 C hr hlk Z (lv_sub hl [1] rfl) hB
  · have hB := hB.2 q8
    refine lv_iconst (v := 0) hx hb dX5_find_34 (by decide) ?_
    refine lv_goto (tgt := 40) hx hb dX5_find_35 (by decide) ?_
    exact w_X5_find_40 C hr hlk Z (lv_sub hl [1] rfl) hB
set_option maxRecDepth 100000 in
set_option maxHeartbeats 4000000 in
theorem v_X5_find {K : Nat} {M : Mem} {x1 : Int32} {Q1 : Mem → Prop} (C : Cx T D p s m args c cc nL own) (hls : ls.size = nL) (Z : Zz EC T D ad (69 + K) A H0 M H locs) (hlink : Cond.methodLink own index yX5_find ∈ TB) (hR : 81 + 1 ≤ R.frames ∧ 8 + (3 + 11) + 48 * 81 ≤ R.locals) (hcs : cells ≤ R.cells ∧ slots ≤ R.slots) (hcat : (rest.map fun v => v.category).sum ≤ 8) (hdg : decode cc pc = .ok (.invokevirtual index, 3)) (hB : P_X5_find K M x1 Q1)
    (kk : ∀ (M1 : Mem) (H1 : Heap) (locs1 : List Loc), Q1 M1 → Zz EC T D ad (69 + K) A H0 M1 H1 locs1 → W p l e R s m args below meth c H1 locs1 cells slots QQ (F0 m (pc + 3) ls rest)) : W p l e R s m args below meth c H locs cells slots QQ (F0 m pc ls (.int x1 :: .ref (ad 7) :: rest)) :=
  k_VV (ci := 5) (n := 1) (c_X5_find hB) tw_4_118 tw_4_116 tw_4_117 tw_1_11 ⟨rfl, by decide, by decide, by decide +kernel⟩ rfl rfl C hls Z oS hlink hR hcs hcat rfl hdg kk
def P_X11_fewest (K : Nat) (M : Mem) (x1 : Int32) (Q1 : Int32 → Mem → Prop) : Prop :=
  ((x1 < (-1) → P_X11_error K M 1 (fun v2 M3 => Q1 v2 M3)) ∧
    (¬ x1 < (-1) → ((x1 < (M 30 0) → P_X5_find K M (M 30 2) (fun M5 => (((M5 7 9) < 1000000 → ((¬ x1 = (-1) → vp_in x1 8 ∧ Q1 (M5 14 x1.toNatClampNeg) M5) ∧
          (x1 = (-1) → Q1 (M5 7 9) M5))) ∧
        (¬ (M5 7 9) < 1000000 → P_X11_error K M5 2 (fun v9 M10 => Q1 v9 M10))))) ∧
      (¬ x1 < (M 30 0) → P_X11_error K M 1 (fun v11 M12 => Q1 v11 M12)))))
set_option maxRecDepth 100000 in
set_option maxHeartbeats 4000000 in
theorem c_X11_fewest {l : Launch} {T : Nat → ClassId} {D : va_G} {ad : Nat → Nat} {K : Nat} {M : Mem} {x1 : Int32} {sz : Nat} {Q1 : Int32 → Mem → Prop} (hB : P_X11_fewest K M x1 Q1) : Met l yX11_fewest (Cond.code yX11_fewest cX11_fewest 2 (some .int) :: TB) (RM 82) (va_Pc [.ref (ad 0), .int x1] (WrP EC T D ad (69 + K) M sz)) (QcW EC T D ad (69 + K) (AA ad (69 + K) sz) Q1) 0 0 (AA ad (69 + K) sz) := by
  refine st_W (by decide) (Nat.le_of_ble_eq_true rfl) (fun p e s m args below meth c ls C hr hlk hsz Z hl => ?_)
  have hl : lv_has ls 2 [(0, .ref (ad 0)), (1, .int x1)] := hl
  generalize AA ad (69 + K) sz = A at Z ⊢
  have hx := C.x
  have hb := C.b
  delta P_X11_fewest at hB
  refine lv_iload_n hx hb dX11_fewest_0 rfl (lv_at hl 1 rfl) ?_
  refine lv_iconst (v := (-1)) hx hb dX11_fewest_1 (by decide) ?_
  refine lv_icmp_lt (tgt := 16) hx hb dX11_fewest_2 (by decide) (fun q1 => ?_) (fun q1 => ?_)
  · have hB := hB.1 q1
    refine lv_aload_n hx hb dX11_fewest_16 rfl (lv_at hl 0 rfl) ?_
    refine lv_iconst (v := 1) hx hb dX11_fewest_17 (by decide) ?_
    refine v_X11_error C hl.1 Z tw_2_56 ⟨Nat.le_of_ble_eq_true rfl, Nat.le_of_ble_eq_true rfl⟩ ⟨Nat.le_refl _, Nat.le_refl _⟩ (Nat.le_of_ble_eq_true rfl) dX11_fewest_18 hB (fun v2 M3 H locs hB Z => ?_)
    exact e_iW C hr hlk Z dX11_fewest_21 hB
  · have hB := hB.2 q1
    refine lv_iload_n hx hb dX11_fewest_5 rfl (lv_at hl 1 rfl) ?_
    refine lv_aload_n hx hb dX11_fewest_6 rfl (lv_at hl 0 rfl) ?_
    refine gf_X11_5 C Z.1 tw_2_17 dX11_fewest_7 ?_
    refine gf_X2_0 C Z.1 isH_0 tw_1_128 dX11_fewest_10 ?_
    refine lv_icmp_lt (tgt := 22) hx hb dX11_fewest_13 (by decide) (fun q4 => ?_) (fun q4 => ?_)
    · have hB := hB.1 q4
      refine lv_aload_n hx hb dX11_fewest_22 rfl (lv_at hl 0 rfl) ?_
      refine gf_X11_8 C Z.1 tw_2_20 dX11_fewest_23 ?_
      refine lv_aload_n hx hb dX11_fewest_26 rfl (lv_at hl 0 rfl) ?_
      refine gf_X11_5 C Z.1 tw_2_17 dX11_fewest_27 ?_
      refine gf_X2_2 C Z.1 isH_0 tw_1_135 dX11_fewest_30 ?_
      refine v_X5_find C hl.1 Z tw_4_115 ⟨Nat.le_of_ble_eq_true rfl, Nat.le_of_ble_eq_true rfl⟩ ⟨Nat.le_refl _, Nat.le_refl _⟩ (Nat.le_of_ble_eq_true rfl) dX11_fewest_33 hB (fun M5 H locs hB Z => ?_)
      refine lv_aload_n hx hb dX11_fewest_36 rfl (lv_at hl 0 rfl) ?_
      refine gf_X11_8 C Z.1 tw_2_20 dX11_fewest_37 ?_
      refine gf_X5_9 C Z.1 tw_1_230 dX11_fewest_40 ?_
      refine lv_ldcw hx hb C.1.2.2.2.1 (C.1.2.2.2.2 _ tw_4_159) dX11_fewest_43 ?_
      refine lv_icmp_lt (tgt := 55) hx hb dX11_fewest_46 (by decide) (fun q6 => ?_) (fun q6 => ?_)
      · have hB := hB.1 q6
        refine lv_iload_n hx hb dX11_fewest_55 rfl (lv_at hl 1 rfl) ?_
        refine lv_iconst (v := (-1)) hx hb dX11_fewest_56 (by decide) ?_
        refine lv_icmp_ne (tgt := 70) hx hb dX11_fewest_57 (by decide) (fun q7 => ?_) (fun q7 => ?_)
        · have hB := hB.1 q7
          refine lv_aload_n hx hb dX11_fewest_70 rfl (lv_at hl 0 rfl) ?_
          refine gf_X11_8 C Z.1 tw_2_20 dX11_fewest_71 ?_
          refine gf_X5_7 C Z.1 tw_1_226 dX11_fewest_74 ?_
          refine lv_iload_n hx hb dX11_fewest_77 rfl (lv_at hl 1 rfl) ?_
          obtain ⟨q8, hB⟩ := hB
          refine a_ld C Z.1 aC_14 q8 dX11_fewest_78 ?_
          exact e_iW C hr hlk Z dX11_fewest_79 hB
        · have hB := hB.2 q7
          refine lv_aload_n hx hb dX11_fewest_60 rfl (lv_at hl 0 rfl) ?_
          refine gf_X11_8 C Z.1 tw_2_20 dX11_fewest_61 ?_
          refine gf_X5_9 C Z.1 tw_1_230 dX11_fewest_64 ?_
          refine lv_goto (tgt := 79) hx hb dX11_fewest_67 (by decide) ?_
          exact e_iW C hr hlk Z dX11_fewest_79 hB
      · have hB := hB.2 q6
        refine lv_aload_n hx hb dX11_fewest_49 rfl (lv_at hl 0 rfl) ?_
        refine lv_iconst (v := 2) hx hb dX11_fewest_50 (by decide) ?_
        refine v_X11_error C hl.1 Z tw_2_56 ⟨Nat.le_of_ble_eq_true rfl, Nat.le_of_ble_eq_true rfl⟩ ⟨Nat.le_refl _, Nat.le_refl _⟩ (Nat.le_of_ble_eq_true rfl) dX11_fewest_51 hB (fun v9 M10 H locs hB Z => ?_)
        exact e_iW C hr hlk Z dX11_fewest_54 hB
    · have hB := hB.2 q4
      refine lv_aload_n hx hb dX11_fewest_16 rfl (lv_at hl 0 rfl) ?_
      refine lv_iconst (v := 1) hx hb dX11_fewest_17 (by decide) ?_
      refine v_X11_error C hl.1 Z tw_2_56 ⟨Nat.le_of_ble_eq_true rfl, Nat.le_of_ble_eq_true rfl⟩ ⟨Nat.le_refl _, Nat.le_refl _⟩ (Nat.le_of_ble_eq_true rfl) dX11_fewest_18 hB (fun v11 M12 H locs hB Z => ?_)
      exact e_iW C hr hlk Z dX11_fewest_21 hB
set_option maxRecDepth 100000 in
set_option maxHeartbeats 4000000 in
theorem v_X11_fewest {K : Nat} {M : Mem} {x1 : Int32} {Q1 : Int32 → Mem → Prop} (C : Cx T D p s m args c cc nL own) (hls : ls.size = nL) (Z : Zz EC T D ad (69 + K) A H0 M H locs) (hlink : Cond.methodLink own index yX11_fewest ∈ TB) (hR : 82 + 1 ≤ R.frames ∧ 8 + (2 + 11) + 48 * 82 ≤ R.locals) (hcs : cells ≤ R.cells ∧ slots ≤ R.slots) (hcat : (rest.map fun v => v.category).sum ≤ 8) (hdg : decode cc pc = .ok (.invokevirtual index, 3)) (hB : P_X11_fewest K M x1 Q1)
    (kk : ∀ (r : Int32) (M1 : Mem) (H1 : Heap) (locs1 : List Loc), Q1 r M1 → Zz EC T D ad (69 + K) A H0 M1 H1 locs1 → W p l e R s m args below meth c H1 locs1 cells slots QQ (F0 m (pc + 3) ls (.int r :: rest))) : W p l e R s m args below meth c H locs cells slots QQ (F0 m pc ls (.int x1 :: .ref (ad 0) :: rest)) :=
  k_VW (ci := 11) (n := 1) (c_X11_fewest hB) tw_4_114 tw_4_112 tw_4_113 tw_1_1 ⟨rfl, by decide, by decide, by decide +kernel⟩ rfl rfl C hls Z oO hlink hR hcs hcat rfl hdg kk
def P_X11_most (K : Nat) (M : Mem) (x1 : Int32) (Q1 : Int32 → Mem → Prop) : Prop :=
  ((x1 < (-2) → P_X11_error K M 1 (fun v2 M3 => Q1 v2 M3)) ∧
    (¬ x1 < (-2) → ((x1 < (M 30 0) → P_X5_find K M 0 (fun M5 => ((¬ x1 = (-2) → ((¬ x1 = (-1) → vp_in x1 8 ∧ Q1 (M5 14 x1.toNatClampNeg) M5) ∧
          (x1 = (-1) → Q1 (M5 7 9) M5))) ∧
        (x1 = (-2) → Q1 (M5 7 8) M5)))) ∧
      (¬ x1 < (M 30 0) → P_X11_error K M 1 (fun v9 M10 => Q1 v9 M10)))))
set_option maxRecDepth 100000 in
set_option maxHeartbeats 4000000 in
theorem c_X11_most {l : Launch} {T : Nat → ClassId} {D : va_G} {ad : Nat → Nat} {K : Nat} {M : Mem} {x1 : Int32} {sz : Nat} {Q1 : Int32 → Mem → Prop} (hB : P_X11_most K M x1 Q1) : Met l yX11_most (Cond.code yX11_most cX11_most 2 (some .int) :: TB) (RM 82) (va_Pc [.ref (ad 0), .int x1] (WrP EC T D ad (69 + K) M sz)) (QcW EC T D ad (69 + K) (AA ad (69 + K) sz) Q1) 0 0 (AA ad (69 + K) sz) := by
  refine st_W (by decide) (Nat.le_of_ble_eq_true rfl) (fun p e s m args below meth c ls C hr hlk hsz Z hl => ?_)
  have hl : lv_has ls 2 [(0, .ref (ad 0)), (1, .int x1)] := hl
  generalize AA ad (69 + K) sz = A at Z ⊢
  have hx := C.x
  have hb := C.b
  delta P_X11_most at hB
  refine lv_iload_n hx hb dX11_most_0 rfl (lv_at hl 1 rfl) ?_
  refine lv_bipush (v := (-2)) hx hb dX11_most_1 (by decide) ?_
  refine lv_icmp_lt (tgt := 17) hx hb dX11_most_3 (by decide) (fun q1 => ?_) (fun q1 => ?_)
  · have hB := hB.1 q1
    refine lv_aload_n hx hb dX11_most_17 rfl (lv_at hl 0 rfl) ?_
    refine lv_iconst (v := 1) hx hb dX11_most_18 (by decide) ?_
    refine v_X11_error C hl.1 Z tw_2_56 ⟨Nat.le_of_ble_eq_true rfl, Nat.le_of_ble_eq_true rfl⟩ ⟨Nat.le_refl _, Nat.le_refl _⟩ (Nat.le_of_ble_eq_true rfl) dX11_most_19 hB (fun v2 M3 H locs hB Z => ?_)
    exact e_iW C hr hlk Z dX11_most_22 hB
  · have hB := hB.2 q1
    refine lv_iload_n hx hb dX11_most_6 rfl (lv_at hl 1 rfl) ?_
    refine lv_aload_n hx hb dX11_most_7 rfl (lv_at hl 0 rfl) ?_
    refine gf_X11_5 C Z.1 tw_2_17 dX11_most_8 ?_
    refine gf_X2_0 C Z.1 isH_0 tw_1_128 dX11_most_11 ?_
    refine lv_icmp_lt (tgt := 23) hx hb dX11_most_14 (by decide) (fun q4 => ?_) (fun q4 => ?_)
    · have hB := hB.1 q4
      refine lv_aload_n hx hb dX11_most_23 rfl (lv_at hl 0 rfl) ?_
      refine gf_X11_8 C Z.1 tw_2_20 dX11_most_24 ?_
      refine lv_iconst (v := 0) hx hb dX11_most_27 (by decide) ?_
      refine v_X5_find C hl.1 Z tw_4_115 ⟨Nat.le_of_ble_eq_true rfl, Nat.le_of_ble_eq_true rfl⟩ ⟨Nat.le_refl _, Nat.le_refl _⟩ (Nat.le_of_ble_eq_true rfl) dX11_most_28 hB (fun M5 H locs hB Z => ?_)
      refine lv_iload_n hx hb dX11_most_31 rfl (lv_at hl 1 rfl) ?_
      refine lv_bipush (v := (-2)) hx hb dX11_most_32 (by decide) ?_
      refine lv_icmp_ne (tgt := 45) hx hb dX11_most_34 (by decide) (fun q6 => ?_) (fun q6 => ?_)
      · have hB := hB.1 q6
        refine lv_iload_n hx hb dX11_most_45 rfl (lv_at hl 1 rfl) ?_
        refine lv_iconst (v := (-1)) hx hb dX11_most_46 (by decide) ?_
        refine lv_icmp_ne (tgt := 60) hx hb dX11_most_47 (by decide) (fun q7 => ?_) (fun q7 => ?_)
        · have hB := hB.1 q7
          refine lv_aload_n hx hb dX11_most_60 rfl (lv_at hl 0 rfl) ?_
          refine gf_X11_8 C Z.1 tw_2_20 dX11_most_61 ?_
          refine gf_X5_7 C Z.1 tw_1_226 dX11_most_64 ?_
          refine lv_iload_n hx hb dX11_most_67 rfl (lv_at hl 1 rfl) ?_
          obtain ⟨q8, hB⟩ := hB
          refine a_ld C Z.1 aC_14 q8 dX11_most_68 ?_
          exact e_iW C hr hlk Z dX11_most_69 hB
        · have hB := hB.2 q7
          refine lv_aload_n hx hb dX11_most_50 rfl (lv_at hl 0 rfl) ?_
          refine gf_X11_8 C Z.1 tw_2_20 dX11_most_51 ?_
          refine gf_X5_9 C Z.1 tw_1_230 dX11_most_54 ?_
          refine lv_goto (tgt := 69) hx hb dX11_most_57 (by decide) ?_
          exact e_iW C hr hlk Z dX11_most_69 hB
      · have hB := hB.2 q6
        refine lv_aload_n hx hb dX11_most_37 rfl (lv_at hl 0 rfl) ?_
        refine gf_X11_8 C Z.1 tw_2_20 dX11_most_38 ?_
        refine gf_X5_8 C Z.1 tw_1_228 dX11_most_41 ?_
        exact e_iW C hr hlk Z dX11_most_44 hB
    · have hB := hB.2 q4
      refine lv_aload_n hx hb dX11_most_17 rfl (lv_at hl 0 rfl) ?_
      refine lv_iconst (v := 1) hx hb dX11_most_18 (by decide) ?_
      refine v_X11_error C hl.1 Z tw_2_56 ⟨Nat.le_of_ble_eq_true rfl, Nat.le_of_ble_eq_true rfl⟩ ⟨Nat.le_refl _, Nat.le_refl _⟩ (Nat.le_of_ble_eq_true rfl) dX11_most_19 hB (fun v9 M10 H locs hB Z => ?_)
      exact e_iW C hr hlk Z dX11_most_22 hB
set_option maxRecDepth 100000 in
set_option maxHeartbeats 4000000 in
theorem v_X11_most {K : Nat} {M : Mem} {x1 : Int32} {Q1 : Int32 → Mem → Prop} (C : Cx T D p s m args c cc nL own) (hls : ls.size = nL) (Z : Zz EC T D ad (69 + K) A H0 M H locs) (hlink : Cond.methodLink own index yX11_most ∈ TB) (hR : 82 + 1 ≤ R.frames ∧ 8 + (2 + 11) + 48 * 82 ≤ R.locals) (hcs : cells ≤ R.cells ∧ slots ≤ R.slots) (hcat : (rest.map fun v => v.category).sum ≤ 8) (hdg : decode cc pc = .ok (.invokevirtual index, 3)) (hB : P_X11_most K M x1 Q1)
    (kk : ∀ (r : Int32) (M1 : Mem) (H1 : Heap) (locs1 : List Loc), Q1 r M1 → Zz EC T D ad (69 + K) A H0 M1 H1 locs1 → W p l e R s m args below meth c H1 locs1 cells slots QQ (F0 m (pc + 3) ls (.int r :: rest))) : W p l e R s m args below meth c H locs cells slots QQ (F0 m pc ls (.int x1 :: .ref (ad 0) :: rest)) :=
  k_VW (ci := 11) (n := 1) (c_X11_most hB) tw_4_163 tw_4_161 tw_4_162 tw_1_1 ⟨rfl, by decide, by decide, by decide +kernel⟩ rfl rfl C hls Z oO hlink hR hcs hcat rfl hdg kk
def P_X11_contentIfSwapped (K : Nat) (M : Mem) (x1 : Int32) (x2 : Int32) (Q1 : Int32 → Mem → Prop) : Prop :=
  P_X2_copyFrom K M 43 30 (fun M1 => P_X2_hangOtherwise K M1 43 x1 x2 (fun M2 => P_X2_turnOfAll K M2 43 (fun v3 M4 => P_X2_contentSet K M4 43 (fun v5 M6 => P_J6_bitCount_0f7a4 v5 (fun v7 => Q1 v7 M6)))))
set_option maxRecDepth 100000 in
set_option maxHeartbeats 4000000 in
theorem c_X11_contentIfSwapped {l : Launch} {T : Nat → ClassId} {D : va_G} {ad : Nat → Nat} {K : Nat} {M : Mem} {x1 : Int32} {x2 : Int32} {sz : Nat} {Q1 : Int32 → Mem → Prop} (hB : P_X11_contentIfSwapped K M x1 x2 Q1) : Met l yX11_contentIfSwapped (Cond.code yX11_contentIfSwapped cX11_contentIfSwapped 3 (some .int) :: TB) (RM 7) (va_Pc [.ref (ad 0), .int x1, .int x2] (WrP EC T D ad (69 + K) M sz)) (QcW EC T D ad (69 + K) (AA ad (69 + K) sz) Q1) 0 0 (AA ad (69 + K) sz) := by
  refine st_W (by decide) (Nat.le_of_ble_eq_true rfl) (fun p e s m args below meth c ls C hr hlk hsz Z hl => ?_)
  have hl : lv_has ls 3 [(0, .ref (ad 0)), (1, .int x1), (2, .int x2)] := hl
  generalize AA ad (69 + K) sz = A at Z ⊢
  have hx := C.x
  have hb := C.b
  delta P_X11_contentIfSwapped at hB
  refine lv_aload_n hx hb dX11_contentIfSwapped_0 rfl (lv_at hl 0 rfl) ?_
  refine gf_X11_6 C Z.1 tw_2_18 dX11_contentIfSwapped_1 ?_
  refine lv_aload_n hx hb dX11_contentIfSwapped_4 rfl (lv_at hl 0 rfl) ?_
  refine gf_X11_5 C Z.1 tw_2_17 dX11_contentIfSwapped_5 ?_
  refine v_X2_copyFrom C hl.1 Z isH_1 isH_0 tw_4_79 ⟨Nat.le_of_ble_eq_true rfl, Nat.le_of_ble_eq_true rfl⟩ ⟨Nat.le_refl _, Nat.le_refl _⟩ (Nat.le_of_ble_eq_true rfl) dX11_contentIfSwapped_8 hB (fun M1 H locs hB Z => ?_)
  refine lv_aload_n hx hb dX11_contentIfSwapped_11 rfl (lv_at hl 0 rfl) ?_
  refine gf_X11_6 C Z.1 tw_2_18 dX11_contentIfSwapped_12 ?_
  refine lv_iload_n hx hb dX11_contentIfSwapped_15 rfl (lv_at hl 1 rfl) ?_
  refine lv_iload_n hx hb dX11_contentIfSwapped_16 rfl (lv_at hl 2 rfl) ?_
  refine v_X2_hangOtherwise C hl.1 Z isH_1 tw_2_139 ⟨Nat.le_of_ble_eq_true rfl, Nat.le_of_ble_eq_true rfl⟩ ⟨Nat.le_refl _, Nat.le_refl _⟩ (Nat.le_of_ble_eq_true rfl) dX11_contentIfSwapped_17 hB (fun M2 H locs hB Z => ?_)
  refine lv_aload_n hx hb dX11_contentIfSwapped_20 rfl (lv_at hl 0 rfl) ?_
  refine gf_X11_6 C Z.1 tw_2_18 dX11_contentIfSwapped_21 ?_
  refine v_X2_turnOfAll C hl.1 Z isH_1 tw_4_92 ⟨Nat.le_of_ble_eq_true rfl, Nat.le_of_ble_eq_true rfl⟩ ⟨Nat.le_refl _, Nat.le_refl _⟩ (Nat.le_of_ble_eq_true rfl) dX11_contentIfSwapped_24 hB (fun v3 M4 H locs hB Z => ?_)
  refine lv_pop hx hb dX11_contentIfSwapped_27 rfl ?_
  refine lv_aload_n hx hb dX11_contentIfSwapped_28 rfl (lv_at hl 0 rfl) ?_
  refine gf_X11_6 C Z.1 tw_2_18 dX11_contentIfSwapped_29 ?_
  refine v_X2_contentSet C hl.1 Z isH_1 tw_3_56 ⟨Nat.le_of_ble_eq_true rfl, Nat.le_of_ble_eq_true rfl⟩ ⟨Nat.le_refl _, Nat.le_refl _⟩ (Nat.le_of_ble_eq_true rfl) dX11_contentIfSwapped_32 hB (fun v5 M6 H locs hB Z => ?_)
  refine v_J6_bitCount_0f7a4 C.1 hl.1 tw_2_69 ⟨Nat.le_of_ble_eq_true rfl, Nat.le_of_ble_eq_true rfl⟩ ⟨Nat.le_refl _, Nat.le_refl _⟩ (Nat.le_of_ble_eq_true rfl) dX11_contentIfSwapped_35 hB (fun v7 hB => ?_)
  exact e_iW C hr hlk Z dX11_contentIfSwapped_38 hB
set_option maxRecDepth 100000 in
set_option maxHeartbeats 4000000 in
theorem v_X11_contentIfSwapped {K : Nat} {M : Mem} {x1 : Int32} {x2 : Int32} {Q1 : Int32 → Mem → Prop} (C : Cx T D p s m args c cc nL own) (hls : ls.size = nL) (Z : Zz EC T D ad (69 + K) A H0 M H locs) (hlink : Cond.methodLink own index yX11_contentIfSwapped ∈ TB) (hR : 7 + 1 ≤ R.frames ∧ 8 + (3 + 11) + 48 * 7 ≤ R.locals) (hcs : cells ≤ R.cells ∧ slots ≤ R.slots) (hcat : (rest.map fun v => v.category).sum ≤ 8) (hdg : decode cc pc = .ok (.invokevirtual index, 3)) (hB : P_X11_contentIfSwapped K M x1 x2 Q1)
    (kk : ∀ (r : Int32) (M1 : Mem) (H1 : Heap) (locs1 : List Loc), Q1 r M1 → Zz EC T D ad (69 + K) A H0 M1 H1 locs1 → W p l e R s m args below meth c H1 locs1 cells slots QQ (F0 m (pc + 3) ls (.int r :: rest))) : W p l e R s m args below meth c H locs cells slots QQ (F0 m pc ls (.int x2 :: .int x1 :: .ref (ad 0) :: rest)) :=
  k_VW (ci := 11) (n := 2) (c_X11_contentIfSwapped hB) tw_4_171 tw_4_170 tw_s_18 tw_1_1 ⟨rfl, by decide, by decide, by decide +kernel⟩ rfl rfl C hls Z oO hlink hR hcs hcat rfl hdg kk
def B_X11_helps_87 (K : Nat) (Q1 : Int32 → Mem → Prop) (X22 : Int32 → Int32 → Int32 → Mem → Prop) (X40 : Int32 → Int32 → Int32 → Mem → Prop) (x1 : Int32) (x2 : Int32) (x3 : Int32) (x4 : Int32) (x5 : Int32) (s0 : Int32) (M : Mem) : Prop :=
  ((s0 ≤ x2 → ∀ x5_19 : Int32, x5_19 = x5 + 1 → X40 x2 x3 x5_19 M) ∧
    (¬ s0 ≤ x2 → ∀ x3_20 : Int32, x3_20 = (10 * x4) + x5 → ∀ x5_21 : Int32, x5_21 = x5 + 1 → X40 s0 x3_20 x5_21 M))
def B_X11_helps_40 (K : Nat) (Q1 : Int32 → Mem → Prop) (X22 : Int32 → Int32 → Int32 → Mem → Prop) (x1 : Int32) (x2 : Int32) (x3 : Int32) (x4 : Int32) (x5 : Int32) (M : Mem) : Prop :=
  ∀ X40 : Int32 → Int32 → Int32 → Mem → Prop, (∀ (x2 : Int32) (x3 : Int32) (x5 : Int32) (M : Mem), ((((M 30 0) ≤ x5 → ∀ x4_12 : Int32, x4_12 = x4 + 1 → X22 x2 x3 x4_12 M) ∧
    (¬ (M 30 0) ≤ x5 → vp_in x4 8 ∧ vp_in x5 8 ∧ ((¬ (M 33 x4.toNatClampNeg) = (M 33 x5.toNatClampNeg) → P_X11_contentIfSwapped K M x4 x5 (fun v16 M17 => B_X11_helps_87 K Q1 X22 X40 x1 x2 x3 x4 x5 v16 M17)) ∧
      ((M 33 x4.toNatClampNeg) = (M 33 x5.toNatClampNeg) → B_X11_helps_87 K Q1 X22 X40 x1 x2 x3 x4 x5 (-1) M))))) → X40 x2 x3 x5 M) → X40 x2 x3 x5 M
def B_X11_helps_22 (K : Nat) (Q1 : Int32 → Mem → Prop) (x1 : Int32) (x2 : Int32) (x3 : Int32) (x4 : Int32) (M : Mem) : Prop :=
  ∀ X22 : Int32 → Int32 → Int32 → Mem → Prop, (∀ (x2 : Int32) (x3 : Int32) (x4 : Int32) (M : Mem), ((((M 30 0) ≤ x4 → ((0 ≤ x2 → ((¬ x1 = 0 → Q1 x2 M) ∧
        (x1 = 0 → Q1 x3 M))) ∧
      (¬ 0 ≤ x2 → P_X11_error K M 2 (fun v8 M9 => Q1 v8 M9)))) ∧
    (¬ (M 30 0) ≤ x4 → ∀ x5_10 : Int32, x5_10 = x4 + 1 → B_X11_helps_40 K Q1 X22 x1 x2 x3 x4 x5_10 M))) → X22 x2 x3 x4 M) → X22 x2 x3 x4 M
def P_X11_helps (K : Nat) (M : Mem) (x1 : Int32) (Q1 : Int32 → Mem → Prop) : Prop :=
  ((x1 < 0 → P_X11_error K M 1 (fun v2 M3 => Q1 v2 M3)) ∧
    (¬ x1 < 0 → ((x1 ≤ 1 → B_X11_helps_22 K Q1 x1 (-1) 0 0 M) ∧
      (¬ x1 ≤ 1 → P_X11_error K M 1 (fun v22 M23 => Q1 v22 M23)))))
set_option maxRecDepth 100000 in
set_option maxHeartbeats 4000000 in
theorem w_X11_helps_87 {K : Nat} {M : Mem} {Q1 : Int32 → Mem → Prop} {X22 : Int32 → Int32 → Int32 → Mem → Prop} {X40 : Int32 → Int32 → Int32 → Mem → Prop} {x1 : Int32} {x2 : Int32} {x3 : Int32} {x4 : Int32} {x5 : Int32} {s0 : Int32} (C : Cx T D p s m args c cX11_helps 7 "OneOfTwo") (hr : meth.sig.returnType = (some .int)) (hlk : meth.locks = false) (Z : Zz EC T D ad (69 + K) A s.heap M H locs) (hX22 : ∀ (x2 : Int32) (x3 : Int32) (x4 : Int32) (M : Mem), X22 x2 x3 x4 M → ∀ (H : Heap) (locs : List Loc) (ls : Array Slot), Zz EC T D ad (69 + K) A s.heap M H locs → lv_has ls 7 [(0, .ref (ad 0)), (1, .int x1), (2, .int x2), (3, .int x3), (4, .int x4)] → W p l e (RM 8) s m args below meth c H locs 0 0 (MQ below (QcW EC T D ad (69 + K) A Q1) args s 0 0 A) (F0 m 22 ls [])) (hX40 : ∀ (x2 : Int32) (x3 : Int32) (x5 : Int32) (M : Mem), X40 x2 x3 x5 M → ∀ (H : Heap) (locs : List Loc) (ls : Array Slot), Zz EC T D ad (69 + K) A s.heap M H locs → lv_has ls 7 [(0, .ref (ad 0)), (1, .int x1), (2, .int x2), (3, .int x3), (4, .int x4), (5, .int x5)] → W p l e (RM 8) s m args below meth c H locs 0 0 (MQ below (QcW EC T D ad (69 + K) A Q1) args s 0 0 A) (F0 m 40 ls [])) {ls : Array Slot} (hl : lv_has ls 7 [(0, .ref (ad 0)), (1, .int x1), (2, .int x2), (3, .int x3), (4, .int x4), (5, .int x5)]) (hB : B_X11_helps_87 K Q1 X22 X40 x1 x2 x3 x4 x5 s0 M) : W p l e (RM 8) s m args below meth c H locs 0 0 (MQ below (QcW EC T D ad (69 + K) A Q1) args s 0 0 A) (F0 m 87 ls [.int s0]) := by
  have hx := C.x
  have hb := C.b
  delta B_X11_helps_87 at hB
  refine lv_istore (lv' := [(6, .int s0), (0, .ref (ad 0)), (1, .int x1), (2, .int x2), (3, .int x3), (4, .int x4), (5, .int x5)]) hx hb dX11_helps_87 hl (by decide) rfl (fun ls hl => ?_)
  refine lv_iload hx hb dX11_helps_89 (lv_at hl 0 rfl) ?_
  refine lv_iload_n hx hb dX11_helps_91 rfl (lv_at hl 3 rfl) ?_
  refine lv_icmp_le (tgt := 107) hx hb dX11_helps_92 (by decide) (fun q18 => ?_) (fun q18 => ?_)
  · have hB := hB.1 q18
    obtain ⟨x5_19, ex5_19⟩ : ∃ y : Int32, y = x5 + 1 := ⟨_, rfl⟩
    have hB := hB x5_19 ex5_19
    refine lv_iinc (v := x5_19) (lv' := [(5, .int x5_19), (6, .int s0), (0, .ref (ad 0)), (1, .int x1), (2, .int x2), (3, .int x3), (4, .int x4)]) hx hb dX11_helps_107 hl (k := 6) rfl (by rw [ex5_19]; rfl) (by decide) rfl (fun ls hl => ?_)
    refine lv_goto (tgt := 40) hx hb dX11_helps_110 (by decide) ?_
    exact hX40 _ _ _ _ hB _ _ _ Z (lv_sub hl [2, 3, 4, 5, 6, 0] rfl)
  · have hB := hB.2 q18
    refine lv_iload hx hb dX11_helps_95 (lv_at hl 0 rfl) ?_
    refine lv_istore_n (lv' := [(2, .int s0), (6, .int s0), (0, .ref (ad 0)), (1, .int x1), (3, .int x3), (4, .int x4), (5, .int x5)]) hx hb dX11_helps_97 rfl hl (by decide) rfl (fun ls hl => ?_)
    refine lv_bipush (v := 10) hx hb dX11_helps_98 (by decide) ?_
    refine lv_iload hx hb dX11_helps_100 (lv_at hl 5 rfl) ?_
    refine lv_imul hx hb dX11_helps_102 ?_
    refine lv_iload hx hb dX11_helps_103 (lv_at hl 6 rfl) ?_
    refine lv_iadd hx hb dX11_helps_105 ?_
    refine lv_topi (fun x3_20 ex3_20 => ?_)
    have hB := hB x3_20 ex3_20
    refine lv_istore_n (lv' := [(3, .int x3_20), (2, .int s0), (6, .int s0), (0, .ref (ad 0)), (1, .int x1), (4, .int x4), (5, .int x5)]) hx hb dX11_helps_106 rfl hl (by decide) rfl (fun ls hl => ?_)
    obtain ⟨x5_21, ex5_21⟩ : ∃ y : Int32, y = x5 + 1 := ⟨_, rfl⟩
    have hB := hB x5_21 ex5_21
    refine lv_iinc (v := x5_21) (lv' := [(5, .int x5_21), (3, .int x3_20), (2, .int s0), (6, .int s0), (0, .ref (ad 0)), (1, .int x1), (4, .int x4)]) hx hb dX11_helps_107 hl (k := 6) rfl (by rw [ex5_21]; rfl) (by decide) rfl (fun ls hl => ?_)
    refine lv_goto (tgt := 40) hx hb dX11_helps_110 (by decide) ?_
    exact hX40 _ _ _ _ hB _ _ _ Z (lv_sub hl [4, 5, 2, 1, 6, 0] rfl)
set_option maxRecDepth 100000 in
set_option maxHeartbeats 4000000 in
theorem w_X11_helps_40 {K : Nat} {M : Mem} {Q1 : Int32 → Mem → Prop} {X22 : Int32 → Int32 → Int32 → Mem → Prop} {x1 : Int32} {x2 : Int32} {x3 : Int32} {x4 : Int32} {x5 : Int32} (C : Cx T D p s m args c cX11_helps 7 "OneOfTwo") (hr : meth.sig.returnType = (some .int)) (hlk : meth.locks = false) (Z : Zz EC T D ad (69 + K) A s.heap M H locs) (hX22 : ∀ (x2 : Int32) (x3 : Int32) (x4 : Int32) (M : Mem), X22 x2 x3 x4 M → ∀ (H : Heap) (locs : List Loc) (ls : Array Slot), Zz EC T D ad (69 + K) A s.heap M H locs → lv_has ls 7 [(0, .ref (ad 0)), (1, .int x1), (2, .int x2), (3, .int x3), (4, .int x4)] → W p l e (RM 8) s m args below meth c H locs 0 0 (MQ below (QcW EC T D ad (69 + K) A Q1) args s 0 0 A) (F0 m 22 ls [])) {ls : Array Slot} (hl : lv_has ls 7 [(0, .ref (ad 0)), (1, .int x1), (2, .int x2), (3, .int x3), (4, .int x4), (5, .int x5)]) (hB : B_X11_helps_40 K Q1 X22 x1 x2 x3 x4 x5 M) : W p l e (RM 8) s m args below meth c H locs 0 0 (MQ below (QcW EC T D ad (69 + K) A Q1) args s 0 0 A) (F0 m 40 ls []) := by
  delta B_X11_helps_40 at hB
  obtain ⟨X40, hX40, hY40⟩ : ∃ X40 : Int32 → Int32 → Int32 → Mem → Prop, (∀ (x2 : Int32) (x3 : Int32) (x5 : Int32) (M : Mem), X40 x2 x3 x5 M → ∀ (H : Heap) (locs : List Loc) (ls : Array Slot), Zz EC T D ad (69 + K) A s.heap M H locs → lv_has ls 7 [(0, .ref (ad 0)), (1, .int x1), (2, .int x2), (3, .int x3), (4, .int x4), (5, .int x5)] → W p l e (RM 8) s m args below meth c H locs 0 0 (MQ below (QcW EC T D ad (69 + K) A Q1) args s 0 0 A) (F0 m 40 ls [])) ∧ (∀ (x2 : Int32) (x3 : Int32) (x5 : Int32) (M : Mem), (∀ (H : Heap) (locs : List Loc) (ls : Array Slot), Zz EC T D ad (69 + K) A s.heap M H locs → lv_has ls 7 [(0, .ref (ad 0)), (1, .int x1), (2, .int x2), (3, .int x3), (4, .int x4), (5, .int x5)] → W p l e (RM 8) s m args below meth c H locs 0 0 (MQ below (QcW EC T D ad (69 + K) A Q1) args s 0 0 A) (F0 m 40 ls [])) → X40 x2 x3 x5 M) := ⟨fun (x2 : Int32) (x3 : Int32) (x5 : Int32) (M : Mem) => ∀ (H : Heap) (locs : List Loc) (ls : Array Slot), Zz EC T D ad (69 + K) A s.heap M H locs → lv_has ls 7 [(0, .ref (ad 0)), (1, .int x1), (2, .int x2), (3, .int x3), (4, .int x4), (5, .int x5)] → W p l e (RM 8) s m args below meth c H locs 0 0 (MQ below (QcW EC T D ad (69 + K) A Q1) args s 0 0 A) (F0 m 40 ls []), fun _ _ _ _ h => h, fun _ _ _ _ h => h⟩
  refine hX40 _ _ _ _ (hB X40 (fun x2 x3 x5 M hB => hY40 _ _ _ _ (fun H locs ls Z hl => ?_))) _ _ _ Z hl
  have hx := C.x
  have hb := C.b
  refine lv_iload hx hb dX11_helps_40 (lv_at hl 5 rfl) ?_
  refine lv_aload_n hx hb dX11_helps_42 rfl (lv_at hl 0 rfl) ?_
  refine gf_X11_5 C Z.1 tw_2_17 dX11_helps_43 ?_
  refine gf_X2_0 C Z.1 isH_0 tw_1_128 dX11_helps_46 ?_
  refine lv_icmp_ge (tgt := 113) hx hb dX11_helps_49 (by decide) (fun q11 => ?_) (fun q11 => ?_)
  · have hB := hB.1 q11
    obtain ⟨x4_12, ex4_12⟩ : ∃ y : Int32, y = x4 + 1 := ⟨_, rfl⟩
    have hB := hB x4_12 ex4_12
    refine lv_iinc (v := x4_12) (lv' := [(4, .int x4_12), (0, .ref (ad 0)), (1, .int x1), (2, .int x2), (3, .int x3), (5, .int x5)]) hx hb dX11_helps_113 hl (k := 4) rfl (by rw [ex4_12]; rfl) (by decide) rfl (fun ls hl => ?_)
    refine lv_goto (tgt := 22) hx hb dX11_helps_116 (by decide) ?_
    exact hX22 _ _ _ _ hB _ _ _ Z (lv_sub hl [1, 2, 3, 4, 0] rfl)
  · have hB := hB.2 q11
    refine lv_aload_n hx hb dX11_helps_52 rfl (lv_at hl 0 rfl) ?_
    refine gf_X11_5 C Z.1 tw_2_17 dX11_helps_53 ?_
    refine gf_X2_5 C Z.1 isH_0 tw_1_143 dX11_helps_56 ?_
    refine lv_iload hx hb dX11_helps_59 (lv_at hl 4 rfl) ?_
    obtain ⟨q13, hB⟩ := hB
    refine a_ld C Z.1 (aH_3 isH_0) q13 dX11_helps_61 ?_
    refine lv_aload_n hx hb dX11_helps_62 rfl (lv_at hl 0 rfl) ?_
    refine gf_X11_5 C Z.1 tw_2_17 dX11_helps_63 ?_
    refine gf_X2_5 C Z.1 isH_0 tw_1_143 dX11_helps_66 ?_
    refine lv_iload hx hb dX11_helps_69 (lv_at hl 5 rfl) ?_
    obtain ⟨q14, hB⟩ := hB
    refine a_ld C Z.1 (aH_3 isH_0) q14 dX11_helps_71 ?_
    refine lv_icmp_ne (tgt := 79) hx hb dX11_helps_72 (by decide) (fun q15 => ?_) (fun q15 => ?_)
    · have hB := hB.1 q15
      refine lv_aload_n hx hb dX11_helps_79 rfl (lv_at hl 0 rfl) ?_
      refine lv_iload hx hb dX11_helps_80 (lv_at hl 4 rfl) ?_
      refine lv_iload hx hb dX11_helps_82 (lv_at hl 5 rfl) ?_
      refine v_X11_contentIfSwapped C hl.1 Z tw_4_168 ⟨Nat.le_of_ble_eq_true rfl, Nat.le_of_ble_eq_true rfl⟩ ⟨Nat.le_refl _, Nat.le_refl _⟩ (Nat.le_of_ble_eq_true rfl) dX11_helps_84 hB (fun v16 M17 H locs hB Z => ?_)
      exact w_X11_helps_87 C hr hlk Z hX22 hX40 (lv_sub hl [0, 1, 2, 3, 4, 5] rfl) hB
    · have hB := hB.2 q15
      refine lv_iconst (v := (-1)) hx hb dX11_helps_75 (by decide) ?_
      refine lv_goto (tgt := 87) hx hb dX11_helps_76 (by decide) ?_
      exact w_X11_helps_87 C hr hlk Z hX22 hX40 (lv_sub hl [0, 1, 2, 3, 4, 5] rfl) hB
set_option maxRecDepth 100000 in
set_option maxHeartbeats 4000000 in
theorem w_X11_helps_22 {K : Nat} {M : Mem} {Q1 : Int32 → Mem → Prop} {x1 : Int32} {x2 : Int32} {x3 : Int32} {x4 : Int32} (C : Cx T D p s m args c cX11_helps 7 "OneOfTwo") (hr : meth.sig.returnType = (some .int)) (hlk : meth.locks = false) (Z : Zz EC T D ad (69 + K) A s.heap M H locs) {ls : Array Slot} (hl : lv_has ls 7 [(0, .ref (ad 0)), (1, .int x1), (2, .int x2), (3, .int x3), (4, .int x4)]) (hB : B_X11_helps_22 K Q1 x1 x2 x3 x4 M) : W p l e (RM 8) s m args below meth c H locs 0 0 (MQ below (QcW EC T D ad (69 + K) A Q1) args s 0 0 A) (F0 m 22 ls []) := by
  delta B_X11_helps_22 at hB
  obtain ⟨X22, hX22, hY22⟩ : ∃ X22 : Int32 → Int32 → Int32 → Mem → Prop, (∀ (x2 : Int32) (x3 : Int32) (x4 : Int32) (M : Mem), X22 x2 x3 x4 M → ∀ (H : Heap) (locs : List Loc) (ls : Array Slot), Zz EC T D ad (69 + K) A s.heap M H locs → lv_has ls 7 [(0, .ref (ad 0)), (1, .int x1), (2, .int x2), (3, .int x3), (4, .int x4)] → W p l e (RM 8) s m args below meth c H locs 0 0 (MQ below (QcW EC T D ad (69 + K) A Q1) args s 0 0 A) (F0 m 22 ls [])) ∧ (∀ (x2 : Int32) (x3 : Int32) (x4 : Int32) (M : Mem), (∀ (H : Heap) (locs : List Loc) (ls : Array Slot), Zz EC T D ad (69 + K) A s.heap M H locs → lv_has ls 7 [(0, .ref (ad 0)), (1, .int x1), (2, .int x2), (3, .int x3), (4, .int x4)] → W p l e (RM 8) s m args below meth c H locs 0 0 (MQ below (QcW EC T D ad (69 + K) A Q1) args s 0 0 A) (F0 m 22 ls [])) → X22 x2 x3 x4 M) := ⟨fun (x2 : Int32) (x3 : Int32) (x4 : Int32) (M : Mem) => ∀ (H : Heap) (locs : List Loc) (ls : Array Slot), Zz EC T D ad (69 + K) A s.heap M H locs → lv_has ls 7 [(0, .ref (ad 0)), (1, .int x1), (2, .int x2), (3, .int x3), (4, .int x4)] → W p l e (RM 8) s m args below meth c H locs 0 0 (MQ below (QcW EC T D ad (69 + K) A Q1) args s 0 0 A) (F0 m 22 ls []), fun _ _ _ _ h => h, fun _ _ _ _ h => h⟩
  refine hX22 _ _ _ _ (hB X22 (fun x2 x3 x4 M hB => hY22 _ _ _ _ (fun H locs ls Z hl => ?_))) _ _ _ Z hl
  have hx := C.x
  have hb := C.b
  refine lv_iload hx hb dX11_helps_22 (lv_at hl 4 rfl) ?_
  refine lv_aload_n hx hb dX11_helps_24 rfl (lv_at hl 0 rfl) ?_
  refine gf_X11_5 C Z.1 tw_2_17 dX11_helps_25 ?_
  refine gf_X2_0 C Z.1 isH_0 tw_1_128 dX11_helps_28 ?_
  refine lv_icmp_ge (tgt := 119) hx hb dX11_helps_31 (by decide) (fun q5 => ?_) (fun q5 => ?_)
  · have hB := hB.1 q5
    refine lv_iload_n hx hb dX11_helps_119 rfl (lv_at hl 2 rfl) ?_
    refine lv_if_ge (tgt := 129) hx hb dX11_helps_120 (by decide) (fun q6 => ?_) (fun q6 => ?_)
    · have hB := hB.1 q6
      refine lv_iload_n hx hb dX11_helps_129 rfl (lv_at hl 1 rfl) ?_
      refine lv_if_ne (tgt := 137) hx hb dX11_helps_130 (by decide) (fun q7 => ?_) (fun q7 => ?_)
      · have hB := hB.1 q7
        refine lv_iload_n hx hb dX11_helps_137 rfl (lv_at hl 2 rfl) ?_
        exact e_iW C hr hlk Z dX11_helps_138 hB
      · have hB := hB.2 q7
        refine lv_iload_n hx hb dX11_helps_133 rfl (lv_at hl 3 rfl) ?_
        refine lv_goto (tgt := 138) hx hb dX11_helps_134 (by decide) ?_
        exact e_iW C hr hlk Z dX11_helps_138 hB
    · have hB := hB.2 q6
      refine lv_aload_n hx hb dX11_helps_123 rfl (lv_at hl 0 rfl) ?_
      refine lv_iconst (v := 2) hx hb dX11_helps_124 (by decide) ?_
      refine v_X11_error C hl.1 Z tw_2_56 ⟨Nat.le_of_ble_eq_true rfl, Nat.le_of_ble_eq_true rfl⟩ ⟨Nat.le_refl _, Nat.le_refl _⟩ (Nat.le_of_ble_eq_true rfl) dX11_helps_125 hB (fun v8 M9 H locs hB Z => ?_)
      exact e_iW C hr hlk Z dX11_helps_128 hB
  · have hB := hB.2 q5
    refine lv_iload hx hb dX11_helps_34 (lv_at hl 4 rfl) ?_
    refine lv_iconst (v := 1) hx hb dX11_helps_36 (by decide) ?_
    refine lv_iadd hx hb dX11_helps_37 ?_
    refine lv_topi (fun x5_10 ex5_10 => ?_)
    have hB := hB x5_10 ex5_10
    refine lv_istore (lv' := [(5, .int x5_10), (0, .ref (ad 0)), (1, .int x1), (2, .int x2), (3, .int x3), (4, .int x4)]) hx hb dX11_helps_38 hl (by decide) rfl (fun ls hl => ?_)
    exact w_X11_helps_40 C hr hlk Z hX22 (lv_sub hl [1, 2, 3, 4, 5, 0] rfl) hB
set_option maxRecDepth 100000 in
set_option maxHeartbeats 4000000 in
theorem c_X11_helps {l : Launch} {T : Nat → ClassId} {D : va_G} {ad : Nat → Nat} {K : Nat} {M : Mem} {x1 : Int32} {sz : Nat} {Q1 : Int32 → Mem → Prop} (hB : P_X11_helps K M x1 Q1) : Met l yX11_helps (Cond.code yX11_helps cX11_helps 7 (some .int) :: TB) (RM 8) (va_Pc [.ref (ad 0), .int x1] (WrP EC T D ad (69 + K) M sz)) (QcW EC T D ad (69 + K) (AA ad (69 + K) sz) Q1) 0 0 (AA ad (69 + K) sz) := by
  refine st_W (by decide) (Nat.le_of_ble_eq_true rfl) (fun p e s m args below meth c ls C hr hlk hsz Z hl => ?_)
  have hl : lv_has ls 7 [(0, .ref (ad 0)), (1, .int x1)] := hl
  generalize AA ad (69 + K) sz = A at Z ⊢
  have hx := C.x
  have hb := C.b
  delta P_X11_helps at hB
  refine lv_iload_n hx hb dX11_helps_0 rfl (lv_at hl 1 rfl) ?_
  refine lv_if_lt (tgt := 9) hx hb dX11_helps_1 (by decide) (fun q1 => ?_) (fun q1 => ?_)
  · have hB := hB.1 q1
    refine lv_aload_n hx hb dX11_helps_9 rfl (lv_at hl 0 rfl) ?_
    refine lv_iconst (v := 1) hx hb dX11_helps_10 (by decide) ?_
    refine v_X11_error C hl.1 Z tw_2_56 ⟨Nat.le_of_ble_eq_true rfl, Nat.le_of_ble_eq_true rfl⟩ ⟨Nat.le_refl _, Nat.le_refl _⟩ (Nat.le_of_ble_eq_true rfl) dX11_helps_11 hB (fun v2 M3 H locs hB Z => ?_)
    exact e_iW C hr hlk Z dX11_helps_14 hB
  · have hB := hB.2 q1
    refine lv_iload_n hx hb dX11_helps_4 rfl (lv_at hl 1 rfl) ?_
    refine lv_iconst (v := 1) hx hb dX11_helps_5 (by decide) ?_
    refine lv_icmp_le (tgt := 15) hx hb dX11_helps_6 (by decide) (fun q4 => ?_) (fun q4 => ?_)
    · have hB := hB.1 q4
      refine lv_iconst (v := (-1)) hx hb dX11_helps_15 (by decide) ?_
      refine lv_istore_n (lv' := [(2, .int (-1)), (0, .ref (ad 0)), (1, .int x1)]) hx hb dX11_helps_16 rfl hl (by decide) rfl (fun ls hl => ?_)
      refine lv_iconst (v := 0) hx hb dX11_helps_17 (by decide) ?_
      refine lv_istore_n (lv' := [(3, .int 0), (2, .int (-1)), (0, .ref (ad 0)), (1, .int x1)]) hx hb dX11_helps_18 rfl hl (by decide) rfl (fun ls hl => ?_)
      refine lv_iconst (v := 0) hx hb dX11_helps_19 (by decide) ?_
      refine lv_istore (lv' := [(4, .int 0), (3, .int 0), (2, .int (-1)), (0, .ref (ad 0)), (1, .int x1)]) hx hb dX11_helps_20 hl (by decide) rfl (fun ls hl => ?_)
      exact w_X11_helps_22 C hr hlk Z (lv_sub hl [3, 4, 2, 1, 0] rfl) hB
    · have hB := hB.2 q4
      refine lv_aload_n hx hb dX11_helps_9 rfl (lv_at hl 0 rfl) ?_
      refine lv_iconst (v := 1) hx hb dX11_helps_10 (by decide) ?_
      refine v_X11_error C hl.1 Z tw_2_56 ⟨Nat.le_of_ble_eq_true rfl, Nat.le_of_ble_eq_true rfl⟩ ⟨Nat.le_refl _, Nat.le_refl _⟩ (Nat.le_of_ble_eq_true rfl) dX11_helps_11 hB (fun v22 M23 H locs hB Z => ?_)
      exact e_iW C hr hlk Z dX11_helps_14 hB
set_option maxRecDepth 100000 in
set_option maxHeartbeats 4000000 in
theorem v_X11_helps {K : Nat} {M : Mem} {x1 : Int32} {Q1 : Int32 → Mem → Prop} (C : Cx T D p s m args c cc nL own) (hls : ls.size = nL) (Z : Zz EC T D ad (69 + K) A H0 M H locs) (hlink : Cond.methodLink own index yX11_helps ∈ TB) (hR : 8 + 1 ≤ R.frames ∧ 8 + (7 + 11) + 48 * 8 ≤ R.locals) (hcs : cells ≤ R.cells ∧ slots ≤ R.slots) (hcat : (rest.map fun v => v.category).sum ≤ 8) (hdg : decode cc pc = .ok (.invokevirtual index, 3)) (hB : P_X11_helps K M x1 Q1)
    (kk : ∀ (r : Int32) (M1 : Mem) (H1 : Heap) (locs1 : List Loc), Q1 r M1 → Zz EC T D ad (69 + K) A H0 M1 H1 locs1 → W p l e R s m args below meth c H1 locs1 cells slots QQ (F0 m (pc + 3) ls (.int r :: rest))) : W p l e R s m args below meth c H locs cells slots QQ (F0 m pc ls (.int x1 :: .ref (ad 0) :: rest)) :=
  k_VW (ci := 11) (n := 1) (c_X11_helps hB) tw_4_167 tw_4_165 tw_4_166 tw_1_1 ⟨rfl, by decide, by decide, by decide +kernel⟩ rfl rfl C hls Z oO hlink hR hcs hcat rfl hdg kk
def P_X11_isSheet (x0 : Int32) (Q1 : Int32 → Prop) : Prop :=
  ((x0 < 0 → Q1 0) ∧
    (¬ x0 < 0 → ((4 ≤ x0 → Q1 0) ∧
      (¬ 4 ≤ x0 → Q1 1))))
set_option maxRecDepth 100000 in
set_option maxHeartbeats 4000000 in
theorem c_X11_isSheet {l : Launch} {x0 : Int32} {Q1 : Int32 → Prop} (hB : P_X11_isSheet x0 Q1) : Met l yX11_isSheet (Cond.code yX11_isSheet cX11_isSheet 1 (some .boolean) :: TB) (RM 1) (va_Pc [.int x0] StP) (QcR Q1) 0 0 (fun _ => False) := by
  refine st_S (by decide) (Nat.le_of_ble_eq_true rfl) (fun p e s m args below meth c ls C hr hlk hl => ?_)
  have hl : lv_has ls 1 [(0, .int x0)] := hl
  have hx := C.1
  have hb := C.2.1
  delta P_X11_isSheet at hB
  refine lv_iload_n hx hb dX11_isSheet_0 rfl (lv_at hl 0 rfl) ?_
  refine lv_if_lt (tgt := 13) hx hb dX11_isSheet_1 (by decide) (fun q1 => ?_) (fun q1 => ?_)
  · have hB := hB.1 q1
    refine lv_iconst (v := 0) hx hb dX11_isSheet_13 (by decide) ?_
    exact e_zR C hr hlk dX11_isSheet_14 (Or.inl rfl) hB
  · have hB := hB.2 q1
    refine lv_iload_n hx hb dX11_isSheet_4 rfl (lv_at hl 0 rfl) ?_
    refine lv_iconst (v := 4) hx hb dX11_isSheet_5 (by decide) ?_
    refine lv_icmp_ge (tgt := 13) hx hb dX11_isSheet_6 (by decide) (fun q2 => ?_) (fun q2 => ?_)
    · have hB := hB.1 q2
      refine lv_iconst (v := 0) hx hb dX11_isSheet_13 (by decide) ?_
      exact e_zR C hr hlk dX11_isSheet_14 (Or.inl rfl) hB
    · have hB := hB.2 q2
      refine lv_iconst (v := 1) hx hb dX11_isSheet_9 (by decide) ?_
      refine lv_goto (tgt := 14) hx hb dX11_isSheet_10 (by decide) ?_
      exact e_zR C hr hlk dX11_isSheet_14 (Or.inr rfl) hB
set_option maxRecDepth 100000 in
set_option maxHeartbeats 4000000 in
theorem v_X11_isSheet {x0 : Int32} {Q1 : Int32 → Prop} (C : CallFix p m c cc nL s args TB own) (hls : ls.size = nL) (hlink : Cond.methodLink own index yX11_isSheet ∈ TB) (hR : 1 + 1 ≤ R.frames ∧ 8 + (1 + 11) + 48 * 1 ≤ R.locals) (hcs : cells ≤ R.cells ∧ slots ≤ R.slots) (hcat : (rest.map fun v => v.category).sum ≤ 8) (hdg : decode cc pc = .ok (.invokestatic index, 3)) (hB : P_X11_isSheet x0 Q1)
    (kk : ∀ r : Int32, Q1 r → W p l e R s m args below meth c H locs cells slots QQ (F0 m (pc + 3) ls (.int r :: rest))) : W p l e R s m args below meth c H locs cells slots QQ (F0 m pc ls (.int x0 :: rest)) :=
  k_S (n := 1) (c_X11_isSheet hB) tw_4_178 tw_4_177 tw_1_1 ⟨by decide, by decide, by decide +kernel⟩ rfl C hls  hlink hR hcs hcat rfl hdg kk
def B_X2_firstUnlike_14 (K : Nat) (g : Nat) (r1 : Nat) (M : Mem) (Q1 : Int32 → Prop) (x2 : Int32) (x3 : Int32) : Prop :=
  ∀ X14 : Int32 → Prop, (∀ (x3 : Int32), (((x2 ≤ x3 → ((¬ (M r1 1) = (M g 0) → Q1 x2) ∧
      ((M r1 1) = (M g 0) → Q1 (-1)))) ∧
    (¬ x2 ≤ x3 → vp_in x3 (rLen r1) ∧ vp_in x3 8 ∧ (((M (r1 + 1) x3.toNatClampNeg) = (M (g + 2) x3.toNatClampNeg) → ∀ x3_7 : Int32, x3_7 = x3 + 1 → X14 x3_7) ∧
      (¬ (M (r1 + 1) x3.toNatClampNeg) = (M (g + 2) x3.toNatClampNeg) → Q1 x3))))) → X14 x3) → X14 x3
def P_X2_firstUnlike (K : Nat) (M : Mem) (g : Nat) (r1 : Nat) (Q1 : Int32 → Prop) : Prop :=
  ∀ v1 : Int32, v1 = (if (M g 0) < (M r1 1) then (M g 0) else (M r1 1)) → B_X2_firstUnlike_14 K g r1 M Q1 v1 0
set_option maxRecDepth 100000 in
set_option maxHeartbeats 4000000 in
theorem w_X2_firstUnlike_14 {K : Nat} {g : Nat} {r1 : Nat} {M : Mem} {Q1 : Int32 → Prop} {x2 : Int32} {x3 : Int32} (C : Cx T D p s m args c cX2_firstUnlike 4 "OneOfTwo$House") (hr : meth.sig.returnType = (some .int)) (hlk : meth.locks = false) (hP : Pw EC T D ad (69 + K) M s.heap) (hg : isH g) (f1 : isR r1) {ls : Array Slot} (hl : lv_has ls 4 [(0, .ref (ad g)), (1, .ref (ad r1)), (2, .int x2), (3, .int x3)]) (hB : B_X2_firstUnlike_14 K g r1 M Q1 x2 x3) : W p l e (RM 2) s m args below meth c s.heap [] 0 0 (MQ below (QcR Q1) args s 0 0 (fun _ => False)) (F0 m 14 ls []) := by
  delta B_X2_firstUnlike_14 at hB
  obtain ⟨X14, hX14, hY14⟩ : ∃ X14 : Int32 → Prop, (∀ (x3 : Int32), X14 x3 → ∀ (ls : Array Slot), lv_has ls 4 [(0, .ref (ad g)), (1, .ref (ad r1)), (2, .int x2), (3, .int x3)] → W p l e (RM 2) s m args below meth c s.heap [] 0 0 (MQ below (QcR Q1) args s 0 0 (fun _ => False)) (F0 m 14 ls [])) ∧ (∀ (x3 : Int32), (∀ (ls : Array Slot), lv_has ls 4 [(0, .ref (ad g)), (1, .ref (ad r1)), (2, .int x2), (3, .int x3)] → W p l e (RM 2) s m args below meth c s.heap [] 0 0 (MQ below (QcR Q1) args s 0 0 (fun _ => False)) (F0 m 14 ls [])) → X14 x3) := ⟨fun (x3 : Int32) => ∀ (ls : Array Slot), lv_has ls 4 [(0, .ref (ad g)), (1, .ref (ad r1)), (2, .int x2), (3, .int x3)] → W p l e (RM 2) s m args below meth c s.heap [] 0 0 (MQ below (QcR Q1) args s 0 0 (fun _ => False)) (F0 m 14 ls []), fun _ h => h, fun _ h => h⟩
  refine hX14 _ (hB X14 (fun x3 hB => hY14 _ (fun ls hl => ?_))) _ hl
  have hx := C.x
  have hb := C.b
  refine lv_iload_n hx hb dX2_firstUnlike_14 rfl (lv_at hl 3 rfl) ?_
  refine lv_iload_n hx hb dX2_firstUnlike_15 rfl (lv_at hl 2 rfl) ?_
  refine lv_icmp_ge (tgt := 42) hx hb dX2_firstUnlike_16 (by decide) (fun q2 => ?_) (fun q2 => ?_)
  · have hB := hB.1 q2
    refine lv_aload_n hx hb dX2_firstUnlike_42 rfl (lv_at hl 1 rfl) ?_
    refine gf_X4_1 C hP f1 tw_1_46 dX2_firstUnlike_43 ?_
    refine lv_aload_n hx hb dX2_firstUnlike_46 rfl (lv_at hl 0 rfl) ?_
    refine gf_X2_0 C hP hg tw_1_127 dX2_firstUnlike_47 ?_
    refine lv_icmp_ne (tgt := 57) hx hb dX2_firstUnlike_50 (by decide) (fun q3 => ?_) (fun q3 => ?_)
    · have hB := hB.1 q3
      refine lv_iload_n hx hb dX2_firstUnlike_57 rfl (lv_at hl 2 rfl) ?_
      exact e_iR C.1 hr hlk dX2_firstUnlike_58 hB
    · have hB := hB.2 q3
      refine lv_iconst (v := (-1)) hx hb dX2_firstUnlike_53 (by decide) ?_
      refine lv_goto (tgt := 58) hx hb dX2_firstUnlike_54 (by decide) ?_
      exact e_iR C.1 hr hlk dX2_firstUnlike_58 hB
  · have hB := hB.2 q2
    refine lv_aload_n hx hb dX2_firstUnlike_19 rfl (lv_at hl 1 rfl) ?_
    refine gf_X4_0 C hP f1 tw_1_42 dX2_firstUnlike_20 ?_
    refine lv_iload_n hx hb dX2_firstUnlike_23 rfl (lv_at hl 3 rfl) ?_
    obtain ⟨q4, hB⟩ := hB
    refine a_ld C hP (aR f1) q4 dX2_firstUnlike_24 ?_
    refine lv_aload_n hx hb dX2_firstUnlike_25 rfl (lv_at hl 0 rfl) ?_
    refine gf_X2_4 C hP hg tw_1_139 dX2_firstUnlike_26 ?_
    refine lv_iload_n hx hb dX2_firstUnlike_29 rfl (lv_at hl 3 rfl) ?_
    obtain ⟨q5, hB⟩ := hB
    refine a_ld C hP (aH_2 hg) q5 dX2_firstUnlike_30 ?_
    refine lv_icmp_eq (tgt := 36) hx hb dX2_firstUnlike_31 (by decide) (fun q6 => ?_) (fun q6 => ?_)
    · have hB := hB.1 q6
      obtain ⟨x3_7, ex3_7⟩ : ∃ y : Int32, y = x3 + 1 := ⟨_, rfl⟩
      have hB := hB x3_7 ex3_7
      refine lv_iinc (v := x3_7) (lv' := [(3, .int x3_7), (0, .ref (ad g)), (1, .ref (ad r1)), (2, .int x2)]) hx hb dX2_firstUnlike_36 hl (k := 3) rfl (by rw [ex3_7]; rfl) (by decide) rfl (fun ls hl => ?_)
      refine lv_goto (tgt := 14) hx hb dX2_firstUnlike_39 (by decide) ?_
      exact hX14 _ hB _ (lv_sub hl [1, 2, 3, 0] rfl)
    · have hB := hB.2 q6
      refine lv_iload_n hx hb dX2_firstUnlike_34 rfl (lv_at hl 3 rfl) ?_
      exact e_iR C.1 hr hlk dX2_firstUnlike_35 hB
set_option maxRecDepth 100000 in
set_option maxHeartbeats 4000000 in
theorem c_X2_firstUnlike {l : Launch} {T : Nat → ClassId} {D : va_G} {ad : Nat → Nat} {K : Nat} {M : Mem} {g : Nat} {r1 : Nat} {Q1 : Int32 → Prop} (hg : isH g) (f1 : isR r1) (hB : P_X2_firstUnlike K M g r1 Q1) : Met l yX2_firstUnlike (Cond.code yX2_firstUnlike cX2_firstUnlike 4 (some .int) :: TB) (RM 2) (va_Pc [.ref (ad g), .ref (ad r1)] (RdP EC T D ad (69 + K) M)) (QcR Q1) 0 0 (fun _ => False) := by
  refine st_R (by decide) (Nat.le_of_ble_eq_true rfl) (fun p e s m args below meth c ls C hr hlk hP hl => ?_)
  have hl : lv_has ls 4 [(0, .ref (ad g)), (1, .ref (ad r1))] := hl
  have hx := C.x
  have hb := C.b
  delta P_X2_firstUnlike at hB
  refine lv_aload_n hx hb dX2_firstUnlike_0 rfl (lv_at hl 1 rfl) ?_
  refine gf_X4_1 C hP f1 tw_1_46 dX2_firstUnlike_1 ?_
  refine lv_aload_n hx hb dX2_firstUnlike_4 rfl (lv_at hl 0 rfl) ?_
  refine gf_X2_0 C hP hg tw_1_127 dX2_firstUnlike_5 ?_
  refine m_min C.1 hl.1 tw_2_166 (Nat.le_of_ble_eq_true rfl) (Nat.le_of_ble_eq_true rfl) dX2_firstUnlike_8 ?_
  refine lv_topi (fun v1 ev1 => ?_)
  have hB := hB v1 ev1
  refine lv_istore_n (lv' := [(2, .int v1), (0, .ref (ad g)), (1, .ref (ad r1))]) hx hb dX2_firstUnlike_11 rfl hl (by decide) rfl (fun ls hl => ?_)
  refine lv_iconst (v := 0) hx hb dX2_firstUnlike_12 (by decide) ?_
  refine lv_istore_n (lv' := [(3, .int 0), (2, .int v1), (0, .ref (ad g)), (1, .ref (ad r1))]) hx hb dX2_firstUnlike_13 rfl hl (by decide) rfl (fun ls hl => ?_)
  exact w_X2_firstUnlike_14 C hr hlk hP hg f1 (lv_sub hl [2, 3, 1, 0] rfl) hB
set_option maxRecDepth 100000 in
set_option maxHeartbeats 4000000 in
theorem v_X2_firstUnlike {K : Nat} {M : Mem} {g : Nat} {r1 : Nat} {Q1 : Int32 → Prop} (C : Cx T D p s m args c cc nL own) (hls : ls.size = nL) (hP : Pw EC T D ad (69 + K) M H) (hg : isH g) (f1 : isR r1) (hlink : Cond.methodLink own index yX2_firstUnlike ∈ TB) (hR : 2 + 1 ≤ R.frames ∧ 8 + (4 + 11) + 48 * 2 ≤ R.locals) (hcs : cells ≤ R.cells ∧ slots ≤ R.slots) (hcat : (rest.map fun v => v.category).sum ≤ 8) (hdg : decode cc pc = .ok (.invokevirtual index, 3)) (hB : P_X2_firstUnlike K M g r1 Q1)
    (kk : ∀ r : Int32, Q1 r → W p l e R s m args below meth c H locs cells slots QQ (F0 m (pc + 3) ls (.int r :: rest))) : W p l e R s m args below meth c H locs cells slots QQ (F0 m pc ls (.ref (ad r1) :: .ref (ad g) :: rest)) :=
  k_V (ci := 2) (n := 1) (c_X2_firstUnlike hg f1 hB) tw_4_186 tw_4_184 tw_4_185 tw_1_10 ⟨rfl, by decide, by decide, by decide +kernel⟩ rfl rfl C hls hP (oH hg) hlink hR hcs hcat rfl hdg kk
def P_X11_wouldStandSo (K : Nat) (M : Mem) (x1 : Int32) (r2 : Nat) (Q1 : Int32 → Mem → Prop) : Prop :=
  P_X2_copyFrom K M 43 30 (fun M1 => P_X2_turnOf K M1 43 x1 (fun v2 M3 => ((v2 ≤ 0 → Q1 0 M3) ∧
    (¬ v2 ≤ 0 → P_X2_firstUnlike K M3 43 r2 (fun v5 => ((0 ≤ v5 → Q1 0 M3) ∧
      (¬ 0 ≤ v5 → Q1 1 M3)))))))
set_option maxRecDepth 100000 in
set_option maxHeartbeats 4000000 in
theorem c_X11_wouldStandSo {l : Launch} {T : Nat → ClassId} {D : va_G} {ad : Nat → Nat} {K : Nat} {M : Mem} {x1 : Int32} {r2 : Nat} {sz : Nat} {Q1 : Int32 → Mem → Prop} (f2 : isR r2) (hB : P_X11_wouldStandSo K M x1 r2 Q1) : Met l yX11_wouldStandSo (Cond.code yX11_wouldStandSo cX11_wouldStandSo 3 (some .boolean) :: TB) (RM 6) (va_Pc [.ref (ad 0), .int x1, .ref (ad r2)] (WrP EC T D ad (69 + K) M sz)) (QcW EC T D ad (69 + K) (AA ad (69 + K) sz) Q1) 0 0 (AA ad (69 + K) sz) := by
  refine st_W (by decide) (Nat.le_of_ble_eq_true rfl) (fun p e s m args below meth c ls C hr hlk hsz Z hl => ?_)
  have hl : lv_has ls 3 [(0, .ref (ad 0)), (1, .int x1), (2, .ref (ad r2))] := hl
  generalize AA ad (69 + K) sz = A at Z ⊢
  have hx := C.x
  have hb := C.b
  delta P_X11_wouldStandSo at hB
  refine lv_aload_n hx hb dX11_wouldStandSo_0 rfl (lv_at hl 0 rfl) ?_
  refine gf_X11_6 C Z.1 tw_2_18 dX11_wouldStandSo_1 ?_
  refine lv_aload_n hx hb dX11_wouldStandSo_4 rfl (lv_at hl 0 rfl) ?_
  refine gf_X11_5 C Z.1 tw_2_17 dX11_wouldStandSo_5 ?_
  refine v_X2_copyFrom C hl.1 Z isH_1 isH_0 tw_4_79 ⟨Nat.le_of_ble_eq_true rfl, Nat.le_of_ble_eq_true rfl⟩ ⟨Nat.le_refl _, Nat.le_refl _⟩ (Nat.le_of_ble_eq_true rfl) dX11_wouldStandSo_8 hB (fun M1 H locs hB Z => ?_)
  refine lv_aload_n hx hb dX11_wouldStandSo_11 rfl (lv_at hl 0 rfl) ?_
  refine gf_X11_6 C Z.1 tw_2_18 dX11_wouldStandSo_12 ?_
  refine lv_iload_n hx hb dX11_wouldStandSo_15 rfl (lv_at hl 1 rfl) ?_
  refine v_X2_turnOf C hl.1 Z isH_1 tw_4_15 ⟨Nat.le_of_ble_eq_true rfl, Nat.le_of_ble_eq_true rfl⟩ ⟨Nat.le_refl _, Nat.le_refl _⟩ (Nat.le_of_ble_eq_true rfl) dX11_wouldStandSo_16 hB (fun v2 M3 H locs hB Z => ?_)
  refine lv_if_le (tgt := 37) hx hb dX11_wouldStandSo_19 (by decide) (fun q4 => ?_) (fun q4 => ?_)
  · have hB := hB.1 q4
    refine lv_iconst (v := 0) hx hb dX11_wouldStandSo_37 (by decide) ?_
    exact e_zW C hr hlk Z dX11_wouldStandSo_38 (Or.inl rfl) hB
  · have hB := hB.2 q4
    refine lv_aload_n hx hb dX11_wouldStandSo_22 rfl (lv_at hl 0 rfl) ?_
    refine gf_X11_6 C Z.1 tw_2_18 dX11_wouldStandSo_23 ?_
    refine lv_aload_n hx hb dX11_wouldStandSo_26 rfl (lv_at hl 2 rfl) ?_
    refine v_X2_firstUnlike C hl.1 Z.1 isH_1 f2 tw_4_183 ⟨Nat.le_of_ble_eq_true rfl, Nat.le_of_ble_eq_true rfl⟩ ⟨Nat.le_refl _, Nat.le_refl _⟩ (Nat.le_of_ble_eq_true rfl) dX11_wouldStandSo_27 hB (fun v5 hB => ?_)
    refine lv_if_ge (tgt := 37) hx hb dX11_wouldStandSo_30 (by decide) (fun q6 => ?_) (fun q6 => ?_)
    · have hB := hB.1 q6
      refine lv_iconst (v := 0) hx hb dX11_wouldStandSo_37 (by decide) ?_
      exact e_zW C hr hlk Z dX11_wouldStandSo_38 (Or.inl rfl) hB
    · have hB := hB.2 q6
      refine lv_iconst (v := 1) hx hb dX11_wouldStandSo_33 (by decide) ?_
      refine lv_goto (tgt := 38) hx hb dX11_wouldStandSo_34 (by decide) ?_
      exact e_zW C hr hlk Z dX11_wouldStandSo_38 (Or.inr rfl) hB
set_option maxRecDepth 100000 in
set_option maxHeartbeats 4000000 in
theorem v_X11_wouldStandSo {K : Nat} {M : Mem} {x1 : Int32} {r2 : Nat} {Q1 : Int32 → Mem → Prop} (C : Cx T D p s m args c cc nL own) (hls : ls.size = nL) (Z : Zz EC T D ad (69 + K) A H0 M H locs) (f2 : isR r2) (hlink : Cond.methodLink own index yX11_wouldStandSo ∈ TB) (hR : 6 + 1 ≤ R.frames ∧ 8 + (3 + 11) + 48 * 6 ≤ R.locals) (hcs : cells ≤ R.cells ∧ slots ≤ R.slots) (hcat : (rest.map fun v => v.category).sum ≤ 8) (hdg : decode cc pc = .ok (.invokevirtual index, 3)) (hB : P_X11_wouldStandSo K M x1 r2 Q1)
    (kk : ∀ (r : Int32) (M1 : Mem) (H1 : Heap) (locs1 : List Loc), Q1 r M1 → Zz EC T D ad (69 + K) A H0 M1 H1 locs1 → W p l e R s m args below meth c H1 locs1 cells slots QQ (F0 m (pc + 3) ls (.int r :: rest))) : W p l e R s m args below meth c H locs cells slots QQ (F0 m pc ls (.ref (ad r2) :: .int x1 :: .ref (ad 0) :: rest)) :=
  k_VW (ci := 11) (n := 2) (c_X11_wouldStandSo f2 hB) tw_4_182 tw_4_181 tw_s_19 tw_1_1 ⟨rfl, by decide, by decide, by decide +kernel⟩ rfl rfl C hls Z oO hlink hR hcs hcat rfl hdg kk
def B_X11_who_52 (K : Nat) (Q1 : Int32 → Mem → Prop) (r2 : Nat) (x3 : Int32) (x4 : Int32) (M : Mem) : Prop :=
  ∀ X52 : Int32 → Int32 → Mem → Prop, (∀ (x3 : Int32) (x4 : Int32) (M : Mem), ((((M 30 2) ≤ x4 → Q1 x3 M) ∧
    (¬ (M 30 2) ≤ x4 → P_X11_wouldStandSo K M x4 r2 (fun v9 M10 => ((v9 = 0 → ∀ x4_12 : Int32, x4_12 = x4 + 1 → X52 x3 x4_12 M10) ∧
      (¬ v9 = 0 → ∀ x3_13 : Int32, x3_13 = x3 ||| (1 <<< (x4 &&& 31)) → ∀ x4_14 : Int32, x4_14 = x4 + 1 → X52 x3_13 x4_14 M10)))))) → X52 x3 x4 M) → X52 x3 x4 M
def P_X11_who (K : Nat) (M : Mem) (x1 : Int32) (Q1 : Int32 → Mem → Prop) : Prop :=
  P_X11_isSheet x1 (fun v1 => ((¬ v1 = 0 → vp_in x1 4 ∧ (((M (22 + 2 * x1.toNatClampNeg) 2) = 0 → P_X11_error K M 2 (fun v5 M6 => Q1 v5 M6)) ∧
      (¬ (M (22 + 2 * x1.toNatClampNeg) 2) = 0 → (((M (22 + 2 * x1.toNatClampNeg) 1) = (M 30 0) → B_X11_who_52 K Q1 (22 + 2 * x1.toNatClampNeg) 0 0 M) ∧
        (¬ (M (22 + 2 * x1.toNatClampNeg) 1) = (M 30 0) → P_X11_error K M 2 (fun v15 M16 => Q1 v15 M16)))))) ∧
    (v1 = 0 → P_X11_error K M 1 (fun v17 M18 => Q1 v17 M18))))
set_option maxRecDepth 100000 in
set_option maxHeartbeats 4000000 in
theorem w_X11_who_52 {K : Nat} {M : Mem} {Q1 : Int32 → Mem → Prop} {r2 : Nat} {x3 : Int32} {x4 : Int32} (C : Cx T D p s m args c cX11_who 5 "OneOfTwo") (hr : meth.sig.returnType = (some .int)) (hlk : meth.locks = false) (Z : Zz EC T D ad (69 + K) A s.heap M H locs) (f2 : isR r2) {ls : Array Slot} (hl : lv_has ls 5 [(0, .ref (ad 0)), (2, .ref (ad r2)), (3, .int x3), (4, .int x4)]) (hB : B_X11_who_52 K Q1 r2 x3 x4 M) : W p l e (RM 7) s m args below meth c H locs 0 0 (MQ below (QcW EC T D ad (69 + K) A Q1) args s 0 0 A) (F0 m 52 ls []) := by
  delta B_X11_who_52 at hB
  obtain ⟨X52, hX52, hY52⟩ : ∃ X52 : Int32 → Int32 → Mem → Prop, (∀ (x3 : Int32) (x4 : Int32) (M : Mem), X52 x3 x4 M → ∀ (H : Heap) (locs : List Loc) (ls : Array Slot), Zz EC T D ad (69 + K) A s.heap M H locs → lv_has ls 5 [(0, .ref (ad 0)), (2, .ref (ad r2)), (3, .int x3), (4, .int x4)] → W p l e (RM 7) s m args below meth c H locs 0 0 (MQ below (QcW EC T D ad (69 + K) A Q1) args s 0 0 A) (F0 m 52 ls [])) ∧ (∀ (x3 : Int32) (x4 : Int32) (M : Mem), (∀ (H : Heap) (locs : List Loc) (ls : Array Slot), Zz EC T D ad (69 + K) A s.heap M H locs → lv_has ls 5 [(0, .ref (ad 0)), (2, .ref (ad r2)), (3, .int x3), (4, .int x4)] → W p l e (RM 7) s m args below meth c H locs 0 0 (MQ below (QcW EC T D ad (69 + K) A Q1) args s 0 0 A) (F0 m 52 ls [])) → X52 x3 x4 M) := ⟨fun (x3 : Int32) (x4 : Int32) (M : Mem) => ∀ (H : Heap) (locs : List Loc) (ls : Array Slot), Zz EC T D ad (69 + K) A s.heap M H locs → lv_has ls 5 [(0, .ref (ad 0)), (2, .ref (ad r2)), (3, .int x3), (4, .int x4)] → W p l e (RM 7) s m args below meth c H locs 0 0 (MQ below (QcW EC T D ad (69 + K) A Q1) args s 0 0 A) (F0 m 52 ls []), fun _ _ _ h => h, fun _ _ _ h => h⟩
  refine hX52 _ _ _ (hB X52 (fun x3 x4 M hB => hY52 _ _ _ (fun H locs ls Z hl => ?_))) _ _ _ Z hl
  have hx := C.x
  have hb := C.b
  refine lv_iload hx hb dX11_who_52 (lv_at hl 3 rfl) ?_
  refine lv_aload_n hx hb dX11_who_54 rfl (lv_at hl 0 rfl) ?_
  refine gf_X11_5 C Z.1 tw_2_17 dX11_who_55 ?_
  refine gf_X2_2 C Z.1 isH_0 tw_1_135 dX11_who_58 ?_
  refine lv_icmp_ge (tgt := 87) hx hb dX11_who_61 (by decide) (fun q8 => ?_) (fun q8 => ?_)
  · have hB := hB.1 q8
    refine lv_iload_n hx hb dX11_who_87 rfl (lv_at hl 2 rfl) ?_
    exact e_iW C hr hlk Z dX11_who_88 hB
  · have hB := hB.2 q8
    refine lv_aload_n hx hb dX11_who_64 rfl (lv_at hl 0 rfl) ?_
    refine lv_iload hx hb dX11_who_65 (lv_at hl 3 rfl) ?_
    refine lv_aload_n hx hb dX11_who_67 rfl (lv_at hl 1 rfl) ?_
    refine v_X11_wouldStandSo C hl.1 Z f2 tw_4_179 ⟨Nat.le_of_ble_eq_true rfl, Nat.le_of_ble_eq_true rfl⟩ ⟨Nat.le_refl _, Nat.le_refl _⟩ (Nat.le_of_ble_eq_true rfl) dX11_who_68 hB (fun v9 M10 H locs hB Z => ?_)
    refine lv_if_eq (tgt := 81) hx hb dX11_who_71 (by decide) (fun q11 => ?_) (fun q11 => ?_)
    · have hB := hB.1 q11
      obtain ⟨x4_12, ex4_12⟩ : ∃ y : Int32, y = x4 + 1 := ⟨_, rfl⟩
      have hB := hB x4_12 ex4_12
      refine lv_iinc (v := x4_12) (lv' := [(4, .int x4_12), (0, .ref (ad 0)), (2, .ref (ad r2)), (3, .int x3)]) hx hb dX11_who_81 hl (k := 3) rfl (by rw [ex4_12]; rfl) (by decide) rfl (fun ls hl => ?_)
      refine lv_goto (tgt := 52) hx hb dX11_who_84 (by decide) ?_
      exact hX52 _ _ _ hB _ _ _ Z (lv_sub hl [1, 2, 3, 0] rfl)
    · have hB := hB.2 q11
      refine lv_iload_n hx hb dX11_who_74 rfl (lv_at hl 2 rfl) ?_
      refine lv_iconst (v := 1) hx hb dX11_who_75 (by decide) ?_
      refine lv_iload hx hb dX11_who_76 (lv_at hl 3 rfl) ?_
      refine lv_ishl hx hb dX11_who_78 ?_
      refine lv_ior hx hb dX11_who_79 ?_
      refine lv_topi (fun x3_13 ex3_13 => ?_)
      have hB := hB x3_13 ex3_13
      refine lv_istore_n (lv' := [(3, .int x3_13), (0, .ref (ad 0)), (2, .ref (ad r2)), (4, .int x4)]) hx hb dX11_who_80 rfl hl (by decide) rfl (fun ls hl => ?_)
      obtain ⟨x4_14, ex4_14⟩ : ∃ y : Int32, y = x4 + 1 := ⟨_, rfl⟩
      have hB := hB x4_14 ex4_14
      refine lv_iinc (v := x4_14) (lv' := [(4, .int x4_14), (3, .int x3_13), (0, .ref (ad 0)), (2, .ref (ad r2))]) hx hb dX11_who_81 hl (k := 3) rfl (by rw [ex4_14]; rfl) (by decide) rfl (fun ls hl => ?_)
      refine lv_goto (tgt := 52) hx hb dX11_who_84 (by decide) ?_
      exact hX52 _ _ _ hB _ _ _ Z (lv_sub hl [2, 3, 1, 0] rfl)
set_option maxRecDepth 100000 in
set_option maxHeartbeats 4000000 in
theorem c_X11_who {l : Launch} {T : Nat → ClassId} {D : va_G} {ad : Nat → Nat} {K : Nat} {M : Mem} {x1 : Int32} {sz : Nat} {Q1 : Int32 → Mem → Prop} (hB : P_X11_who K M x1 Q1) : Met l yX11_who (Cond.code yX11_who cX11_who 5 (some .int) :: TB) (RM 7) (va_Pc [.ref (ad 0), .int x1] (WrP EC T D ad (69 + K) M sz)) (QcW EC T D ad (69 + K) (AA ad (69 + K) sz) Q1) 0 0 (AA ad (69 + K) sz) := by
  refine st_W (by decide) (Nat.le_of_ble_eq_true rfl) (fun p e s m args below meth c ls C hr hlk hsz Z hl => ?_)
  have hl : lv_has ls 5 [(0, .ref (ad 0)), (1, .int x1)] := hl
  generalize AA ad (69 + K) sz = A at Z ⊢
  have hx := C.x
  have hb := C.b
  delta P_X11_who at hB
  refine lv_iload_n hx hb dX11_who_0 rfl (lv_at hl 1 rfl) ?_
  refine v_X11_isSheet C.1 hl.1 tw_4_176 ⟨Nat.le_of_ble_eq_true rfl, Nat.le_of_ble_eq_true rfl⟩ ⟨Nat.le_refl _, Nat.le_refl _⟩ (Nat.le_of_ble_eq_true rfl) dX11_who_1 hB (fun v1 hB => ?_)
  refine lv_if_ne (tgt := 13) hx hb dX11_who_4 (by decide) (fun q2 => ?_) (fun q2 => ?_)
  · have hB := hB.1 q2
    refine lv_aload_n hx hb dX11_who_13 rfl (lv_at hl 0 rfl) ?_
    refine gf_X11_2 C Z.1 tw_2_14 dX11_who_14 ?_
    refine lv_iload_n hx hb dX11_who_17 rfl (lv_at hl 1 rfl) ?_
    obtain ⟨q3, hB⟩ := hB
    refine sa_ld C Z.1 q3 dX11_who_18 ?_
    refine lv_astore_n (lv' := [(2, .ref (ad (22 + 2 * x1.toNatClampNeg))), (0, .ref (ad 0)), (1, .int x1)]) hx hb dX11_who_19 rfl hl (by decide) rfl (fun ls hl => ?_)
    refine lv_aload_n hx hb dX11_who_20 rfl (lv_at hl 0 rfl) ?_
    refine gf_X4_2 C Z.1 (isR_s q3) tw_1_49 dX11_who_21 ?_
    refine lv_if_eq (tgt := 41) hx hb dX11_who_24 (by decide) (fun q4 => ?_) (fun q4 => ?_)
    · have hB := hB.1 q4
      refine lv_aload_n hx hb dX11_who_41 rfl (lv_at hl 1 rfl) ?_
      refine lv_iconst (v := 2) hx hb dX11_who_42 (by decide) ?_
      refine v_X11_error C hl.1 Z tw_2_56 ⟨Nat.le_of_ble_eq_true rfl, Nat.le_of_ble_eq_true rfl⟩ ⟨Nat.le_refl _, Nat.le_refl _⟩ (Nat.le_of_ble_eq_true rfl) dX11_who_43 hB (fun v5 M6 H locs hB Z => ?_)
      exact e_iW C hr hlk Z dX11_who_46 hB
    · have hB := hB.2 q4
      refine lv_aload_n hx hb dX11_who_27 rfl (lv_at hl 0 rfl) ?_
      refine gf_X4_1 C Z.1 (isR_s q3) tw_1_47 dX11_who_28 ?_
      refine lv_aload_n hx hb dX11_who_31 rfl (lv_at hl 1 rfl) ?_
      refine gf_X11_5 C Z.1 tw_2_17 dX11_who_32 ?_
      refine gf_X2_0 C Z.1 isH_0 tw_1_128 dX11_who_35 ?_
      refine lv_icmp_eq (tgt := 47) hx hb dX11_who_38 (by decide) (fun q7 => ?_) (fun q7 => ?_)
      · have hB := hB.1 q7
        refine lv_iconst (v := 0) hx hb dX11_who_47 (by decide) ?_
        refine lv_istore_n (lv' := [(3, .int 0), (2, .ref (ad (22 + 2 * x1.toNatClampNeg))), (0, .ref (ad 0)), (1, .int x1)]) hx hb dX11_who_48 rfl hl (by decide) rfl (fun ls hl => ?_)
        refine lv_iconst (v := 0) hx hb dX11_who_49 (by decide) ?_
        refine lv_istore (lv' := [(4, .int 0), (3, .int 0), (2, .ref (ad (22 + 2 * x1.toNatClampNeg))), (0, .ref (ad 0)), (1, .int x1)]) hx hb dX11_who_50 hl (by decide) rfl (fun ls hl => ?_)
        exact w_X11_who_52 C hr hlk Z (isR_s q3) (lv_sub hl [3, 2, 1, 0] rfl) hB
      · have hB := hB.2 q7
        refine lv_aload_n hx hb dX11_who_41 rfl (lv_at hl 1 rfl) ?_
        refine lv_iconst (v := 2) hx hb dX11_who_42 (by decide) ?_
        refine v_X11_error C hl.1 Z tw_2_56 ⟨Nat.le_of_ble_eq_true rfl, Nat.le_of_ble_eq_true rfl⟩ ⟨Nat.le_refl _, Nat.le_refl _⟩ (Nat.le_of_ble_eq_true rfl) dX11_who_43 hB (fun v15 M16 H locs hB Z => ?_)
        exact e_iW C hr hlk Z dX11_who_46 hB
  · have hB := hB.2 q2
    refine lv_aload_n hx hb dX11_who_7 rfl (lv_at hl 0 rfl) ?_
    refine lv_iconst (v := 1) hx hb dX11_who_8 (by decide) ?_
    refine v_X11_error C hl.1 Z tw_2_56 ⟨Nat.le_of_ble_eq_true rfl, Nat.le_of_ble_eq_true rfl⟩ ⟨Nat.le_refl _, Nat.le_refl _⟩ (Nat.le_of_ble_eq_true rfl) dX11_who_9 hB (fun v17 M18 H locs hB Z => ?_)
    exact e_iW C hr hlk Z dX11_who_12 hB
set_option maxRecDepth 100000 in
set_option maxHeartbeats 4000000 in
theorem v_X11_who {K : Nat} {M : Mem} {x1 : Int32} {Q1 : Int32 → Mem → Prop} (C : Cx T D p s m args c cc nL own) (hls : ls.size = nL) (Z : Zz EC T D ad (69 + K) A H0 M H locs) (hlink : Cond.methodLink own index yX11_who ∈ TB) (hR : 7 + 1 ≤ R.frames ∧ 8 + (5 + 11) + 48 * 7 ≤ R.locals) (hcs : cells ≤ R.cells ∧ slots ≤ R.slots) (hcat : (rest.map fun v => v.category).sum ≤ 8) (hdg : decode cc pc = .ok (.invokevirtual index, 3)) (hB : P_X11_who K M x1 Q1)
    (kk : ∀ (r : Int32) (M1 : Mem) (H1 : Heap) (locs1 : List Loc), Q1 r M1 → Zz EC T D ad (69 + K) A H0 M1 H1 locs1 → W p l e R s m args below meth c H1 locs1 cells slots QQ (F0 m (pc + 3) ls (.int r :: rest))) : W p l e R s m args below meth c H locs cells slots QQ (F0 m pc ls (.int x1 :: .ref (ad 0) :: rest)) :=
  k_VW (ci := 11) (n := 1) (c_X11_who hB) tw_4_175 tw_4_173 tw_4_174 tw_1_1 ⟨rfl, by decide, by decide, by decide +kernel⟩ rfl rfl C hls Z oO hlink hR hcs hcat rfl hdg kk
def P_X11_seed (K : Nat) (M : Mem) (x1 : Int32) (Q1 : Int32 → Mem → Prop) : Prop :=
  ∀ x2_1 : Int32, x2_1 = M 30 15 → ∀ M2 : Mem, M2 = sf M 30 15 x1 → Q1 x2_1 M2
set_option maxRecDepth 100000 in
set_option maxHeartbeats 4000000 in
theorem c_X11_seed {l : Launch} {T : Nat → ClassId} {D : va_G} {ad : Nat → Nat} {K : Nat} {M : Mem} {x1 : Int32} {sz : Nat} {Q1 : Int32 → Mem → Prop} (hB : P_X11_seed K M x1 Q1) : Met l yX11_seed (Cond.code yX11_seed cX11_seed 3 (some .int) :: TB) (RM 1) (va_Pc [.ref (ad 0), .int x1] (WrP EC T D ad (69 + K) M sz)) (QcW EC T D ad (69 + K) (AA ad (69 + K) sz) Q1) 0 0 (AA ad (69 + K) sz) := by
  refine st_W (by decide) (Nat.le_of_ble_eq_true rfl) (fun p e s m args below meth c ls C hr hlk hsz Z hl => ?_)
  have hl : lv_has ls 3 [(0, .ref (ad 0)), (1, .int x1)] := hl
  generalize AA ad (69 + K) sz = A at Z ⊢
  have hx := C.x
  have hb := C.b
  delta P_X11_seed at hB
  refine lv_aload_n hx hb dX11_seed_0 rfl (lv_at hl 0 rfl) ?_
  refine gf_X11_5 C Z.1 tw_2_17 dX11_seed_1 ?_
  refine gf_X2_15 C Z.1 isH_0 tw_1_166 dX11_seed_4 ?_
  refine lv_topi (fun x2_1 ex2_1 => ?_)
  have hB := hB x2_1 ex2_1
  refine lv_istore_n (lv' := [(2, .int x2_1), (0, .ref (ad 0)), (1, .int x1)]) hx hb dX11_seed_7 rfl hl (by decide) rfl (fun ls hl => ?_)
  refine lv_aload_n hx hb dX11_seed_8 rfl (lv_at hl 1 rfl) ?_
  refine gf_X11_5 C Z.1 tw_2_17 dX11_seed_9 ?_
  refine lv_iload_n hx hb dX11_seed_12 rfl (lv_at hl 2 rfl) ?_
  refine pf_X2_15 C Z isH_0 tw_1_166 dX11_seed_13 (fun M2 H locs eM2 Z => ?_)
  have hB := hB M2 eM2
  refine lv_iload_n hx hb dX11_seed_16 rfl (lv_at hl 0 rfl) ?_
  exact e_iW C hr hlk Z dX11_seed_17 hB
set_option maxRecDepth 100000 in
set_option maxHeartbeats 4000000 in
theorem v_X11_seed {K : Nat} {M : Mem} {x1 : Int32} {Q1 : Int32 → Mem → Prop} (C : Cx T D p s m args c cc nL own) (hls : ls.size = nL) (Z : Zz EC T D ad (69 + K) A H0 M H locs) (hlink : Cond.methodLink own index yX11_seed ∈ TB) (hR : 1 + 1 ≤ R.frames ∧ 8 + (3 + 11) + 48 * 1 ≤ R.locals) (hcs : cells ≤ R.cells ∧ slots ≤ R.slots) (hcat : (rest.map fun v => v.category).sum ≤ 8) (hdg : decode cc pc = .ok (.invokevirtual index, 3)) (hB : P_X11_seed K M x1 Q1)
    (kk : ∀ (r : Int32) (M1 : Mem) (H1 : Heap) (locs1 : List Loc), Q1 r M1 → Zz EC T D ad (69 + K) A H0 M1 H1 locs1 → W p l e R s m args below meth c H1 locs1 cells slots QQ (F0 m (pc + 3) ls (.int r :: rest))) : W p l e R s m args below meth c H locs cells slots QQ (F0 m pc ls (.int x1 :: .ref (ad 0) :: rest)) :=
  k_VW (ci := 11) (n := 1) (c_X11_seed hB) tw_4_190 tw_4_188 tw_4_189 tw_1_1 ⟨rfl, by decide, by decide, by decide +kernel⟩ rfl rfl C hls Z oO hlink hR hcs hcat rfl hdg kk
def P_X3_wakes (K : Nat) (M : Mem) (g : Int32) (x1 : Int32) (x2 : Int32) (x3 : Int32) (r4 : Nat) (Q1 : Int32 → Mem → Prop) : Prop :=
  P_X4_add K M r4 10 (fun M1 => Q1 (x3 + x1) M1)
set_option maxRecDepth 100000 in
set_option maxHeartbeats 4000000 in
theorem c_X3_wakes {l : Launch} {T : Nat → ClassId} {D : va_G} {ad : Nat → Nat} {K : Nat} {M : Mem} {g : Int32} {x1 : Int32} {x2 : Int32} {x3 : Int32} {r4 : Nat} {sz : Nat} {Q1 : Int32 → Mem → Prop} (hg : isKd_X3 g) (f4 : isR r4) (hB : P_X3_wakes K M g x1 x2 x3 r4 Q1) : Met l yX3_wakes (Cond.code yX3_wakes cX3_wakes 5 (some .int) :: TB) (RM 2) (va_Pc [.ref (ad g.toNatClampNeg), .int x1, .int x2, .int x3, .ref (ad r4)] (WrP EC T D ad (69 + K) M sz)) (QcW EC T D ad (69 + K) (AA ad (69 + K) sz) Q1) 0 0 (AA ad (69 + K) sz) := by
  refine st_W (by decide) (Nat.le_of_ble_eq_true rfl) (fun p e s m args below meth c ls C hr hlk hsz Z hl => ?_)
  have hl : lv_has ls 5 [(0, .ref (ad g.toNatClampNeg)), (1, .int x1), (2, .int x2), (3, .int x3), (4, .ref (ad r4))] := hl
  generalize AA ad (69 + K) sz = A at Z ⊢
  have hx := C.x
  have hb := C.b
  delta P_X3_wakes at hB
  refine lv_aload hx hb dX3_wakes_0 (lv_at hl 4 rfl) ?_
  refine lv_bipush (v := 10) hx hb dX3_wakes_2 (by decide) ?_
  refine v_X4_add C hl.1 Z f4 tw_4_210 ⟨Nat.le_of_ble_eq_true rfl, Nat.le_of_ble_eq_true rfl⟩ ⟨Nat.le_refl _, Nat.le_refl _⟩ (Nat.le_of_ble_eq_true rfl) dX3_wakes_4 hB (fun M1 H locs hB Z => ?_)
  refine lv_iload_n hx hb dX3_wakes_7 rfl (lv_at hl 3 rfl) ?_
  refine lv_iload_n hx hb dX3_wakes_8 rfl (lv_at hl 1 rfl) ?_
  refine lv_iadd hx hb dX3_wakes_9 ?_
  exact e_iW C hr hlk Z dX3_wakes_10 hB
set_option maxRecDepth 100000 in
set_option maxHeartbeats 4000000 in
theorem v_S_X7_wakes {K : Nat} {M : Mem} {g : Int32} {x1 : Int32} {x2 : Int32} {x3 : Int32} {r4 : Nat} {Q1 : Int32 → Mem → Prop} (C : Cx T D p s m args c cc nL "OneOfTwo$Smoker") (hls : ls.size = nL) (Z : Zz EC T D ad (69 + K) A H0 M H locs) (hg : isKd_X7 g) (f4 : isR r4) (hlink : Cond.methodLink "OneOfTwo$Smoker" index (⟨"OneOfTwo$Lodger", "wakes", "(IIILOneOfTwo$Row;)I"⟩ : MethodName) ∈ TB) (hR : 2 + 1 ≤ R.frames ∧ 8 + (5 + 11) + 48 * 2 ≤ R.locals) (hcs : cells ≤ R.cells ∧ slots ≤ R.slots) (hcat : (rest.map fun v => v.category).sum ≤ 8) (hdg : decode cc pc = .ok (.invokespecial index, 3)) (hB : P_X3_wakes K M g x1 x2 x3 r4 Q1)
    (kk : ∀ (r : Int32) (M1 : Mem) (H1 : Heap) (locs1 : List Loc), Q1 r M1 → Zz EC T D ad (69 + K) A H0 M1 H1 locs1 → W p l e R s m args below meth c H1 locs1 cells slots QQ (F0 m (pc + 3) ls (.int r :: rest))) : W p l e R s m args below meth c H locs cells slots QQ (F0 m pc ls (.ref (ad r4) :: .int x3 :: .int x2 :: .int x1 :: .ref (ad g.toNatClampNeg) :: rest)) := by
  rcases hg with rfl | rfl
  · exact k_SUW (lv := 2) (ci := 7) (n := 4) (c_X3_wakes kd_X3_17 f4 hB) (va_cwSU 4 C.1.2.2.2.2 (gdSU tw_4_209 hlink tw_4_198 tw_1_83 tw_4_196 tw_1_3) rfl rfl rfl ⟨by decide, by decide +kernel⟩ (rmr hR (by decide) (by decide))) rfl rfl C hls Z oL_17 hcs hcat rfl hdg kk
  · exact k_SUW (lv := 2) (ci := 9) (n := 4) (c_X3_wakes kd_X3_20 f4 hB) (va_cwSU 4 C.1.2.2.2.2 (gdSU tw_4_209 hlink tw_4_198 tw_1_83 tw_4_196 tw_1_3) rfl rfl rfl ⟨by decide, by decide +kernel⟩ (rmr hR (by decide) (by decide))) rfl rfl C hls Z oL_20 hcs hcat rfl hdg kk
def P_X7_wakes (K : Nat) (M : Mem) (g : Int32) (x1 : Int32) (x2 : Int32) (x3 : Int32) (r4 : Nat) (Q1 : Int32 → Mem → Prop) : Prop :=
  P_X4_add K M r4 30 (fun M1 => P_X3_wakes K M1 g x1 x2 x3 r4 (fun v2 M3 => Q1 (v2 * 3) M3))
set_option maxRecDepth 100000 in
set_option maxHeartbeats 4000000 in
theorem c_X7_wakes {l : Launch} {T : Nat → ClassId} {D : va_G} {ad : Nat → Nat} {K : Nat} {M : Mem} {g : Int32} {x1 : Int32} {x2 : Int32} {x3 : Int32} {r4 : Nat} {sz : Nat} {Q1 : Int32 → Mem → Prop} (hg : isKd_X7 g) (f4 : isR r4) (hB : P_X7_wakes K M g x1 x2 x3 r4 Q1) : Met l yX7_wakes (Cond.code yX7_wakes cX7_wakes 5 (some .int) :: TB) (RM 3) (va_Pc [.ref (ad g.toNatClampNeg), .int x1, .int x2, .int x3, .ref (ad r4)] (WrP EC T D ad (69 + K) M sz)) (QcW EC T D ad (69 + K) (AA ad (69 + K) sz) Q1) 0 0 (AA ad (69 + K) sz) := by
  refine st_W (by decide) (Nat.le_of_ble_eq_true rfl) (fun p e s m args below meth c ls C hr hlk hsz Z hl => ?_)
  have hl : lv_has ls 5 [(0, .ref (ad g.toNatClampNeg)), (1, .int x1), (2, .int x2), (3, .int x3), (4, .ref (ad r4))] := hl
  generalize AA ad (69 + K) sz = A at Z ⊢
  have hx := C.x
  have hb := C.b
  delta P_X7_wakes at hB
  refine lv_aload hx hb dX7_wakes_0 (lv_at hl 4 rfl) ?_
  refine lv_bipush (v := 30) hx hb dX7_wakes_2 (by decide) ?_
  refine v_X4_add C hl.1 Z f4 tw_4_205 ⟨Nat.le_of_ble_eq_true rfl, Nat.le_of_ble_eq_true rfl⟩ ⟨Nat.le_refl _, Nat.le_refl _⟩ (Nat.le_of_ble_eq_true rfl) dX7_wakes_4 hB (fun M1 H locs hB Z => ?_)
  refine lv_aload_n hx hb dX7_wakes_7 rfl (lv_at hl 0 rfl) ?_
  refine lv_iload_n hx hb dX7_wakes_8 rfl (lv_at hl 1 rfl) ?_
  refine lv_iload_n hx hb dX7_wakes_9 rfl (lv_at hl 2 rfl) ?_
  refine lv_iload_n hx hb dX7_wakes_10 rfl (lv_at hl 3 rfl) ?_
  refine lv_aload hx hb dX7_wakes_11 (lv_at hl 4 rfl) ?_
  refine v_S_X7_wakes C hl.1 Z hg f4 tw_4_206 ⟨Nat.le_of_ble_eq_true rfl, Nat.le_of_ble_eq_true rfl⟩ ⟨Nat.le_refl _, Nat.le_refl _⟩ (Nat.le_of_ble_eq_true rfl) dX7_wakes_13 hB (fun v2 M3 H locs hB Z => ?_)
  refine lv_iconst (v := 3) hx hb dX7_wakes_16 (by decide) ?_
  refine lv_imul hx hb dX7_wakes_17 ?_
  exact e_iW C hr hlk Z dX7_wakes_18 hB
def P_L_X3_wakes (K : Nat) (M : Mem) (g : Int32) (x1 : Int32) (x2 : Int32) (x3 : Int32) (r4 : Nat) (Q1 : Int32 → Mem → Prop) : Prop :=
  (g = 15 → P_X3_wakes K M g x1 x2 x3 r4 Q1) ∧
  (g = 16 → P_X3_wakes K M g x1 x2 x3 r4 Q1) ∧
  (g = 17 → P_X7_wakes K M g x1 x2 x3 r4 Q1) ∧
  (g = 18 → P_X3_wakes K M g x1 x2 x3 r4 Q1) ∧
  (g = 19 → P_X3_wakes K M g x1 x2 x3 r4 Q1) ∧
  (g = 20 → P_X7_wakes K M g x1 x2 x3 r4 Q1) ∧
  (g = 21 → P_X3_wakes K M g x1 x2 x3 r4 Q1)
set_option maxRecDepth 100000 in
set_option maxHeartbeats 4000000 in
theorem v_L_X3_wakes {K : Nat} {M : Mem} {g : Int32} {x1 : Int32} {x2 : Int32} {x3 : Int32} {r4 : Nat} {Q1 : Int32 → Mem → Prop} (C : Cx T D p s m args c cc nL own) (hls : ls.size = nL) (Z : Zz EC T D ad (69 + K) A H0 M H locs) (hg : isKd_X3 g) (f4 : isR r4) (hlink : Cond.methodLink own index (⟨"OneOfTwo$Lodger", "wakes", "(IIILOneOfTwo$Row;)I"⟩ : MethodName) ∈ TB) (hR : 3 + 1 ≤ R.frames ∧ 8 + (5 + 11) + 48 * 3 ≤ R.locals) (hcs : cells ≤ R.cells ∧ slots ≤ R.slots) (hcat : (rest.map fun v => v.category).sum ≤ 8) (hdg : decode cc pc = .ok (.invokevirtual index, 3)) (hB : P_L_X3_wakes K M g x1 x2 x3 r4 Q1)
    (kk : ∀ (r : Int32) (M1 : Mem) (H1 : Heap) (locs1 : List Loc), Q1 r M1 → Zz EC T D ad (69 + K) A H0 M1 H1 locs1 → W p l e R s m args below meth c H1 locs1 cells slots QQ (F0 m (pc + 3) ls (.int r :: rest))) : W p l e R s m args below meth c H locs cells slots QQ (F0 m pc ls (.ref (ad r4) :: .int x3 :: .int x2 :: .int x1 :: .ref (ad g.toNatClampNeg) :: rest)) := by
  rcases hg with rfl | rfl | rfl | rfl | rfl | rfl | rfl
  · exact k_UW (lv := 2) (ci := 3) (n := 4) (c_X3_wakes kd_X3_15 f4 (hB.1 rfl)) (va_cwU (x := (⟨"OneOfTwo$Lodger", "wakes", "(IIILOneOfTwo$Row;)I"⟩ : MethodName)) 4 C.1.2.2.2.2 (gdU tw_4_209 hlink tw_4_198 tw_4_197 tw_4_196 tw_1_3) rfl rfl rfl rfl ⟨by decide, by decide, by decide +kernel⟩ (rmr hR (by decide) (by decide))) rfl rfl C hls Z oL_15 hcs hcat rfl hdg kk
  · exact k_UW (lv := 2) (ci := 0) (n := 4) (c_X3_wakes kd_X3_16 f4 (hB.2.1 rfl)) (va_cwU (x := (⟨"OneOfTwo$Lodger", "wakes", "(IIILOneOfTwo$Row;)I"⟩ : MethodName)) 4 C.1.2.2.2.2 (gdU tw_4_209 hlink tw_4_198 tw_4_199 tw_4_196 tw_1_3) rfl rfl rfl rfl ⟨by decide, by decide, by decide +kernel⟩ (rmr hR (by decide) (by decide))) rfl rfl C hls Z oL_16 hcs hcat rfl hdg kk
  · exact k_UW (lv := 3) (ci := 7) (n := 4) (c_X7_wakes kd_X7_17 f4 (hB.2.2.1 rfl)) (va_cwO (x := (⟨"OneOfTwo$Lodger", "wakes", "(IIILOneOfTwo$Row;)I"⟩ : MethodName)) 4 C.1.2.2.2.2 (gdO tw_4_204 hlink tw_4_198 tw_4_196 tw_4_202 tw_4_203 tw_1_5) rfl rfl rfl tw_4_209 ⟨by decide, by decide, by decide +kernel⟩ (rmr hR (by decide) (by decide))) rfl rfl C hls Z oL_17 hcs hcat rfl hdg kk
  · exact k_UW (lv := 2) (ci := 6) (n := 4) (c_X3_wakes kd_X3_18 f4 (hB.2.2.2.1 rfl)) (va_cwU (x := (⟨"OneOfTwo$Lodger", "wakes", "(IIILOneOfTwo$Row;)I"⟩ : MethodName)) 4 C.1.2.2.2.2 (gdU tw_4_209 hlink tw_4_198 tw_4_201 tw_4_196 tw_1_3) rfl rfl rfl rfl ⟨by decide, by decide, by decide +kernel⟩ (rmr hR (by decide) (by decide))) rfl rfl C hls Z oL_18 hcs hcat rfl hdg kk
  · exact k_UW (lv := 2) (ci := 1) (n := 4) (c_X3_wakes kd_X3_19 f4 (hB.2.2.2.2.1 rfl)) (va_cwU (x := (⟨"OneOfTwo$Lodger", "wakes", "(IIILOneOfTwo$Row;)I"⟩ : MethodName)) 4 C.1.2.2.2.2 (gdU tw_4_209 hlink tw_4_198 tw_4_200 tw_4_196 tw_1_3) rfl rfl rfl rfl ⟨by decide, by decide, by decide +kernel⟩ (rmr hR (by decide) (by decide))) rfl rfl C hls Z oL_19 hcs hcat rfl hdg kk
  · exact k_UW (lv := 3) (ci := 9) (n := 4) (c_X7_wakes kd_X7_20 f4 (hB.2.2.2.2.2.1 rfl)) (va_cwO (x := (⟨"OneOfTwo$Lodger", "wakes", "(IIILOneOfTwo$Row;)I"⟩ : MethodName)) 4 C.1.2.2.2.2 (gdO tw_4_204 hlink tw_4_198 tw_4_196 tw_4_208 tw_4_203 tw_1_5) rfl rfl rfl tw_4_209 ⟨by decide, by decide, by decide +kernel⟩ (rmr hR (by decide) (by decide))) rfl rfl C hls Z oL_20 hcs hcat rfl hdg kk
  · exact k_UW (lv := 2) (ci := 8) (n := 4) (c_X3_wakes kd_X3_21 f4 (hB.2.2.2.2.2.2 rfl)) (va_cwU (x := (⟨"OneOfTwo$Lodger", "wakes", "(IIILOneOfTwo$Row;)I"⟩ : MethodName)) 4 C.1.2.2.2.2 (gdU tw_4_209 hlink tw_4_198 tw_4_207 tw_4_196 tw_1_3) rfl rfl rfl rfl ⟨by decide, by decide, by decide +kernel⟩ (rmr hR (by decide) (by decide))) rfl rfl C hls Z oL_21 hcs hcat rfl hdg kk
def P_X3_pulls (K : Nat) (M : Mem) (g : Int32) (x1 : Int32) (x2 : Int32) (x3 : Int32) (r4 : Nat) (Q1 : Int32 → Mem → Prop) : Prop :=
  P_X4_add K M r4 11 (fun M1 => P_L_X3_wakes K M1 g x1 x2 x3 r4 (fun v2 M3 => Q1 (v2 * 2) M3))
set_option maxRecDepth 100000 in
set_option maxHeartbeats 4000000 in
theorem c_X3_pulls {l : Launch} {T : Nat → ClassId} {D : va_G} {ad : Nat → Nat} {K : Nat} {M : Mem} {g : Int32} {x1 : Int32} {x2 : Int32} {x3 : Int32} {r4 : Nat} {sz : Nat} {Q1 : Int32 → Mem → Prop} (hg : isKd_X3 g) (f4 : isR r4) (hB : P_X3_pulls K M g x1 x2 x3 r4 Q1) : Met l yX3_pulls (Cond.code yX3_pulls cX3_pulls 5 (some .int) :: TB) (RM 4) (va_Pc [.ref (ad g.toNatClampNeg), .int x1, .int x2, .int x3, .ref (ad r4)] (WrP EC T D ad (69 + K) M sz)) (QcW EC T D ad (69 + K) (AA ad (69 + K) sz) Q1) 0 0 (AA ad (69 + K) sz) := by
  refine st_W (by decide) (Nat.le_of_ble_eq_true rfl) (fun p e s m args below meth c ls C hr hlk hsz Z hl => ?_)
  have hl : lv_has ls 5 [(0, .ref (ad g.toNatClampNeg)), (1, .int x1), (2, .int x2), (3, .int x3), (4, .ref (ad r4))] := hl
  generalize AA ad (69 + K) sz = A at Z ⊢
  have hx := C.x
  have hb := C.b
  delta P_X3_pulls at hB
  refine lv_aload hx hb dX3_pulls_0 (lv_at hl 4 rfl) ?_
  refine lv_bipush (v := 11) hx hb dX3_pulls_2 (by decide) ?_
  refine v_X4_add C hl.1 Z f4 tw_4_210 ⟨Nat.le_of_ble_eq_true rfl, Nat.le_of_ble_eq_true rfl⟩ ⟨Nat.le_refl _, Nat.le_refl _⟩ (Nat.le_of_ble_eq_true rfl) dX3_pulls_4 hB (fun M1 H locs hB Z => ?_)
  refine lv_aload_n hx hb dX3_pulls_7 rfl (lv_at hl 0 rfl) ?_
  refine lv_iload_n hx hb dX3_pulls_8 rfl (lv_at hl 1 rfl) ?_
  refine lv_iload_n hx hb dX3_pulls_9 rfl (lv_at hl 2 rfl) ?_
  refine lv_iload_n hx hb dX3_pulls_10 rfl (lv_at hl 3 rfl) ?_
  refine lv_aload hx hb dX3_pulls_11 (lv_at hl 4 rfl) ?_
  refine v_L_X3_wakes C hl.1 Z hg f4 tw_4_237 ⟨Nat.le_of_ble_eq_true rfl, Nat.le_of_ble_eq_true rfl⟩ ⟨Nat.le_refl _, Nat.le_refl _⟩ (Nat.le_of_ble_eq_true rfl) dX3_pulls_13 hB (fun v2 M3 H locs hB Z => ?_)
  refine lv_iconst (v := 2) hx hb dX3_pulls_16 (by decide) ?_
  refine lv_imul hx hb dX3_pulls_17 ?_
  exact e_iW C hr hlk Z dX3_pulls_18 hB
def P_X3_shuts (K : Nat) (M : Mem) (g : Int32) (x1 : Int32) (x2 : Int32) (x3 : Int32) (r4 : Nat) (Q1 : Int32 → Mem → Prop) : Prop :=
  P_X4_add K M r4 12 (fun M1 => Q1 (x3 - x2) M1)
set_option maxRecDepth 100000 in
set_option maxHeartbeats 4000000 in
theorem c_X3_shuts {l : Launch} {T : Nat → ClassId} {D : va_G} {ad : Nat → Nat} {K : Nat} {M : Mem} {g : Int32} {x1 : Int32} {x2 : Int32} {x3 : Int32} {r4 : Nat} {sz : Nat} {Q1 : Int32 → Mem → Prop} (hg : isKd_X3 g) (f4 : isR r4) (hB : P_X3_shuts K M g x1 x2 x3 r4 Q1) : Met l yX3_shuts (Cond.code yX3_shuts cX3_shuts 5 (some .int) :: TB) (RM 2) (va_Pc [.ref (ad g.toNatClampNeg), .int x1, .int x2, .int x3, .ref (ad r4)] (WrP EC T D ad (69 + K) M sz)) (QcW EC T D ad (69 + K) (AA ad (69 + K) sz) Q1) 0 0 (AA ad (69 + K) sz) := by
  refine st_W (by decide) (Nat.le_of_ble_eq_true rfl) (fun p e s m args below meth c ls C hr hlk hsz Z hl => ?_)
  have hl : lv_has ls 5 [(0, .ref (ad g.toNatClampNeg)), (1, .int x1), (2, .int x2), (3, .int x3), (4, .ref (ad r4))] := hl
  generalize AA ad (69 + K) sz = A at Z ⊢
  have hx := C.x
  have hb := C.b
  delta P_X3_shuts at hB
  refine lv_aload hx hb dX3_shuts_0 (lv_at hl 4 rfl) ?_
  refine lv_bipush (v := 12) hx hb dX3_shuts_2 (by decide) ?_
  refine v_X4_add C hl.1 Z f4 tw_4_210 ⟨Nat.le_of_ble_eq_true rfl, Nat.le_of_ble_eq_true rfl⟩ ⟨Nat.le_refl _, Nat.le_refl _⟩ (Nat.le_of_ble_eq_true rfl) dX3_shuts_4 hB (fun M1 H locs hB Z => ?_)
  refine lv_iload_n hx hb dX3_shuts_7 rfl (lv_at hl 3 rfl) ?_
  refine lv_iload_n hx hb dX3_shuts_8 rfl (lv_at hl 2 rfl) ?_
  refine lv_isub hx hb dX3_shuts_9 ?_
  exact e_iW C hr hlk Z dX3_shuts_10 hB
set_option maxRecDepth 100000 in
set_option maxHeartbeats 4000000 in
theorem v_S_X0_pulls {K : Nat} {M : Mem} {g : Int32} {x1 : Int32} {x2 : Int32} {x3 : Int32} {r4 : Nat} {Q1 : Int32 → Mem → Prop} (C : Cx T D p s m args c cc nL "OneOfTwo$Cougher") (hls : ls.size = nL) (Z : Zz EC T D ad (69 + K) A H0 M H locs) (hg : isKd_X0 g) (f4 : isR r4) (hlink : Cond.methodLink "OneOfTwo$Cougher" index (⟨"OneOfTwo$Lodger", "pulls", "(IIILOneOfTwo$Row;)I"⟩ : MethodName) ∈ TB) (hR : 4 + 1 ≤ R.frames ∧ 8 + (5 + 11) + 48 * 4 ≤ R.locals) (hcs : cells ≤ R.cells ∧ slots ≤ R.slots) (hcat : (rest.map fun v => v.category).sum ≤ 8) (hdg : decode cc pc = .ok (.invokespecial index, 3)) (hB : P_X3_pulls K M g x1 x2 x3 r4 Q1)
    (kk : ∀ (r : Int32) (M1 : Mem) (H1 : Heap) (locs1 : List Loc), Q1 r M1 → Zz EC T D ad (69 + K) A H0 M1 H1 locs1 → W p l e R s m args below meth c H1 locs1 cells slots QQ (F0 m (pc + 3) ls (.int r :: rest))) : W p l e R s m args below meth c H locs cells slots QQ (F0 m pc ls (.ref (ad r4) :: .int x3 :: .int x2 :: .int x1 :: .ref (ad g.toNatClampNeg) :: rest)) := by
  rcases hg with rfl | rfl
  · exact k_SUW (lv := 4) (ci := 0) (n := 4) (c_X3_pulls kd_X3_16 f4 hB) (va_cwSU 4 C.1.2.2.2.2 (gdSU tw_4_236 hlink tw_4_214 tw_1_75 tw_4_212 tw_1_3) rfl rfl rfl ⟨by decide, by decide +kernel⟩ (rmr hR (by decide) (by decide))) rfl rfl C hls Z oL_16 hcs hcat rfl hdg kk
  · exact k_SUW (lv := 4) (ci := 1) (n := 4) (c_X3_pulls kd_X3_19 f4 hB) (va_cwSU 4 C.1.2.2.2.2 (gdSU tw_4_236 hlink tw_4_214 tw_1_75 tw_4_212 tw_1_3) rfl rfl rfl ⟨by decide, by decide +kernel⟩ (rmr hR (by decide) (by decide))) rfl rfl C hls Z oL_19 hcs hcat rfl hdg kk
def P_L_X0_shuts (K : Nat) (M : Mem) (g : Int32) (x1 : Int32) (x2 : Int32) (x3 : Int32) (r4 : Nat) (Q1 : Int32 → Mem → Prop) : Prop :=
  (g = 16 → P_X3_shuts K M g x1 x2 x3 r4 Q1) ∧
  (g = 19 → P_X3_shuts K M g x1 x2 x3 r4 Q1)
set_option maxRecDepth 100000 in
set_option maxHeartbeats 4000000 in
theorem v_L_X0_shuts {K : Nat} {M : Mem} {g : Int32} {x1 : Int32} {x2 : Int32} {x3 : Int32} {r4 : Nat} {Q1 : Int32 → Mem → Prop} (C : Cx T D p s m args c cc nL own) (hls : ls.size = nL) (Z : Zz EC T D ad (69 + K) A H0 M H locs) (hg : isKd_X0 g) (f4 : isR r4) (hlink : Cond.methodLink own index (⟨"OneOfTwo$Cougher", "shuts", "(IIILOneOfTwo$Row;)I"⟩ : MethodName) ∈ TB) (hR : 2 + 1 ≤ R.frames ∧ 8 + (5 + 11) + 48 * 2 ≤ R.locals) (hcs : cells ≤ R.cells ∧ slots ≤ R.slots) (hcat : (rest.map fun v => v.category).sum ≤ 8) (hdg : decode cc pc = .ok (.invokevirtual index, 3)) (hB : P_L_X0_shuts K M g x1 x2 x3 r4 Q1)
    (kk : ∀ (r : Int32) (M1 : Mem) (H1 : Heap) (locs1 : List Loc), Q1 r M1 → Zz EC T D ad (69 + K) A H0 M1 H1 locs1 → W p l e R s m args below meth c H1 locs1 cells slots QQ (F0 m (pc + 3) ls (.int r :: rest))) : W p l e R s m args below meth c H locs cells slots QQ (F0 m pc ls (.ref (ad r4) :: .int x3 :: .int x2 :: .int x1 :: .ref (ad g.toNatClampNeg) :: rest)) := by
  rcases hg with rfl | rfl
  · exact k_UW (lv := 2) (ci := 0) (n := 4) (c_X3_shuts kd_X3_16 f4 (hB.1 rfl)) (va_cwU (x := (⟨"OneOfTwo$Cougher", "shuts", "(IIILOneOfTwo$Row;)I"⟩ : MethodName)) 4 C.1.2.2.2.2 (gdU tw_4_226 hlink tw_4_221 tw_4_223 tw_4_225 tw_1_3) rfl rfl rfl rfl ⟨by decide, by decide, by decide +kernel⟩ (rmr hR (by decide) (by decide))) rfl rfl C hls Z oL_16 hcs hcat rfl hdg kk
  · exact k_UW (lv := 2) (ci := 1) (n := 4) (c_X3_shuts kd_X3_19 f4 (hB.2 rfl)) (va_cwU (x := (⟨"OneOfTwo$Cougher", "shuts", "(IIILOneOfTwo$Row;)I"⟩ : MethodName)) 4 C.1.2.2.2.2 (gdU tw_4_226 hlink tw_4_221 tw_4_224 tw_4_225 tw_1_3) rfl rfl rfl rfl ⟨by decide, by decide, by decide +kernel⟩ (rmr hR (by decide) (by decide))) rfl rfl C hls Z oL_19 hcs hcat rfl hdg kk
def P_X0_pulls (K : Nat) (M : Mem) (g : Int32) (x1 : Int32) (x2 : Int32) (x3 : Int32) (r4 : Nat) (Q1 : Int32 → Mem → Prop) : Prop :=
  P_X4_add K M r4 20 (fun M1 => P_X3_pulls K M1 g x1 x2 x3 r4 (fun v2 M3 => P_L_X0_shuts K M3 g x1 x2 1 r4 (fun v4 M5 => Q1 (v2 - v4) M5)))
set_option maxRecDepth 100000 in
set_option maxHeartbeats 4000000 in
theorem c_X0_pulls {l : Launch} {T : Nat → ClassId} {D : va_G} {ad : Nat → Nat} {K : Nat} {M : Mem} {g : Int32} {x1 : Int32} {x2 : Int32} {x3 : Int32} {r4 : Nat} {sz : Nat} {Q1 : Int32 → Mem → Prop} (hg : isKd_X0 g) (f4 : isR r4) (hB : P_X0_pulls K M g x1 x2 x3 r4 Q1) : Met l yX0_pulls (Cond.code yX0_pulls cX0_pulls 5 (some .int) :: TB) (RM 5) (va_Pc [.ref (ad g.toNatClampNeg), .int x1, .int x2, .int x3, .ref (ad r4)] (WrP EC T D ad (69 + K) M sz)) (QcW EC T D ad (69 + K) (AA ad (69 + K) sz) Q1) 0 0 (AA ad (69 + K) sz) := by
  refine st_W (by decide) (Nat.le_of_ble_eq_true rfl) (fun p e s m args below meth c ls C hr hlk hsz Z hl => ?_)
  have hl : lv_has ls 5 [(0, .ref (ad g.toNatClampNeg)), (1, .int x1), (2, .int x2), (3, .int x3), (4, .ref (ad r4))] := hl
  generalize AA ad (69 + K) sz = A at Z ⊢
  have hx := C.x
  have hb := C.b
  delta P_X0_pulls at hB
  refine lv_aload hx hb dX0_pulls_0 (lv_at hl 4 rfl) ?_
  refine lv_bipush (v := 20) hx hb dX0_pulls_2 (by decide) ?_
  refine v_X4_add C hl.1 Z f4 tw_4_218 ⟨Nat.le_of_ble_eq_true rfl, Nat.le_of_ble_eq_true rfl⟩ ⟨Nat.le_refl _, Nat.le_refl _⟩ (Nat.le_of_ble_eq_true rfl) dX0_pulls_4 hB (fun M1 H locs hB Z => ?_)
  refine lv_aload_n hx hb dX0_pulls_7 rfl (lv_at hl 0 rfl) ?_
  refine lv_iload_n hx hb dX0_pulls_8 rfl (lv_at hl 1 rfl) ?_
  refine lv_iload_n hx hb dX0_pulls_9 rfl (lv_at hl 2 rfl) ?_
  refine lv_iload_n hx hb dX0_pulls_10 rfl (lv_at hl 3 rfl) ?_
  refine lv_aload hx hb dX0_pulls_11 (lv_at hl 4 rfl) ?_
  refine v_S_X0_pulls C hl.1 Z hg f4 tw_4_219 ⟨Nat.le_of_ble_eq_true rfl, Nat.le_of_ble_eq_true rfl⟩ ⟨Nat.le_refl _, Nat.le_refl _⟩ (Nat.le_of_ble_eq_true rfl) dX0_pulls_13 hB (fun v2 M3 H locs hB Z => ?_)
  refine lv_aload_n hx hb dX0_pulls_16 rfl (lv_at hl 0 rfl) ?_
  refine lv_iload_n hx hb dX0_pulls_17 rfl (lv_at hl 1 rfl) ?_
  refine lv_iload_n hx hb dX0_pulls_18 rfl (lv_at hl 2 rfl) ?_
  refine lv_iconst (v := 1) hx hb dX0_pulls_19 (by decide) ?_
  refine lv_aload hx hb dX0_pulls_20 (lv_at hl 4 rfl) ?_
  refine v_L_X0_shuts C hl.1 Z hg f4 tw_4_220 ⟨Nat.le_of_ble_eq_true rfl, Nat.le_of_ble_eq_true rfl⟩ ⟨Nat.le_refl _, Nat.le_refl _⟩ (Nat.le_of_ble_eq_true rfl) dX0_pulls_22 hB (fun v4 M5 H locs hB Z => ?_)
  refine lv_isub hx hb dX0_pulls_25 ?_
  exact e_iW C hr hlk Z dX0_pulls_26 hB
set_option maxRecDepth 100000 in
set_option maxHeartbeats 4000000 in
theorem v_S_X1_pulls {K : Nat} {M : Mem} {g : Int32} {x1 : Int32} {x2 : Int32} {x3 : Int32} {r4 : Nat} {Q1 : Int32 → Mem → Prop} (C : Cx T D p s m args c cc nL "OneOfTwo$Fevered") (hls : ls.size = nL) (Z : Zz EC T D ad (69 + K) A H0 M H locs) (hg : isKd_X1 g) (f4 : isR r4) (hlink : Cond.methodLink "OneOfTwo$Fevered" index (⟨"OneOfTwo$Cougher", "pulls", "(IIILOneOfTwo$Row;)I"⟩ : MethodName) ∈ TB) (hR : 5 + 1 ≤ R.frames ∧ 8 + (5 + 11) + 48 * 5 ≤ R.locals) (hcs : cells ≤ R.cells ∧ slots ≤ R.slots) (hcat : (rest.map fun v => v.category).sum ≤ 8) (hdg : decode cc pc = .ok (.invokespecial index, 3)) (hB : P_X0_pulls K M g x1 x2 x3 r4 Q1)
    (kk : ∀ (r : Int32) (M1 : Mem) (H1 : Heap) (locs1 : List Loc), Q1 r M1 → Zz EC T D ad (69 + K) A H0 M1 H1 locs1 → W p l e R s m args below meth c H1 locs1 cells slots QQ (F0 m (pc + 3) ls (.int r :: rest))) : W p l e R s m args below meth c H locs cells slots QQ (F0 m pc ls (.ref (ad r4) :: .int x3 :: .int x2 :: .int x1 :: .ref (ad g.toNatClampNeg) :: rest)) := by
  obtain rfl := hg
  exact k_SUW (lv := 5) (ci := 1) (n := 4) (c_X0_pulls kd_X0_19 f4 hB) (va_cwSU 4 C.1.2.2.2.2 (gdSU tw_4_217 hlink tw_7_127 tw_1_99 tw_4_216 tw_1_4) rfl rfl rfl ⟨by decide, by decide +kernel⟩ (rmr hR (by decide) (by decide))) rfl rfl C hls Z oL_19 hcs hcat rfl hdg kk
def P_X1_pulls (K : Nat) (M : Mem) (g : Int32) (x1 : Int32) (x2 : Int32) (x3 : Int32) (r4 : Nat) (Q1 : Int32 → Mem → Prop) : Prop :=
  P_X4_add K M r4 50 (fun M1 => P_X0_pulls K M1 g x1 x2 (x3 + 1) r4 (fun v2 M3 => Q1 v2 M3))
set_option maxRecDepth 100000 in
set_option maxHeartbeats 4000000 in
theorem c_X1_pulls {l : Launch} {T : Nat → ClassId} {D : va_G} {ad : Nat → Nat} {K : Nat} {M : Mem} {g : Int32} {x1 : Int32} {x2 : Int32} {x3 : Int32} {r4 : Nat} {sz : Nat} {Q1 : Int32 → Mem → Prop} (hg : isKd_X1 g) (f4 : isR r4) (hB : P_X1_pulls K M g x1 x2 x3 r4 Q1) : Met l yX1_pulls (Cond.code yX1_pulls cX1_pulls 5 (some .int) :: TB) (RM 6) (va_Pc [.ref (ad g.toNatClampNeg), .int x1, .int x2, .int x3, .ref (ad r4)] (WrP EC T D ad (69 + K) M sz)) (QcW EC T D ad (69 + K) (AA ad (69 + K) sz) Q1) 0 0 (AA ad (69 + K) sz) := by
  refine st_W (by decide) (Nat.le_of_ble_eq_true rfl) (fun p e s m args below meth c ls C hr hlk hsz Z hl => ?_)
  have hl : lv_has ls 5 [(0, .ref (ad g.toNatClampNeg)), (1, .int x1), (2, .int x2), (3, .int x3), (4, .ref (ad r4))] := hl
  generalize AA ad (69 + K) sz = A at Z ⊢
  have hx := C.x
  have hb := C.b
  delta P_X1_pulls at hB
  refine lv_aload hx hb dX1_pulls_0 (lv_at hl 4 rfl) ?_
  refine lv_bipush (v := 50) hx hb dX1_pulls_2 (by decide) ?_
  refine v_X4_add C hl.1 Z f4 tw_4_230 ⟨Nat.le_of_ble_eq_true rfl, Nat.le_of_ble_eq_true rfl⟩ ⟨Nat.le_refl _, Nat.le_refl _⟩ (Nat.le_of_ble_eq_true rfl) dX1_pulls_4 hB (fun M1 H locs hB Z => ?_)
  refine lv_aload_n hx hb dX1_pulls_7 rfl (lv_at hl 0 rfl) ?_
  refine lv_iload_n hx hb dX1_pulls_8 rfl (lv_at hl 1 rfl) ?_
  refine lv_iload_n hx hb dX1_pulls_9 rfl (lv_at hl 2 rfl) ?_
  refine lv_iload_n hx hb dX1_pulls_10 rfl (lv_at hl 3 rfl) ?_
  refine lv_iconst (v := 1) hx hb dX1_pulls_11 (by decide) ?_
  refine lv_iadd hx hb dX1_pulls_12 ?_
  refine lv_aload hx hb dX1_pulls_13 (lv_at hl 4 rfl) ?_
  refine v_S_X1_pulls C hl.1 Z hg f4 tw_4_231 ⟨Nat.le_of_ble_eq_true rfl, Nat.le_of_ble_eq_true rfl⟩ ⟨Nat.le_refl _, Nat.le_refl _⟩ (Nat.le_of_ble_eq_true rfl) dX1_pulls_15 hB (fun v2 M3 H locs hB Z => ?_)
  exact e_iW C hr hlk Z dX1_pulls_18 hB
set_option maxRecDepth 100000 in
set_option maxHeartbeats 4000000 in
theorem v_S_X6_shuts {K : Nat} {M : Mem} {g : Int32} {x1 : Int32} {x2 : Int32} {x3 : Int32} {r4 : Nat} {Q1 : Int32 → Mem → Prop} (C : Cx T D p s m args c cc nL "OneOfTwo$Sleeper") (hls : ls.size = nL) (Z : Zz EC T D ad (69 + K) A H0 M H locs) (hg : isKd_X6 g) (f4 : isR r4) (hlink : Cond.methodLink "OneOfTwo$Sleeper" index (⟨"OneOfTwo$Lodger", "shuts", "(IIILOneOfTwo$Row;)I"⟩ : MethodName) ∈ TB) (hR : 2 + 1 ≤ R.frames ∧ 8 + (5 + 11) + 48 * 2 ≤ R.locals) (hcs : cells ≤ R.cells ∧ slots ≤ R.slots) (hcat : (rest.map fun v => v.category).sum ≤ 8) (hdg : decode cc pc = .ok (.invokespecial index, 3)) (hB : P_X3_shuts K M g x1 x2 x3 r4 Q1)
    (kk : ∀ (r : Int32) (M1 : Mem) (H1 : Heap) (locs1 : List Loc), Q1 r M1 → Zz EC T D ad (69 + K) A H0 M1 H1 locs1 → W p l e R s m args below meth c H1 locs1 cells slots QQ (F0 m (pc + 3) ls (.int r :: rest))) : W p l e R s m args below meth c H locs cells slots QQ (F0 m pc ls (.ref (ad r4) :: .int x3 :: .int x2 :: .int x1 :: .ref (ad g.toNatClampNeg) :: rest)) := by
  rcases hg with rfl | rfl
  · exact k_SUW (lv := 2) (ci := 6) (n := 4) (c_X3_shuts kd_X3_18 f4 hB) (va_cwSU 4 C.1.2.2.2.2 (gdSU tw_4_226 hlink tw_7_128 tw_1_91 tw_4_225 tw_1_3) rfl rfl rfl ⟨by decide, by decide +kernel⟩ (rmr hR (by decide) (by decide))) rfl rfl C hls Z oL_18 hcs hcat rfl hdg kk
  · exact k_SUW (lv := 2) (ci := 8) (n := 4) (c_X3_shuts kd_X3_21 f4 hB) (va_cwSU 4 C.1.2.2.2.2 (gdSU tw_4_226 hlink tw_7_128 tw_1_91 tw_4_225 tw_1_3) rfl rfl rfl ⟨by decide, by decide +kernel⟩ (rmr hR (by decide) (by decide))) rfl rfl C hls Z oL_21 hcs hcat rfl hdg kk
def P_X6_shuts (K : Nat) (M : Mem) (g : Int32) (x1 : Int32) (x2 : Int32) (x3 : Int32) (r4 : Nat) (Q1 : Int32 → Mem → Prop) : Prop :=
  P_X4_add K M r4 40 (fun M1 => P_X3_shuts K M1 g x1 x2 x3 r4 (fun v2 M3 => Q1 (-v2) M3))
set_option maxRecDepth 100000 in
set_option maxHeartbeats 4000000 in
theorem c_X6_shuts {l : Launch} {T : Nat → ClassId} {D : va_G} {ad : Nat → Nat} {K : Nat} {M : Mem} {g : Int32} {x1 : Int32} {x2 : Int32} {x3 : Int32} {r4 : Nat} {sz : Nat} {Q1 : Int32 → Mem → Prop} (hg : isKd_X6 g) (f4 : isR r4) (hB : P_X6_shuts K M g x1 x2 x3 r4 Q1) : Met l yX6_shuts (Cond.code yX6_shuts cX6_shuts 5 (some .int) :: TB) (RM 3) (va_Pc [.ref (ad g.toNatClampNeg), .int x1, .int x2, .int x3, .ref (ad r4)] (WrP EC T D ad (69 + K) M sz)) (QcW EC T D ad (69 + K) (AA ad (69 + K) sz) Q1) 0 0 (AA ad (69 + K) sz) := by
  refine st_W (by decide) (Nat.le_of_ble_eq_true rfl) (fun p e s m args below meth c ls C hr hlk hsz Z hl => ?_)
  have hl : lv_has ls 5 [(0, .ref (ad g.toNatClampNeg)), (1, .int x1), (2, .int x2), (3, .int x3), (4, .ref (ad r4))] := hl
  generalize AA ad (69 + K) sz = A at Z ⊢
  have hx := C.x
  have hb := C.b
  delta P_X6_shuts at hB
  refine lv_aload hx hb dX6_shuts_0 (lv_at hl 4 rfl) ?_
  refine lv_bipush (v := 40) hx hb dX6_shuts_2 (by decide) ?_
  refine v_X4_add C hl.1 Z f4 tw_5_1 ⟨Nat.le_of_ble_eq_true rfl, Nat.le_of_ble_eq_true rfl⟩ ⟨Nat.le_refl _, Nat.le_refl _⟩ (Nat.le_of_ble_eq_true rfl) dX6_shuts_4 hB (fun M1 H locs hB Z => ?_)
  refine lv_aload_n hx hb dX6_shuts_7 rfl (lv_at hl 0 rfl) ?_
  refine lv_iload_n hx hb dX6_shuts_8 rfl (lv_at hl 1 rfl) ?_
  refine lv_iload_n hx hb dX6_shuts_9 rfl (lv_at hl 2 rfl) ?_
  refine lv_iload_n hx hb dX6_shuts_10 rfl (lv_at hl 3 rfl) ?_
  refine lv_aload hx hb dX6_shuts_11 (lv_at hl 4 rfl) ?_
  refine v_S_X6_shuts C hl.1 Z hg f4 tw_5_2 ⟨Nat.le_of_ble_eq_true rfl, Nat.le_of_ble_eq_true rfl⟩ ⟨Nat.le_refl _, Nat.le_refl _⟩ (Nat.le_of_ble_eq_true rfl) dX6_shuts_13 hB (fun v2 M3 H locs hB Z => ?_)
  refine lv_ineg hx hb dX6_shuts_16 ?_
  exact e_iW C hr hlk Z dX6_shuts_17 hB
set_option maxRecDepth 100000 in
set_option maxHeartbeats 4000000 in
theorem v_S_X8_shuts {K : Nat} {M : Mem} {g : Int32} {x1 : Int32} {x2 : Int32} {x3 : Int32} {r4 : Nat} {Q1 : Int32 → Mem → Prop} (C : Cx T D p s m args c cc nL "OneOfTwo$Spiteful") (hls : ls.size = nL) (Z : Zz EC T D ad (69 + K) A H0 M H locs) (hg : isKd_X8 g) (f4 : isR r4) (hlink : Cond.methodLink "OneOfTwo$Spiteful" index (⟨"OneOfTwo$Sleeper", "shuts", "(IIILOneOfTwo$Row;)I"⟩ : MethodName) ∈ TB) (hR : 3 + 1 ≤ R.frames ∧ 8 + (5 + 11) + 48 * 3 ≤ R.locals) (hcs : cells ≤ R.cells ∧ slots ≤ R.slots) (hcat : (rest.map fun v => v.category).sum ≤ 8) (hdg : decode cc pc = .ok (.invokespecial index, 3)) (hB : P_X6_shuts K M g x1 x2 x3 r4 Q1)
    (kk : ∀ (r : Int32) (M1 : Mem) (H1 : Heap) (locs1 : List Loc), Q1 r M1 → Zz EC T D ad (69 + K) A H0 M1 H1 locs1 → W p l e R s m args below meth c H1 locs1 cells slots QQ (F0 m (pc + 3) ls (.int r :: rest))) : W p l e R s m args below meth c H locs cells slots QQ (F0 m pc ls (.ref (ad r4) :: .int x3 :: .int x2 :: .int x1 :: .ref (ad g.toNatClampNeg) :: rest)) := by
  obtain rfl := hg
  exact k_SUW (lv := 3) (ci := 8) (n := 4) (c_X6_shuts kd_X6_21 f4 hB) (va_cwSU 4 C.1.2.2.2.2 (gdSU tw_5_0 hlink tw_7_135 tw_1_115 tw_4_239 tw_1_6) rfl rfl rfl ⟨by decide, by decide +kernel⟩ (rmr hR (by decide) (by decide))) rfl rfl C hls Z oL_21 hcs hcat rfl hdg kk
def P_X8_shuts (K : Nat) (M : Mem) (g : Int32) (x1 : Int32) (x2 : Int32) (x3 : Int32) (r4 : Nat) (Q1 : Int32 → Mem → Prop) : Prop :=
  P_X4_add K M r4 70 (fun M1 => P_X6_shuts K M1 g x1 x2 x3 r4 (fun v2 M3 => Q1 (v2 ^^^ x1) M3))
set_option maxRecDepth 100000 in
set_option maxHeartbeats 4000000 in
theorem c_X8_shuts {l : Launch} {T : Nat → ClassId} {D : va_G} {ad : Nat → Nat} {K : Nat} {M : Mem} {g : Int32} {x1 : Int32} {x2 : Int32} {x3 : Int32} {r4 : Nat} {sz : Nat} {Q1 : Int32 → Mem → Prop} (hg : isKd_X8 g) (f4 : isR r4) (hB : P_X8_shuts K M g x1 x2 x3 r4 Q1) : Met l yX8_shuts (Cond.code yX8_shuts cX8_shuts 5 (some .int) :: TB) (RM 4) (va_Pc [.ref (ad g.toNatClampNeg), .int x1, .int x2, .int x3, .ref (ad r4)] (WrP EC T D ad (69 + K) M sz)) (QcW EC T D ad (69 + K) (AA ad (69 + K) sz) Q1) 0 0 (AA ad (69 + K) sz) := by
  refine st_W (by decide) (Nat.le_of_ble_eq_true rfl) (fun p e s m args below meth c ls C hr hlk hsz Z hl => ?_)
  have hl : lv_has ls 5 [(0, .ref (ad g.toNatClampNeg)), (1, .int x1), (2, .int x2), (3, .int x3), (4, .ref (ad r4))] := hl
  generalize AA ad (69 + K) sz = A at Z ⊢
  have hx := C.x
  have hb := C.b
  delta P_X8_shuts at hB
  refine lv_aload hx hb dX8_shuts_0 (lv_at hl 4 rfl) ?_
  refine lv_bipush (v := 70) hx hb dX8_shuts_2 (by decide) ?_
  refine v_X4_add C hl.1 Z f4 tw_5_5 ⟨Nat.le_of_ble_eq_true rfl, Nat.le_of_ble_eq_true rfl⟩ ⟨Nat.le_refl _, Nat.le_refl _⟩ (Nat.le_of_ble_eq_true rfl) dX8_shuts_4 hB (fun M1 H locs hB Z => ?_)
  refine lv_aload_n hx hb dX8_shuts_7 rfl (lv_at hl 0 rfl) ?_
  refine lv_iload_n hx hb dX8_shuts_8 rfl (lv_at hl 1 rfl) ?_
  refine lv_iload_n hx hb dX8_shuts_9 rfl (lv_at hl 2 rfl) ?_
  refine lv_iload_n hx hb dX8_shuts_10 rfl (lv_at hl 3 rfl) ?_
  refine lv_aload hx hb dX8_shuts_11 (lv_at hl 4 rfl) ?_
  refine v_S_X8_shuts C hl.1 Z hg f4 tw_5_6 ⟨Nat.le_of_ble_eq_true rfl, Nat.le_of_ble_eq_true rfl⟩ ⟨Nat.le_refl _, Nat.le_refl _⟩ (Nat.le_of_ble_eq_true rfl) dX8_shuts_13 hB (fun v2 M3 H locs hB Z => ?_)
  refine lv_iload_n hx hb dX8_shuts_16 rfl (lv_at hl 1 rfl) ?_
  refine lv_ixor hx hb dX8_shuts_17 ?_
  exact e_iW C hr hlk Z dX8_shuts_18 hB
def P_L_X3_pulls (K : Nat) (M : Mem) (g : Int32) (x1 : Int32) (x2 : Int32) (x3 : Int32) (r4 : Nat) (Q1 : Int32 → Mem → Prop) : Prop :=
  (g = 15 → P_X3_pulls K M g x1 x2 x3 r4 Q1) ∧
  (g = 16 → P_X0_pulls K M g x1 x2 x3 r4 Q1) ∧
  (g = 17 → P_X3_pulls K M g x1 x2 x3 r4 Q1) ∧
  (g = 18 → P_X3_pulls K M g x1 x2 x3 r4 Q1) ∧
  (g = 19 → P_X1_pulls K M g x1 x2 x3 r4 Q1) ∧
  (g = 20 → P_X3_pulls K M g x1 x2 x3 r4 Q1) ∧
  (g = 21 → P_X3_pulls K M g x1 x2 x3 r4 Q1)
set_option maxRecDepth 100000 in
set_option maxHeartbeats 4000000 in
theorem v_L_X3_pulls {K : Nat} {M : Mem} {g : Int32} {x1 : Int32} {x2 : Int32} {x3 : Int32} {r4 : Nat} {Q1 : Int32 → Mem → Prop} (C : Cx T D p s m args c cc nL own) (hls : ls.size = nL) (Z : Zz EC T D ad (69 + K) A H0 M H locs) (hg : isKd_X3 g) (f4 : isR r4) (hlink : Cond.methodLink own index (⟨"OneOfTwo$Lodger", "pulls", "(IIILOneOfTwo$Row;)I"⟩ : MethodName) ∈ TB) (hR : 6 + 1 ≤ R.frames ∧ 8 + (5 + 11) + 48 * 6 ≤ R.locals) (hcs : cells ≤ R.cells ∧ slots ≤ R.slots) (hcat : (rest.map fun v => v.category).sum ≤ 8) (hdg : decode cc pc = .ok (.invokevirtual index, 3)) (hB : P_L_X3_pulls K M g x1 x2 x3 r4 Q1)
    (kk : ∀ (r : Int32) (M1 : Mem) (H1 : Heap) (locs1 : List Loc), Q1 r M1 → Zz EC T D ad (69 + K) A H0 M1 H1 locs1 → W p l e R s m args below meth c H1 locs1 cells slots QQ (F0 m (pc + 3) ls (.int r :: rest))) : W p l e R s m args below meth c H locs cells slots QQ (F0 m pc ls (.ref (ad r4) :: .int x3 :: .int x2 :: .int x1 :: .ref (ad g.toNatClampNeg) :: rest)) := by
  rcases hg with rfl | rfl | rfl | rfl | rfl | rfl | rfl
  · exact k_UW (lv := 4) (ci := 3) (n := 4) (c_X3_pulls kd_X3_15 f4 (hB.1 rfl)) (va_cwU (x := (⟨"OneOfTwo$Lodger", "pulls", "(IIILOneOfTwo$Row;)I"⟩ : MethodName)) 4 C.1.2.2.2.2 (gdU tw_4_236 hlink tw_4_214 tw_4_213 tw_4_212 tw_1_3) rfl rfl rfl rfl ⟨by decide, by decide, by decide +kernel⟩ (rmr hR (by decide) (by decide))) rfl rfl C hls Z oL_15 hcs hcat rfl hdg kk
  · exact k_UW (lv := 5) (ci := 0) (n := 4) (c_X0_pulls kd_X0_16 f4 (hB.2.1 rfl)) (va_cwO (x := (⟨"OneOfTwo$Lodger", "pulls", "(IIILOneOfTwo$Row;)I"⟩ : MethodName)) 4 C.1.2.2.2.2 (gdO tw_4_217 hlink tw_4_214 tw_4_212 tw_4_215 tw_4_216 tw_1_4) rfl rfl rfl tw_4_236 ⟨by decide, by decide, by decide +kernel⟩ (rmr hR (by decide) (by decide))) rfl rfl C hls Z oL_16 hcs hcat rfl hdg kk
  · exact k_UW (lv := 4) (ci := 7) (n := 4) (c_X3_pulls kd_X3_17 f4 (hB.2.2.1 rfl)) (va_cwU (x := (⟨"OneOfTwo$Lodger", "pulls", "(IIILOneOfTwo$Row;)I"⟩ : MethodName)) 4 C.1.2.2.2.2 (gdU tw_4_236 hlink tw_4_214 tw_4_233 tw_4_212 tw_1_3) rfl rfl rfl rfl ⟨by decide, by decide, by decide +kernel⟩ (rmr hR (by decide) (by decide))) rfl rfl C hls Z oL_17 hcs hcat rfl hdg kk
  · exact k_UW (lv := 4) (ci := 6) (n := 4) (c_X3_pulls kd_X3_18 f4 (hB.2.2.2.1 rfl)) (va_cwU (x := (⟨"OneOfTwo$Lodger", "pulls", "(IIILOneOfTwo$Row;)I"⟩ : MethodName)) 4 C.1.2.2.2.2 (gdU tw_4_236 hlink tw_4_214 tw_4_232 tw_4_212 tw_1_3) rfl rfl rfl rfl ⟨by decide, by decide, by decide +kernel⟩ (rmr hR (by decide) (by decide))) rfl rfl C hls Z oL_18 hcs hcat rfl hdg kk
  · exact k_UW (lv := 6) (ci := 1) (n := 4) (c_X1_pulls kd_X1_19 f4 (hB.2.2.2.2.1 rfl)) (va_cwO (x := (⟨"OneOfTwo$Lodger", "pulls", "(IIILOneOfTwo$Row;)I"⟩ : MethodName)) 4 C.1.2.2.2.2 (gdO tw_4_229 hlink tw_4_214 tw_4_212 tw_4_227 tw_4_228 tw_1_7) rfl rfl rfl tw_4_236 ⟨by decide, by decide, by decide +kernel⟩ (rmr hR (by decide) (by decide))) rfl rfl C hls Z oL_19 hcs hcat rfl hdg kk
  · exact k_UW (lv := 4) (ci := 9) (n := 4) (c_X3_pulls kd_X3_20 f4 (hB.2.2.2.2.2.1 rfl)) (va_cwU (x := (⟨"OneOfTwo$Lodger", "pulls", "(IIILOneOfTwo$Row;)I"⟩ : MethodName)) 4 C.1.2.2.2.2 (gdU tw_4_236 hlink tw_4_214 tw_4_235 tw_4_212 tw_1_3) rfl rfl rfl rfl ⟨by decide, by decide, by decide +kernel⟩ (rmr hR (by decide) (by decide))) rfl rfl C hls Z oL_20 hcs hcat rfl hdg kk
  · exact k_UW (lv := 4) (ci := 8) (n := 4) (c_X3_pulls kd_X3_21 f4 (hB.2.2.2.2.2.2 rfl)) (va_cwU (x := (⟨"OneOfTwo$Lodger", "pulls", "(IIILOneOfTwo$Row;)I"⟩ : MethodName)) 4 C.1.2.2.2.2 (gdU tw_4_236 hlink tw_4_214 tw_4_234 tw_4_212 tw_1_3) rfl rfl rfl rfl ⟨by decide, by decide, by decide +kernel⟩ (rmr hR (by decide) (by decide))) rfl rfl C hls Z oL_21 hcs hcat rfl hdg kk
def P_L_X3_shuts (K : Nat) (M : Mem) (g : Int32) (x1 : Int32) (x2 : Int32) (x3 : Int32) (r4 : Nat) (Q1 : Int32 → Mem → Prop) : Prop :=
  (g = 15 → P_X3_shuts K M g x1 x2 x3 r4 Q1) ∧
  (g = 16 → P_X3_shuts K M g x1 x2 x3 r4 Q1) ∧
  (g = 17 → P_X3_shuts K M g x1 x2 x3 r4 Q1) ∧
  (g = 18 → P_X6_shuts K M g x1 x2 x3 r4 Q1) ∧
  (g = 19 → P_X3_shuts K M g x1 x2 x3 r4 Q1) ∧
  (g = 20 → P_X3_shuts K M g x1 x2 x3 r4 Q1) ∧
  (g = 21 → P_X8_shuts K M g x1 x2 x3 r4 Q1)
set_option maxRecDepth 100000 in
set_option maxHeartbeats 4000000 in
theorem v_L_X3_shuts {K : Nat} {M : Mem} {g : Int32} {x1 : Int32} {x2 : Int32} {x3 : Int32} {r4 : Nat} {Q1 : Int32 → Mem → Prop} (C : Cx T D p s m args c cc nL own) (hls : ls.size = nL) (Z : Zz EC T D ad (69 + K) A H0 M H locs) (hg : isKd_X3 g) (f4 : isR r4) (hlink : Cond.methodLink own index (⟨"OneOfTwo$Lodger", "shuts", "(IIILOneOfTwo$Row;)I"⟩ : MethodName) ∈ TB) (hR : 4 + 1 ≤ R.frames ∧ 8 + (5 + 11) + 48 * 4 ≤ R.locals) (hcs : cells ≤ R.cells ∧ slots ≤ R.slots) (hcat : (rest.map fun v => v.category).sum ≤ 8) (hdg : decode cc pc = .ok (.invokevirtual index, 3)) (hB : P_L_X3_shuts K M g x1 x2 x3 r4 Q1)
    (kk : ∀ (r : Int32) (M1 : Mem) (H1 : Heap) (locs1 : List Loc), Q1 r M1 → Zz EC T D ad (69 + K) A H0 M1 H1 locs1 → W p l e R s m args below meth c H1 locs1 cells slots QQ (F0 m (pc + 3) ls (.int r :: rest))) : W p l e R s m args below meth c H locs cells slots QQ (F0 m pc ls (.ref (ad r4) :: .int x3 :: .int x2 :: .int x1 :: .ref (ad g.toNatClampNeg) :: rest)) := by
  rcases hg with rfl | rfl | rfl | rfl | rfl | rfl | rfl
  · exact k_UW (lv := 2) (ci := 3) (n := 4) (c_X3_shuts kd_X3_15 f4 (hB.1 rfl)) (va_cwU (x := (⟨"OneOfTwo$Lodger", "shuts", "(IIILOneOfTwo$Row;)I"⟩ : MethodName)) 4 C.1.2.2.2.2 (gdU tw_4_226 hlink tw_7_128 tw_7_131 tw_4_225 tw_1_3) rfl rfl rfl rfl ⟨by decide, by decide, by decide +kernel⟩ (rmr hR (by decide) (by decide))) rfl rfl C hls Z oL_15 hcs hcat rfl hdg kk
  · exact k_UW (lv := 2) (ci := 0) (n := 4) (c_X3_shuts kd_X3_16 f4 (hB.2.1 rfl)) (va_cwU (x := (⟨"OneOfTwo$Lodger", "shuts", "(IIILOneOfTwo$Row;)I"⟩ : MethodName)) 4 C.1.2.2.2.2 (gdU tw_4_226 hlink tw_7_128 tw_7_129 tw_4_225 tw_1_3) rfl rfl rfl rfl ⟨by decide, by decide, by decide +kernel⟩ (rmr hR (by decide) (by decide))) rfl rfl C hls Z oL_16 hcs hcat rfl hdg kk
  · exact k_UW (lv := 2) (ci := 7) (n := 4) (c_X3_shuts kd_X3_17 f4 (hB.2.2.1 rfl)) (va_cwU (x := (⟨"OneOfTwo$Lodger", "shuts", "(IIILOneOfTwo$Row;)I"⟩ : MethodName)) 4 C.1.2.2.2.2 (gdU tw_4_226 hlink tw_7_128 tw_7_133 tw_4_225 tw_1_3) rfl rfl rfl rfl ⟨by decide, by decide, by decide +kernel⟩ (rmr hR (by decide) (by decide))) rfl rfl C hls Z oL_17 hcs hcat rfl hdg kk
  · exact k_UW (lv := 3) (ci := 6) (n := 4) (c_X6_shuts kd_X6_18 f4 (hB.2.2.2.1 rfl)) (va_cwO (x := (⟨"OneOfTwo$Lodger", "shuts", "(IIILOneOfTwo$Row;)I"⟩ : MethodName)) 4 C.1.2.2.2.2 (gdO tw_5_0 hlink tw_7_128 tw_4_225 tw_7_132 tw_4_239 tw_1_6) rfl rfl rfl tw_4_226 ⟨by decide, by decide, by decide +kernel⟩ (rmr hR (by decide) (by decide))) rfl rfl C hls Z oL_18 hcs hcat rfl hdg kk
  · exact k_UW (lv := 2) (ci := 1) (n := 4) (c_X3_shuts kd_X3_19 f4 (hB.2.2.2.2.1 rfl)) (va_cwU (x := (⟨"OneOfTwo$Lodger", "shuts", "(IIILOneOfTwo$Row;)I"⟩ : MethodName)) 4 C.1.2.2.2.2 (gdU tw_4_226 hlink tw_7_128 tw_7_130 tw_4_225 tw_1_3) rfl rfl rfl rfl ⟨by decide, by decide, by decide +kernel⟩ (rmr hR (by decide) (by decide))) rfl rfl C hls Z oL_19 hcs hcat rfl hdg kk
  · exact k_UW (lv := 2) (ci := 9) (n := 4) (c_X3_shuts kd_X3_20 f4 (hB.2.2.2.2.2.1 rfl)) (va_cwU (x := (⟨"OneOfTwo$Lodger", "shuts", "(IIILOneOfTwo$Row;)I"⟩ : MethodName)) 4 C.1.2.2.2.2 (gdU tw_4_226 hlink tw_7_128 tw_7_136 tw_4_225 tw_1_3) rfl rfl rfl rfl ⟨by decide, by decide, by decide +kernel⟩ (rmr hR (by decide) (by decide))) rfl rfl C hls Z oL_20 hcs hcat rfl hdg kk
  · exact k_UW (lv := 4) (ci := 8) (n := 4) (c_X8_shuts kd_X8_21 f4 (hB.2.2.2.2.2.2 rfl)) (va_cwO (x := (⟨"OneOfTwo$Lodger", "shuts", "(IIILOneOfTwo$Row;)I"⟩ : MethodName)) 4 C.1.2.2.2.2 (gdO tw_5_4 hlink tw_7_128 tw_4_225 tw_7_134 tw_5_3 tw_1_9) rfl rfl rfl tw_4_226 ⟨by decide, by decide, by decide +kernel⟩ (rmr hR (by decide) (by decide))) rfl rfl C hls Z oL_21 hcs hcat rfl hdg kk
def P_X3_tells (K : Nat) (M : Mem) (g : Int32) (x1 : Int32) (x2 : Int32) (x3 : Int32) (r4 : Nat) (Q1 : Int32 → Mem → Prop) : Prop :=
  P_X4_add K M r4 13 (fun M1 => P_L_X3_pulls K M1 g x1 x2 x3 r4 (fun v2 M3 => P_L_X3_shuts K M3 g x1 x2 x3 r4 (fun v4 M5 => Q1 (v2 ^^^ v4) M5)))
set_option maxRecDepth 100000 in
set_option maxHeartbeats 4000000 in
theorem c_X3_tells {l : Launch} {T : Nat → ClassId} {D : va_G} {ad : Nat → Nat} {K : Nat} {M : Mem} {g : Int32} {x1 : Int32} {x2 : Int32} {x3 : Int32} {r4 : Nat} {sz : Nat} {Q1 : Int32 → Mem → Prop} (hg : isKd_X3 g) (f4 : isR r4) (hB : P_X3_tells K M g x1 x2 x3 r4 Q1) : Met l yX3_tells (Cond.code yX3_tells cX3_tells 5 (some .int) :: TB) (RM 7) (va_Pc [.ref (ad g.toNatClampNeg), .int x1, .int x2, .int x3, .ref (ad r4)] (WrP EC T D ad (69 + K) M sz)) (QcW EC T D ad (69 + K) (AA ad (69 + K) sz) Q1) 0 0 (AA ad (69 + K) sz) := by
  refine st_W (by decide) (Nat.le_of_ble_eq_true rfl) (fun p e s m args below meth c ls C hr hlk hsz Z hl => ?_)
  have hl : lv_has ls 5 [(0, .ref (ad g.toNatClampNeg)), (1, .int x1), (2, .int x2), (3, .int x3), (4, .ref (ad r4))] := hl
  generalize AA ad (69 + K) sz = A at Z ⊢
  have hx := C.x
  have hb := C.b
  delta P_X3_tells at hB
  refine lv_aload hx hb dX3_tells_0 (lv_at hl 4 rfl) ?_
  refine lv_bipush (v := 13) hx hb dX3_tells_2 (by decide) ?_
  refine v_X4_add C hl.1 Z f4 tw_4_210 ⟨Nat.le_of_ble_eq_true rfl, Nat.le_of_ble_eq_true rfl⟩ ⟨Nat.le_refl _, Nat.le_refl _⟩ (Nat.le_of_ble_eq_true rfl) dX3_tells_4 hB (fun M1 H locs hB Z => ?_)
  refine lv_aload_n hx hb dX3_tells_7 rfl (lv_at hl 0 rfl) ?_
  refine lv_iload_n hx hb dX3_tells_8 rfl (lv_at hl 1 rfl) ?_
  refine lv_iload_n hx hb dX3_tells_9 rfl (lv_at hl 2 rfl) ?_
  refine lv_iload_n hx hb dX3_tells_10 rfl (lv_at hl 3 rfl) ?_
  refine lv_aload hx hb dX3_tells_11 (lv_at hl 4 rfl) ?_
  refine v_L_X3_pulls C hl.1 Z hg f4 tw_5_36 ⟨Nat.le_of_ble_eq_true rfl, Nat.le_of_ble_eq_true rfl⟩ ⟨Nat.le_refl _, Nat.le_refl _⟩ (Nat.le_of_ble_eq_true rfl) dX3_tells_13 hB (fun v2 M3 H locs hB Z => ?_)
  refine lv_aload_n hx hb dX3_tells_16 rfl (lv_at hl 0 rfl) ?_
  refine lv_iload_n hx hb dX3_tells_17 rfl (lv_at hl 1 rfl) ?_
  refine lv_iload_n hx hb dX3_tells_18 rfl (lv_at hl 2 rfl) ?_
  refine lv_iload_n hx hb dX3_tells_19 rfl (lv_at hl 3 rfl) ?_
  refine lv_aload hx hb dX3_tells_20 (lv_at hl 4 rfl) ?_
  refine v_L_X3_shuts C hl.1 Z hg f4 tw_5_37 ⟨Nat.le_of_ble_eq_true rfl, Nat.le_of_ble_eq_true rfl⟩ ⟨Nat.le_refl _, Nat.le_refl _⟩ (Nat.le_of_ble_eq_true rfl) dX3_tells_22 hB (fun v4 M5 H locs hB Z => ?_)
  refine lv_ixor hx hb dX3_tells_25 ?_
  exact e_iW C hr hlk Z dX3_tells_26 hB
def P_L_X8_pulls (K : Nat) (M : Mem) (g : Int32) (x1 : Int32) (x2 : Int32) (x3 : Int32) (r4 : Nat) (Q1 : Int32 → Mem → Prop) : Prop :=
  (g = 21 → P_X3_pulls K M g x1 x2 x3 r4 Q1)
set_option maxRecDepth 100000 in
set_option maxHeartbeats 4000000 in
theorem v_L_X8_pulls {K : Nat} {M : Mem} {g : Int32} {x1 : Int32} {x2 : Int32} {x3 : Int32} {r4 : Nat} {Q1 : Int32 → Mem → Prop} (C : Cx T D p s m args c cc nL own) (hls : ls.size = nL) (Z : Zz EC T D ad (69 + K) A H0 M H locs) (hg : isKd_X8 g) (f4 : isR r4) (hlink : Cond.methodLink own index (⟨"OneOfTwo$Spiteful", "pulls", "(IIILOneOfTwo$Row;)I"⟩ : MethodName) ∈ TB) (hR : 4 + 1 ≤ R.frames ∧ 8 + (5 + 11) + 48 * 4 ≤ R.locals) (hcs : cells ≤ R.cells ∧ slots ≤ R.slots) (hcat : (rest.map fun v => v.category).sum ≤ 8) (hdg : decode cc pc = .ok (.invokevirtual index, 3)) (hB : P_L_X8_pulls K M g x1 x2 x3 r4 Q1)
    (kk : ∀ (r : Int32) (M1 : Mem) (H1 : Heap) (locs1 : List Loc), Q1 r M1 → Zz EC T D ad (69 + K) A H0 M1 H1 locs1 → W p l e R s m args below meth c H1 locs1 cells slots QQ (F0 m (pc + 3) ls (.int r :: rest))) : W p l e R s m args below meth c H locs cells slots QQ (F0 m pc ls (.ref (ad r4) :: .int x3 :: .int x2 :: .int x1 :: .ref (ad g.toNatClampNeg) :: rest)) := by
  obtain rfl := hg
  exact k_UW (lv := 4) (ci := 8) (n := 4) (c_X3_pulls kd_X3_21 f4 (hB rfl)) (va_cwU (x := (⟨"OneOfTwo$Spiteful", "pulls", "(IIILOneOfTwo$Row;)I"⟩ : MethodName)) 4 C.1.2.2.2.2 (gdU tw_4_236 hlink tw_5_19 tw_5_21 tw_4_212 tw_1_3) rfl rfl rfl rfl ⟨by decide, by decide, by decide +kernel⟩ (rmr hR (by decide) (by decide))) rfl rfl C hls Z oL_21 hcs hcat rfl hdg kk
set_option maxRecDepth 100000 in
set_option maxHeartbeats 4000000 in
theorem v_S_X8_tells {K : Nat} {M : Mem} {g : Int32} {x1 : Int32} {x2 : Int32} {x3 : Int32} {r4 : Nat} {Q1 : Int32 → Mem → Prop} (C : Cx T D p s m args c cc nL "OneOfTwo$Spiteful") (hls : ls.size = nL) (Z : Zz EC T D ad (69 + K) A H0 M H locs) (hg : isKd_X8 g) (f4 : isR r4) (hlink : Cond.methodLink "OneOfTwo$Spiteful" index (⟨"OneOfTwo$Sleeper", "tells", "(IIILOneOfTwo$Row;)I"⟩ : MethodName) ∈ TB) (hR : 7 + 1 ≤ R.frames ∧ 8 + (5 + 11) + 48 * 7 ≤ R.locals) (hcs : cells ≤ R.cells ∧ slots ≤ R.slots) (hcat : (rest.map fun v => v.category).sum ≤ 8) (hdg : decode cc pc = .ok (.invokespecial index, 3)) (hB : P_X3_tells K M g x1 x2 x3 r4 Q1)
    (kk : ∀ (r : Int32) (M1 : Mem) (H1 : Heap) (locs1 : List Loc), Q1 r M1 → Zz EC T D ad (69 + K) A H0 M1 H1 locs1 → W p l e R s m args below meth c H1 locs1 cells slots QQ (F0 m (pc + 3) ls (.int r :: rest))) : W p l e R s m args below meth c H locs cells slots QQ (F0 m pc ls (.ref (ad r4) :: .int x3 :: .int x2 :: .int x1 :: .ref (ad g.toNatClampNeg) :: rest)) := by
  obtain rfl := hg
  exact k_SXW (lv := 7) (ci := 8) (n := 4) (x := (⟨"OneOfTwo$Sleeper", "tells", "(IIILOneOfTwo$Row;)I"⟩ : MethodName)) (c_X3_tells kd_X3_21 f4 hB) hlink tw_5_23 tw_1_115 tw_1_91 tw_5_8 tw_1_3 tw_5_35 ⟨by decide, by decide +kernel⟩ (rmr hR (by decide) (by decide)) rfl rfl rfl C hls Z oL_21 hcs hcat rfl hdg kk
def P_X8_tells (K : Nat) (M : Mem) (g : Int32) (x1 : Int32) (x2 : Int32) (x3 : Int32) (r4 : Nat) (Q1 : Int32 → Mem → Prop) : Prop :=
  P_X4_add K M r4 71 (fun M1 => P_L_X8_pulls K M1 g x1 x2 x3 r4 (fun v2 M3 => P_X3_tells K M3 g x1 x2 x3 r4 (fun v4 M5 => Q1 (v2 - v4) M5)))
set_option maxRecDepth 100000 in
set_option maxHeartbeats 4000000 in
theorem c_X8_tells {l : Launch} {T : Nat → ClassId} {D : va_G} {ad : Nat → Nat} {K : Nat} {M : Mem} {g : Int32} {x1 : Int32} {x2 : Int32} {x3 : Int32} {r4 : Nat} {sz : Nat} {Q1 : Int32 → Mem → Prop} (hg : isKd_X8 g) (f4 : isR r4) (hB : P_X8_tells K M g x1 x2 x3 r4 Q1) : Met l yX8_tells (Cond.code yX8_tells cX8_tells 5 (some .int) :: TB) (RM 8) (va_Pc [.ref (ad g.toNatClampNeg), .int x1, .int x2, .int x3, .ref (ad r4)] (WrP EC T D ad (69 + K) M sz)) (QcW EC T D ad (69 + K) (AA ad (69 + K) sz) Q1) 0 0 (AA ad (69 + K) sz) := by
  refine st_W (by decide) (Nat.le_of_ble_eq_true rfl) (fun p e s m args below meth c ls C hr hlk hsz Z hl => ?_)
  have hl : lv_has ls 5 [(0, .ref (ad g.toNatClampNeg)), (1, .int x1), (2, .int x2), (3, .int x3), (4, .ref (ad r4))] := hl
  generalize AA ad (69 + K) sz = A at Z ⊢
  have hx := C.x
  have hb := C.b
  delta P_X8_tells at hB
  refine lv_aload hx hb dX8_tells_0 (lv_at hl 4 rfl) ?_
  refine lv_bipush (v := 71) hx hb dX8_tells_2 (by decide) ?_
  refine v_X4_add C hl.1 Z f4 tw_5_5 ⟨Nat.le_of_ble_eq_true rfl, Nat.le_of_ble_eq_true rfl⟩ ⟨Nat.le_refl _, Nat.le_refl _⟩ (Nat.le_of_ble_eq_true rfl) dX8_tells_4 hB (fun M1 H locs hB Z => ?_)
  refine lv_aload_n hx hb dX8_tells_7 rfl (lv_at hl 0 rfl) ?_
  refine lv_iload_n hx hb dX8_tells_8 rfl (lv_at hl 1 rfl) ?_
  refine lv_iload_n hx hb dX8_tells_9 rfl (lv_at hl 2 rfl) ?_
  refine lv_iload_n hx hb dX8_tells_10 rfl (lv_at hl 3 rfl) ?_
  refine lv_aload hx hb dX8_tells_11 (lv_at hl 4 rfl) ?_
  refine v_L_X8_pulls C hl.1 Z hg f4 tw_5_18 ⟨Nat.le_of_ble_eq_true rfl, Nat.le_of_ble_eq_true rfl⟩ ⟨Nat.le_refl _, Nat.le_refl _⟩ (Nat.le_of_ble_eq_true rfl) dX8_tells_13 hB (fun v2 M3 H locs hB Z => ?_)
  refine lv_aload_n hx hb dX8_tells_16 rfl (lv_at hl 0 rfl) ?_
  refine lv_iload_n hx hb dX8_tells_17 rfl (lv_at hl 1 rfl) ?_
  refine lv_iload_n hx hb dX8_tells_18 rfl (lv_at hl 2 rfl) ?_
  refine lv_iload_n hx hb dX8_tells_19 rfl (lv_at hl 3 rfl) ?_
  refine lv_aload hx hb dX8_tells_20 (lv_at hl 4 rfl) ?_
  refine v_S_X8_tells C hl.1 Z hg f4 tw_5_22 ⟨Nat.le_of_ble_eq_true rfl, Nat.le_of_ble_eq_true rfl⟩ ⟨Nat.le_refl _, Nat.le_refl _⟩ (Nat.le_of_ble_eq_true rfl) dX8_tells_22 hB (fun v4 M5 H locs hB Z => ?_)
  refine lv_isub hx hb dX8_tells_25 ?_
  exact e_iW C hr hlk Z dX8_tells_26 hB
set_option maxRecDepth 100000 in
set_option maxHeartbeats 4000000 in
theorem v_S_X9_tells {K : Nat} {M : Mem} {g : Int32} {x1 : Int32} {x2 : Int32} {x3 : Int32} {r4 : Nat} {Q1 : Int32 → Mem → Prop} (C : Cx T D p s m args c cc nL "OneOfTwo$Strong") (hls : ls.size = nL) (Z : Zz EC T D ad (69 + K) A H0 M H locs) (hg : isKd_X9 g) (f4 : isR r4) (hlink : Cond.methodLink "OneOfTwo$Strong" index (⟨"OneOfTwo$Smoker", "tells", "(IIILOneOfTwo$Row;)I"⟩ : MethodName) ∈ TB) (hR : 7 + 1 ≤ R.frames ∧ 8 + (5 + 11) + 48 * 7 ≤ R.locals) (hcs : cells ≤ R.cells ∧ slots ≤ R.slots) (hcat : (rest.map fun v => v.category).sum ≤ 8) (hdg : decode cc pc = .ok (.invokespecial index, 3)) (hB : P_X3_tells K M g x1 x2 x3 r4 Q1)
    (kk : ∀ (r : Int32) (M1 : Mem) (H1 : Heap) (locs1 : List Loc), Q1 r M1 → Zz EC T D ad (69 + K) A H0 M1 H1 locs1 → W p l e R s m args below meth c H1 locs1 cells slots QQ (F0 m (pc + 3) ls (.int r :: rest))) : W p l e R s m args below meth c H locs cells slots QQ (F0 m pc ls (.ref (ad r4) :: .int x3 :: .int x2 :: .int x1 :: .ref (ad g.toNatClampNeg) :: rest)) := by
  obtain rfl := hg
  exact k_SXW (lv := 7) (ci := 9) (n := 4) (x := (⟨"OneOfTwo$Smoker", "tells", "(IIILOneOfTwo$Row;)I"⟩ : MethodName)) (c_X3_tells kd_X3_20 f4 hB) hlink tw_5_30 tw_1_107 tw_1_83 tw_5_8 tw_1_3 tw_5_35 ⟨by decide, by decide +kernel⟩ (rmr hR (by decide) (by decide)) rfl rfl rfl C hls Z oL_20 hcs hcat rfl hdg kk
def P_L_X9_wakes (K : Nat) (M : Mem) (g : Int32) (x1 : Int32) (x2 : Int32) (x3 : Int32) (r4 : Nat) (Q1 : Int32 → Mem → Prop) : Prop :=
  (g = 20 → P_X7_wakes K M g x1 x2 x3 r4 Q1)
set_option maxRecDepth 100000 in
set_option maxHeartbeats 4000000 in
theorem v_L_X9_wakes {K : Nat} {M : Mem} {g : Int32} {x1 : Int32} {x2 : Int32} {x3 : Int32} {r4 : Nat} {Q1 : Int32 → Mem → Prop} (C : Cx T D p s m args c cc nL own) (hls : ls.size = nL) (Z : Zz EC T D ad (69 + K) A H0 M H locs) (hg : isKd_X9 g) (f4 : isR r4) (hlink : Cond.methodLink own index (⟨"OneOfTwo$Strong", "wakes", "(IIILOneOfTwo$Row;)I"⟩ : MethodName) ∈ TB) (hR : 3 + 1 ≤ R.frames ∧ 8 + (5 + 11) + 48 * 3 ≤ R.locals) (hcs : cells ≤ R.cells ∧ slots ≤ R.slots) (hcat : (rest.map fun v => v.category).sum ≤ 8) (hdg : decode cc pc = .ok (.invokevirtual index, 3)) (hB : P_L_X9_wakes K M g x1 x2 x3 r4 Q1)
    (kk : ∀ (r : Int32) (M1 : Mem) (H1 : Heap) (locs1 : List Loc), Q1 r M1 → Zz EC T D ad (69 + K) A H0 M1 H1 locs1 → W p l e R s m args below meth c H1 locs1 cells slots QQ (F0 m (pc + 3) ls (.int r :: rest))) : W p l e R s m args below meth c H locs cells slots QQ (F0 m pc ls (.ref (ad r4) :: .int x3 :: .int x2 :: .int x1 :: .ref (ad g.toNatClampNeg) :: rest)) := by
  obtain rfl := hg
  exact k_UW (lv := 3) (ci := 9) (n := 4) (c_X7_wakes kd_X7_20 f4 (hB rfl)) (va_cwU (x := (⟨"OneOfTwo$Strong", "wakes", "(IIILOneOfTwo$Row;)I"⟩ : MethodName)) 4 C.1.2.2.2.2 (gdU tw_4_204 hlink tw_5_32 tw_5_34 tw_4_203 tw_1_5) rfl rfl rfl rfl ⟨by decide, by decide, by decide +kernel⟩ (rmr hR (by decide) (by decide))) rfl rfl C hls Z oL_20 hcs hcat rfl hdg kk
def P_X9_tells (K : Nat) (M : Mem) (g : Int32) (x1 : Int32) (x2 : Int32) (x3 : Int32) (r4 : Nat) (Q1 : Int32 → Mem → Prop) : Prop :=
  P_X4_add K M r4 60 (fun M1 => P_X3_tells K M1 g x1 x2 x3 r4 (fun v2 M3 => P_L_X9_wakes K M3 g x1 x2 2 r4 (fun v4 M5 => Q1 (v2 - v4) M5)))
set_option maxRecDepth 100000 in
set_option maxHeartbeats 4000000 in
theorem c_X9_tells {l : Launch} {T : Nat → ClassId} {D : va_G} {ad : Nat → Nat} {K : Nat} {M : Mem} {g : Int32} {x1 : Int32} {x2 : Int32} {x3 : Int32} {r4 : Nat} {sz : Nat} {Q1 : Int32 → Mem → Prop} (hg : isKd_X9 g) (f4 : isR r4) (hB : P_X9_tells K M g x1 x2 x3 r4 Q1) : Met l yX9_tells (Cond.code yX9_tells cX9_tells 5 (some .int) :: TB) (RM 8) (va_Pc [.ref (ad g.toNatClampNeg), .int x1, .int x2, .int x3, .ref (ad r4)] (WrP EC T D ad (69 + K) M sz)) (QcW EC T D ad (69 + K) (AA ad (69 + K) sz) Q1) 0 0 (AA ad (69 + K) sz) := by
  refine st_W (by decide) (Nat.le_of_ble_eq_true rfl) (fun p e s m args below meth c ls C hr hlk hsz Z hl => ?_)
  have hl : lv_has ls 5 [(0, .ref (ad g.toNatClampNeg)), (1, .int x1), (2, .int x2), (3, .int x3), (4, .ref (ad r4))] := hl
  generalize AA ad (69 + K) sz = A at Z ⊢
  have hx := C.x
  have hb := C.b
  delta P_X9_tells at hB
  refine lv_aload hx hb dX9_tells_0 (lv_at hl 4 rfl) ?_
  refine lv_bipush (v := 60) hx hb dX9_tells_2 (by decide) ?_
  refine v_X4_add C hl.1 Z f4 tw_5_28 ⟨Nat.le_of_ble_eq_true rfl, Nat.le_of_ble_eq_true rfl⟩ ⟨Nat.le_refl _, Nat.le_refl _⟩ (Nat.le_of_ble_eq_true rfl) dX9_tells_4 hB (fun M1 H locs hB Z => ?_)
  refine lv_aload_n hx hb dX9_tells_7 rfl (lv_at hl 0 rfl) ?_
  refine lv_iload_n hx hb dX9_tells_8 rfl (lv_at hl 1 rfl) ?_
  refine lv_iload_n hx hb dX9_tells_9 rfl (lv_at hl 2 rfl) ?_
  refine lv_iload_n hx hb dX9_tells_10 rfl (lv_at hl 3 rfl) ?_
  refine lv_aload hx hb dX9_tells_11 (lv_at hl 4 rfl) ?_
  refine v_S_X9_tells C hl.1 Z hg f4 tw_5_29 ⟨Nat.le_of_ble_eq_true rfl, Nat.le_of_ble_eq_true rfl⟩ ⟨Nat.le_refl _, Nat.le_refl _⟩ (Nat.le_of_ble_eq_true rfl) dX9_tells_13 hB (fun v2 M3 H locs hB Z => ?_)
  refine lv_aload_n hx hb dX9_tells_16 rfl (lv_at hl 0 rfl) ?_
  refine lv_iload_n hx hb dX9_tells_17 rfl (lv_at hl 1 rfl) ?_
  refine lv_iload_n hx hb dX9_tells_18 rfl (lv_at hl 2 rfl) ?_
  refine lv_iconst (v := 2) hx hb dX9_tells_19 (by decide) ?_
  refine lv_aload hx hb dX9_tells_20 (lv_at hl 4 rfl) ?_
  refine v_L_X9_wakes C hl.1 Z hg f4 tw_5_31 ⟨Nat.le_of_ble_eq_true rfl, Nat.le_of_ble_eq_true rfl⟩ ⟨Nat.le_refl _, Nat.le_refl _⟩ (Nat.le_of_ble_eq_true rfl) dX9_tells_22 hB (fun v4 M5 H locs hB Z => ?_)
  refine lv_isub hx hb dX9_tells_25 ?_
  exact e_iW C hr hlk Z dX9_tells_26 hB
def P_L_X3_tells (K : Nat) (M : Mem) (g : Int32) (x1 : Int32) (x2 : Int32) (x3 : Int32) (r4 : Nat) (Q1 : Int32 → Mem → Prop) : Prop :=
  (g = 15 → P_X3_tells K M g x1 x2 x3 r4 Q1) ∧
  (g = 16 → P_X3_tells K M g x1 x2 x3 r4 Q1) ∧
  (g = 17 → P_X3_tells K M g x1 x2 x3 r4 Q1) ∧
  (g = 18 → P_X3_tells K M g x1 x2 x3 r4 Q1) ∧
  (g = 19 → P_X3_tells K M g x1 x2 x3 r4 Q1) ∧
  (g = 20 → P_X9_tells K M g x1 x2 x3 r4 Q1) ∧
  (g = 21 → P_X8_tells K M g x1 x2 x3 r4 Q1)
set_option maxRecDepth 100000 in
set_option maxHeartbeats 4000000 in
theorem v_L_X3_tells {K : Nat} {M : Mem} {g : Int32} {x1 : Int32} {x2 : Int32} {x3 : Int32} {r4 : Nat} {Q1 : Int32 → Mem → Prop} (C : Cx T D p s m args c cc nL own) (hls : ls.size = nL) (Z : Zz EC T D ad (69 + K) A H0 M H locs) (hg : isKd_X3 g) (f4 : isR r4) (hlink : Cond.methodLink own index (⟨"OneOfTwo$Lodger", "tells", "(IIILOneOfTwo$Row;)I"⟩ : MethodName) ∈ TB) (hR : 8 + 1 ≤ R.frames ∧ 8 + (5 + 11) + 48 * 8 ≤ R.locals) (hcs : cells ≤ R.cells ∧ slots ≤ R.slots) (hcat : (rest.map fun v => v.category).sum ≤ 8) (hdg : decode cc pc = .ok (.invokevirtual index, 3)) (hB : P_L_X3_tells K M g x1 x2 x3 r4 Q1)
    (kk : ∀ (r : Int32) (M1 : Mem) (H1 : Heap) (locs1 : List Loc), Q1 r M1 → Zz EC T D ad (69 + K) A H0 M1 H1 locs1 → W p l e R s m args below meth c H1 locs1 cells slots QQ (F0 m (pc + 3) ls (.int r :: rest))) : W p l e R s m args below meth c H locs cells slots QQ (F0 m pc ls (.ref (ad r4) :: .int x3 :: .int x2 :: .int x1 :: .ref (ad g.toNatClampNeg) :: rest)) := by
  rcases hg with rfl | rfl | rfl | rfl | rfl | rfl | rfl
  · exact k_UW (lv := 7) (ci := 3) (n := 4) (c_X3_tells kd_X3_15 f4 (hB.1 rfl)) (va_cwU (x := (⟨"OneOfTwo$Lodger", "tells", "(IIILOneOfTwo$Row;)I"⟩ : MethodName)) 4 C.1.2.2.2.2 (gdU tw_5_35 hlink tw_5_10 tw_5_9 tw_5_8 tw_1_3) rfl rfl rfl rfl ⟨by decide, by decide, by decide +kernel⟩ (rmr hR (by decide) (by decide))) rfl rfl C hls Z oL_15 hcs hcat rfl hdg kk
  · exact k_UW (lv := 7) (ci := 0) (n := 4) (c_X3_tells kd_X3_16 f4 (hB.2.1 rfl)) (va_cwU (x := (⟨"OneOfTwo$Lodger", "tells", "(IIILOneOfTwo$Row;)I"⟩ : MethodName)) 4 C.1.2.2.2.2 (gdU tw_5_35 hlink tw_5_10 tw_5_11 tw_5_8 tw_1_3) rfl rfl rfl rfl ⟨by decide, by decide, by decide +kernel⟩ (rmr hR (by decide) (by decide))) rfl rfl C hls Z oL_16 hcs hcat rfl hdg kk
  · exact k_UW (lv := 7) (ci := 7) (n := 4) (c_X3_tells kd_X3_17 f4 (hB.2.2.1 rfl)) (va_cwU (x := (⟨"OneOfTwo$Lodger", "tells", "(IIILOneOfTwo$Row;)I"⟩ : MethodName)) 4 C.1.2.2.2.2 (gdU tw_5_35 hlink tw_5_10 tw_5_14 tw_5_8 tw_1_3) rfl rfl rfl rfl ⟨by decide, by decide, by decide +kernel⟩ (rmr hR (by decide) (by decide))) rfl rfl C hls Z oL_17 hcs hcat rfl hdg kk
  · exact k_UW (lv := 7) (ci := 6) (n := 4) (c_X3_tells kd_X3_18 f4 (hB.2.2.2.1 rfl)) (va_cwU (x := (⟨"OneOfTwo$Lodger", "tells", "(IIILOneOfTwo$Row;)I"⟩ : MethodName)) 4 C.1.2.2.2.2 (gdU tw_5_35 hlink tw_5_10 tw_5_13 tw_5_8 tw_1_3) rfl rfl rfl rfl ⟨by decide, by decide, by decide +kernel⟩ (rmr hR (by decide) (by decide))) rfl rfl C hls Z oL_18 hcs hcat rfl hdg kk
  · exact k_UW (lv := 7) (ci := 1) (n := 4) (c_X3_tells kd_X3_19 f4 (hB.2.2.2.2.1 rfl)) (va_cwU (x := (⟨"OneOfTwo$Lodger", "tells", "(IIILOneOfTwo$Row;)I"⟩ : MethodName)) 4 C.1.2.2.2.2 (gdU tw_5_35 hlink tw_5_10 tw_5_12 tw_5_8 tw_1_3) rfl rfl rfl rfl ⟨by decide, by decide, by decide +kernel⟩ (rmr hR (by decide) (by decide))) rfl rfl C hls Z oL_19 hcs hcat rfl hdg kk
  · exact k_UW (lv := 8) (ci := 9) (n := 4) (c_X9_tells kd_X9_20 f4 (hB.2.2.2.2.2.1 rfl)) (va_cwO (x := (⟨"OneOfTwo$Lodger", "tells", "(IIILOneOfTwo$Row;)I"⟩ : MethodName)) 4 C.1.2.2.2.2 (gdO tw_5_27 hlink tw_5_10 tw_5_8 tw_5_25 tw_5_26 tw_1_8) rfl rfl rfl tw_5_35 ⟨by decide, by decide, by decide +kernel⟩ (rmr hR (by decide) (by decide))) rfl rfl C hls Z oL_20 hcs hcat rfl hdg kk
  · exact k_UW (lv := 8) (ci := 8) (n := 4) (c_X8_tells kd_X8_21 f4 (hB.2.2.2.2.2.2 rfl)) (va_cwO (x := (⟨"OneOfTwo$Lodger", "tells", "(IIILOneOfTwo$Row;)I"⟩ : MethodName)) 4 C.1.2.2.2.2 (gdO tw_5_17 hlink tw_5_10 tw_5_8 tw_5_15 tw_5_16 tw_1_9) rfl rfl rfl tw_5_35 ⟨by decide, by decide, by decide +kernel⟩ (rmr hR (by decide) (by decide))) rfl rfl C hls Z oL_21 hcs hcat rfl hdg kk
def P_X11_voice (K : Nat) (M : Mem) (x1 : Int32) (x2 : Int32) (x3 : Int32) (Q1 : Int32 → Mem → Prop) : Prop :=
  P_X11_isLodger K M x1 (fun v1 => ((v1 = 0 → P_X11_error K M 1 (fun v3 M4 => Q1 v3 M4)) ∧
    (¬ v1 = 0 → ((x2 < 0 → P_X11_error K M 1 (fun v6 M7 => Q1 v6 M7)) ∧
      (¬ x2 < 0 → ((x2 ≤ 3 → ∀ M9 : Mem, M9 = sf M 5 1 0 → vp_in x1 6 ∧ ∀ u11 : Int32, u11 = M9 35 x1.toNatClampNeg → isKd_X3 u11 ∧ vp_in x1 6 ∧ ∀ x5_14 : Int32, x5_14 = M9 36 x1.toNatClampNeg → ((x2 = 0 → P_L_X3_wakes K M9 u11 x1 x5_14 x3 5 (fun v16 M17 => Q1 v16 M17)) ∧
          (x2 = 1 → P_L_X3_pulls K M9 u11 x1 x5_14 x3 5 (fun v18 M19 => Q1 v18 M19)) ∧
          (x2 = 2 → P_L_X3_shuts K M9 u11 x1 x5_14 x3 5 (fun v20 M21 => Q1 v20 M21)) ∧
          (¬ x2 = 0 → ¬ x2 = 1 → ¬ x2 = 2 → P_L_X3_tells K M9 u11 x1 x5_14 x3 5 (fun v22 M23 => Q1 v22 M23)))) ∧
        (¬ x2 ≤ 3 → P_X11_error K M 1 (fun v24 M25 => Q1 v24 M25))))))))
set_option maxRecDepth 100000 in
set_option maxHeartbeats 4000000 in
theorem c_X11_voice {l : Launch} {T : Nat → ClassId} {D : va_G} {ad : Nat → Nat} {K : Nat} {M : Mem} {x1 : Int32} {x2 : Int32} {x3 : Int32} {sz : Nat} {Q1 : Int32 → Mem → Prop} (hB : P_X11_voice K M x1 x2 x3 Q1) : Met l yX11_voice (Cond.code yX11_voice cX11_voice 6 (some .int) :: TB) (RM 9) (va_Pc [.ref (ad 0), .int x1, .int x2, .int x3] (WrP EC T D ad (69 + K) M sz)) (QcW EC T D ad (69 + K) (AA ad (69 + K) sz) Q1) 0 0 (AA ad (69 + K) sz) := by
  refine st_W (by decide) (Nat.le_of_ble_eq_true rfl) (fun p e s m args below meth c ls C hr hlk hsz Z hl => ?_)
  have hl : lv_has ls 6 [(0, .ref (ad 0)), (1, .int x1), (2, .int x2), (3, .int x3)] := hl
  generalize AA ad (69 + K) sz = A at Z ⊢
  have hx := C.x
  have hb := C.b
  delta P_X11_voice at hB
  refine lv_aload_n hx hb dX11_voice_0 rfl (lv_at hl 0 rfl) ?_
  refine lv_iload_n hx hb dX11_voice_1 rfl (lv_at hl 1 rfl) ?_
  refine v_X11_isLodger C hl.1 Z.1 tw_2_197 ⟨Nat.le_of_ble_eq_true rfl, Nat.le_of_ble_eq_true rfl⟩ ⟨Nat.le_refl _, Nat.le_refl _⟩ (Nat.le_of_ble_eq_true rfl) dX11_voice_2 hB (fun v1 hB => ?_)
  refine lv_if_eq (tgt := 17) hx hb dX11_voice_5 (by decide) (fun q2 => ?_) (fun q2 => ?_)
  · have hB := hB.1 q2
    refine lv_aload_n hx hb dX11_voice_17 rfl (lv_at hl 0 rfl) ?_
    refine lv_iconst (v := 1) hx hb dX11_voice_18 (by decide) ?_
    refine v_X11_error C hl.1 Z tw_2_56 ⟨Nat.le_of_ble_eq_true rfl, Nat.le_of_ble_eq_true rfl⟩ ⟨Nat.le_refl _, Nat.le_refl _⟩ (Nat.le_of_ble_eq_true rfl) dX11_voice_19 hB (fun v3 M4 H locs hB Z => ?_)
    exact e_iW C hr hlk Z dX11_voice_22 hB
  · have hB := hB.2 q2
    refine lv_iload_n hx hb dX11_voice_8 rfl (lv_at hl 2 rfl) ?_
    refine lv_if_lt (tgt := 17) hx hb dX11_voice_9 (by decide) (fun q5 => ?_) (fun q5 => ?_)
    · have hB := hB.1 q5
      refine lv_aload_n hx hb dX11_voice_17 rfl (lv_at hl 0 rfl) ?_
      refine lv_iconst (v := 1) hx hb dX11_voice_18 (by decide) ?_
      refine v_X11_error C hl.1 Z tw_2_56 ⟨Nat.le_of_ble_eq_true rfl, Nat.le_of_ble_eq_true rfl⟩ ⟨Nat.le_refl _, Nat.le_refl _⟩ (Nat.le_of_ble_eq_true rfl) dX11_voice_19 hB (fun v6 M7 H locs hB Z => ?_)
      exact e_iW C hr hlk Z dX11_voice_22 hB
    · have hB := hB.2 q5
      refine lv_iload_n hx hb dX11_voice_12 rfl (lv_at hl 2 rfl) ?_
      refine lv_iconst (v := 3) hx hb dX11_voice_13 (by decide) ?_
      refine lv_icmp_le (tgt := 23) hx hb dX11_voice_14 (by decide) (fun q8 => ?_) (fun q8 => ?_)
      · have hB := hB.1 q8
        refine lv_aload_n hx hb dX11_voice_23 rfl (lv_at hl 0 rfl) ?_
        refine gf_X11_3 C Z.1 tw_2_15 dX11_voice_24 ?_
        refine lv_iconst (v := 0) hx hb dX11_voice_27 (by decide) ?_
        refine pf_X4_1 C Z isR_5 tw_1_47 dX11_voice_28 (fun M9 H locs eM9 Z => ?_)
        have hB := hB M9 eM9
        refine lv_aload_n hx hb dX11_voice_31 rfl (lv_at hl 0 rfl) ?_
        refine gf_X11_5 C Z.1 tw_2_17 dX11_voice_32 ?_
        refine gf_X2_7 C Z.1 isH_0 tw_1_149 dX11_voice_35 ?_
        refine lv_iload_n hx hb dX11_voice_38 rfl (lv_at hl 1 rfl) ?_
        obtain ⟨q10, hB⟩ := hB
        obtain ⟨u11, eu11⟩ : ∃ y : Int32, y = M9 35 x1.toNatClampNeg := ⟨_, rfl⟩
        obtain ⟨fh12, hB⟩ := hB u11 eu11
        refine hk_ld C Z.1 isH_0 q10 eu11 fh12 dX11_voice_39 ?_
        refine lv_astore (lv' := [(4, .ref (ad u11.toNatClampNeg)), (0, .ref (ad 0)), (1, .int x1), (2, .int x2), (3, .int x3)]) hx hb dX11_voice_40 hl (by decide) rfl (fun ls hl => ?_)
        refine lv_aload_n hx hb dX11_voice_42 rfl (lv_at hl 1 rfl) ?_
        refine gf_X11_5 C Z.1 tw_2_17 dX11_voice_43 ?_
        refine gf_X2_8 C Z.1 isH_0 tw_1_151 dX11_voice_46 ?_
        refine lv_iload_n hx hb dX11_voice_49 rfl (lv_at hl 2 rfl) ?_
        obtain ⟨q13, hB⟩ := hB
        refine a_ld C Z.1 (aH_6 isH_0) q13 dX11_voice_50 ?_
        refine lv_topi (fun x5_14 ex5_14 => ?_)
        have hB := hB x5_14 ex5_14
        refine lv_istore (lv' := [(5, .int x5_14), (4, .ref (ad u11.toNatClampNeg)), (0, .ref (ad 0)), (1, .int x1), (2, .int x2), (3, .int x3)]) hx hb dX11_voice_51 hl (by decide) rfl (fun ls hl => ?_)
        refine lv_iload_n hx hb dX11_voice_53 rfl (lv_at hl 4 rfl) ?_
        by_cases q15_0 : x2 = 0
        · have hB := hB.1 q15_0
          refine lv_tableIn (off := 26) (tgt := 80) hx hb dX11_voice_54 (by rw [q15_0]; decide) (by rw [q15_0]; decide) (by rw [q15_0]; rfl) (by decide) ?_
          refine lv_aload hx hb dX11_voice_80 (lv_at hl 1 rfl) ?_
          refine lv_iload_n hx hb dX11_voice_82 rfl (lv_at hl 3 rfl) ?_
          refine lv_iload hx hb dX11_voice_83 (lv_at hl 0 rfl) ?_
          refine lv_iload_n hx hb dX11_voice_85 rfl (lv_at hl 5 rfl) ?_
          refine lv_aload_n hx hb dX11_voice_86 rfl (lv_at hl 2 rfl) ?_
          refine gf_X11_3 C Z.1 tw_2_15 dX11_voice_87 ?_
          refine v_L_X3_wakes C hl.1 Z fh12 isR_5 tw_4_195 ⟨Nat.le_of_ble_eq_true rfl, Nat.le_of_ble_eq_true rfl⟩ ⟨Nat.le_refl _, Nat.le_refl _⟩ (Nat.le_of_ble_eq_true rfl) dX11_voice_90 hB (fun v16 M17 H locs hB Z => ?_)
          exact e_iW C hr hlk Z dX11_voice_93 hB
        by_cases q15_1 : x2 = 1
        · have hB := hB.2.1 q15_1
          refine lv_tableIn (off := 40) (tgt := 94) hx hb dX11_voice_54 (by rw [q15_1]; decide) (by rw [q15_1]; decide) (by rw [q15_1]; rfl) (by decide) ?_
          refine lv_aload hx hb dX11_voice_94 (lv_at hl 1 rfl) ?_
          refine lv_iload_n hx hb dX11_voice_96 rfl (lv_at hl 3 rfl) ?_
          refine lv_iload hx hb dX11_voice_97 (lv_at hl 0 rfl) ?_
          refine lv_iload_n hx hb dX11_voice_99 rfl (lv_at hl 5 rfl) ?_
          refine lv_aload_n hx hb dX11_voice_100 rfl (lv_at hl 2 rfl) ?_
          refine gf_X11_3 C Z.1 tw_2_15 dX11_voice_101 ?_
          refine v_L_X3_pulls C hl.1 Z fh12 isR_5 tw_4_211 ⟨Nat.le_of_ble_eq_true rfl, Nat.le_of_ble_eq_true rfl⟩ ⟨Nat.le_refl _, Nat.le_refl _⟩ (Nat.le_of_ble_eq_true rfl) dX11_voice_104 hB (fun v18 M19 H locs hB Z => ?_)
          exact e_iW C hr hlk Z dX11_voice_107 hB
        by_cases q15_2 : x2 = 2
        · have hB := hB.2.2.1 q15_2
          refine lv_tableIn (off := 54) (tgt := 108) hx hb dX11_voice_54 (by rw [q15_2]; decide) (by rw [q15_2]; decide) (by rw [q15_2]; rfl) (by decide) ?_
          refine lv_aload hx hb dX11_voice_108 (lv_at hl 1 rfl) ?_
          refine lv_iload_n hx hb dX11_voice_110 rfl (lv_at hl 3 rfl) ?_
          refine lv_iload hx hb dX11_voice_111 (lv_at hl 0 rfl) ?_
          refine lv_iload_n hx hb dX11_voice_113 rfl (lv_at hl 5 rfl) ?_
          refine lv_aload_n hx hb dX11_voice_114 rfl (lv_at hl 2 rfl) ?_
          refine gf_X11_3 C Z.1 tw_2_15 dX11_voice_115 ?_
          refine v_L_X3_shuts C hl.1 Z fh12 isR_5 tw_4_238 ⟨Nat.le_of_ble_eq_true rfl, Nat.le_of_ble_eq_true rfl⟩ ⟨Nat.le_refl _, Nat.le_refl _⟩ (Nat.le_of_ble_eq_true rfl) dX11_voice_118 hB (fun v20 M21 H locs hB Z => ?_)
          exact e_iW C hr hlk Z dX11_voice_121 hB
        have hB := hB.2.2.2 q15_0 q15_1 q15_2
        refine lv_tableOut (tgt := 122) hx hb dX11_voice_54 (sw_out 0 2 3 (by decide) (lt_s (lt_s (lt_s lt_0 q15_0) q15_1) q15_2)) (by decide) ?_
        refine lv_aload hx hb dX11_voice_122 (lv_at hl 1 rfl) ?_
        refine lv_iload_n hx hb dX11_voice_124 rfl (lv_at hl 3 rfl) ?_
        refine lv_iload hx hb dX11_voice_125 (lv_at hl 0 rfl) ?_
        refine lv_iload_n hx hb dX11_voice_127 rfl (lv_at hl 5 rfl) ?_
        refine lv_aload_n hx hb dX11_voice_128 rfl (lv_at hl 2 rfl) ?_
        refine gf_X11_3 C Z.1 tw_2_15 dX11_voice_129 ?_
        refine v_L_X3_tells C hl.1 Z fh12 isR_5 tw_5_7 ⟨Nat.le_of_ble_eq_true rfl, Nat.le_of_ble_eq_true rfl⟩ ⟨Nat.le_refl _, Nat.le_refl _⟩ (Nat.le_of_ble_eq_true rfl) dX11_voice_132 hB (fun v22 M23 H locs hB Z => ?_)
        exact e_iW C hr hlk Z dX11_voice_135 hB
      · have hB := hB.2 q8
        refine lv_aload_n hx hb dX11_voice_17 rfl (lv_at hl 0 rfl) ?_
        refine lv_iconst (v := 1) hx hb dX11_voice_18 (by decide) ?_
        refine v_X11_error C hl.1 Z tw_2_56 ⟨Nat.le_of_ble_eq_true rfl, Nat.le_of_ble_eq_true rfl⟩ ⟨Nat.le_refl _, Nat.le_refl _⟩ (Nat.le_of_ble_eq_true rfl) dX11_voice_19 hB (fun v24 M25 H locs hB Z => ?_)
        exact e_iW C hr hlk Z dX11_voice_22 hB
set_option maxRecDepth 100000 in
set_option maxHeartbeats 4000000 in
theorem v_X11_voice {K : Nat} {M : Mem} {x1 : Int32} {x2 : Int32} {x3 : Int32} {Q1 : Int32 → Mem → Prop} (C : Cx T D p s m args c cc nL own) (hls : ls.size = nL) (Z : Zz EC T D ad (69 + K) A H0 M H locs) (hlink : Cond.methodLink own index yX11_voice ∈ TB) (hR : 9 + 1 ≤ R.frames ∧ 8 + (6 + 11) + 48 * 9 ≤ R.locals) (hcs : cells ≤ R.cells ∧ slots ≤ R.slots) (hcat : (rest.map fun v => v.category).sum ≤ 8) (hdg : decode cc pc = .ok (.invokevirtual index, 3)) (hB : P_X11_voice K M x1 x2 x3 Q1)
    (kk : ∀ (r : Int32) (M1 : Mem) (H1 : Heap) (locs1 : List Loc), Q1 r M1 → Zz EC T D ad (69 + K) A H0 M1 H1 locs1 → W p l e R s m args below meth c H1 locs1 cells slots QQ (F0 m (pc + 3) ls (.int r :: rest))) : W p l e R s m args below meth c H locs cells slots QQ (F0 m pc ls (.int x3 :: .int x2 :: .int x1 :: .ref (ad 0) :: rest)) :=
  k_VW (ci := 11) (n := 3) (c_X11_voice hB) tw_4_194 tw_4_192 tw_4_193 tw_1_1 ⟨rfl, by decide, by decide, by decide +kernel⟩ rfl rfl C hls Z oO hlink hR hcs hcat rfl hdg kk
def P_X11_trace (K : Nat) (M : Mem) (x1 : Int32) (Q1 : Int32 → Mem → Prop) : Prop :=
  ((x1 < 0 → P_X11_error K M 2 (fun v2 M3 => Q1 v2 M3)) ∧
    (¬ x1 < 0 → ((x1 < (M 5 1) → vp_in x1 40 ∧ Q1 (M 6 x1.toNatClampNeg) M) ∧
      (¬ x1 < (M 5 1) → P_X11_error K M 2 (fun v6 M7 => Q1 v6 M7)))))
set_option maxRecDepth 100000 in
set_option maxHeartbeats 4000000 in
theorem c_X11_trace {l : Launch} {T : Nat → ClassId} {D : va_G} {ad : Nat → Nat} {K : Nat} {M : Mem} {x1 : Int32} {sz : Nat} {Q1 : Int32 → Mem → Prop} (hB : P_X11_trace K M x1 Q1) : Met l yX11_trace (Cond.code yX11_trace cX11_trace 2 (some .int) :: TB) (RM 2) (va_Pc [.ref (ad 0), .int x1] (WrP EC T D ad (69 + K) M sz)) (QcW EC T D ad (69 + K) (AA ad (69 + K) sz) Q1) 0 0 (AA ad (69 + K) sz) := by
  refine st_W (by decide) (Nat.le_of_ble_eq_true rfl) (fun p e s m args below meth c ls C hr hlk hsz Z hl => ?_)
  have hl : lv_has ls 2 [(0, .ref (ad 0)), (1, .int x1)] := hl
  generalize AA ad (69 + K) sz = A at Z ⊢
  have hx := C.x
  have hb := C.b
  delta P_X11_trace at hB
  refine lv_iload_n hx hb dX11_trace_0 rfl (lv_at hl 1 rfl) ?_
  refine lv_if_lt (tgt := 15) hx hb dX11_trace_1 (by decide) (fun q1 => ?_) (fun q1 => ?_)
  · have hB := hB.1 q1
    refine lv_aload_n hx hb dX11_trace_15 rfl (lv_at hl 0 rfl) ?_
    refine lv_iconst (v := 2) hx hb dX11_trace_16 (by decide) ?_
    refine v_X11_error C hl.1 Z tw_2_56 ⟨Nat.le_of_ble_eq_true rfl, Nat.le_of_ble_eq_true rfl⟩ ⟨Nat.le_refl _, Nat.le_refl _⟩ (Nat.le_of_ble_eq_true rfl) dX11_trace_17 hB (fun v2 M3 H locs hB Z => ?_)
    exact e_iW C hr hlk Z dX11_trace_20 hB
  · have hB := hB.2 q1
    refine lv_iload_n hx hb dX11_trace_4 rfl (lv_at hl 1 rfl) ?_
    refine lv_aload_n hx hb dX11_trace_5 rfl (lv_at hl 0 rfl) ?_
    refine gf_X11_3 C Z.1 tw_2_15 dX11_trace_6 ?_
    refine gf_X4_1 C Z.1 isR_5 tw_1_47 dX11_trace_9 ?_
    refine lv_icmp_lt (tgt := 21) hx hb dX11_trace_12 (by decide) (fun q4 => ?_) (fun q4 => ?_)
    · have hB := hB.1 q4
      refine lv_aload_n hx hb dX11_trace_21 rfl (lv_at hl 0 rfl) ?_
      refine gf_X11_3 C Z.1 tw_2_15 dX11_trace_22 ?_
      refine gf_X4_0 C Z.1 isR_5 tw_1_43 dX11_trace_25 ?_
      refine lv_iload_n hx hb dX11_trace_28 rfl (lv_at hl 1 rfl) ?_
      obtain ⟨q5, hB⟩ := hB
      refine a_ld C Z.1 (aR isR_5) q5 dX11_trace_29 ?_
      exact e_iW C hr hlk Z dX11_trace_30 hB
    · have hB := hB.2 q4
      refine lv_aload_n hx hb dX11_trace_15 rfl (lv_at hl 0 rfl) ?_
      refine lv_iconst (v := 2) hx hb dX11_trace_16 (by decide) ?_
      refine v_X11_error C hl.1 Z tw_2_56 ⟨Nat.le_of_ble_eq_true rfl, Nat.le_of_ble_eq_true rfl⟩ ⟨Nat.le_refl _, Nat.le_refl _⟩ (Nat.le_of_ble_eq_true rfl) dX11_trace_17 hB (fun v6 M7 H locs hB Z => ?_)
      exact e_iW C hr hlk Z dX11_trace_20 hB
set_option maxRecDepth 100000 in
set_option maxHeartbeats 4000000 in
theorem v_X11_trace {K : Nat} {M : Mem} {x1 : Int32} {Q1 : Int32 → Mem → Prop} (C : Cx T D p s m args c cc nL own) (hls : ls.size = nL) (Z : Zz EC T D ad (69 + K) A H0 M H locs) (hlink : Cond.methodLink own index yX11_trace ∈ TB) (hR : 2 + 1 ≤ R.frames ∧ 8 + (2 + 11) + 48 * 2 ≤ R.locals) (hcs : cells ≤ R.cells ∧ slots ≤ R.slots) (hcat : (rest.map fun v => v.category).sum ≤ 8) (hdg : decode cc pc = .ok (.invokevirtual index, 3)) (hB : P_X11_trace K M x1 Q1)
    (kk : ∀ (r : Int32) (M1 : Mem) (H1 : Heap) (locs1 : List Loc), Q1 r M1 → Zz EC T D ad (69 + K) A H0 M1 H1 locs1 → W p l e R s m args below meth c H1 locs1 cells slots QQ (F0 m (pc + 3) ls (.int r :: rest))) : W p l e R s m args below meth c H locs cells slots QQ (F0 m pc ls (.int x1 :: .ref (ad 0) :: rest)) :=
  k_VW (ci := 11) (n := 1) (c_X11_trace hB) tw_5_41 tw_5_39 tw_5_40 tw_1_1 ⟨rfl, by decide, by decide, by decide +kernel⟩ rfl rfl C hls Z oO hlink hR hcs hcat rfl hdg kk
def P_X4_start (K : Nat) (M : Mem) (g : Nat) (x1 : Int32) (x2 : Int32) (Q1 : Mem → Prop) : Prop :=
  P_J7_fill_53178 M (g + 1) (rLen g) 0 (fun M1 => ∀ M2 : Mem, M2 = sf M1 g 2 x1 → ∀ M3 : Mem, M3 = sf M2 g 1 x2 → Q1 M3)
set_option maxRecDepth 100000 in
set_option maxHeartbeats 4000000 in
theorem c_X4_start {l : Launch} {T : Nat → ClassId} {D : va_G} {ad : Nat → Nat} {K : Nat} {M : Mem} {g : Nat} {x1 : Int32} {x2 : Int32} {sz : Nat} {Q1 : Mem → Prop} (hg : isR g) (hB : P_X4_start K M g x1 x2 Q1) : Met l yX4_start (Cond.code yX4_start cX4_start 3 none :: TB) (RM 2) (va_Pc [.ref (ad g), .int x1, .int x2] (WrP EC T D ad (69 + K) M sz)) (QcV EC T D ad (69 + K) (AA ad (69 + K) sz) Q1) 0 0 (AA ad (69 + K) sz) := by
  refine st_W (by decide) (Nat.le_of_ble_eq_true rfl) (fun p e s m args below meth c ls C hr hlk hsz Z hl => ?_)
  have hl : lv_has ls 3 [(0, .ref (ad g)), (1, .int x1), (2, .int x2)] := hl
  generalize AA ad (69 + K) sz = A at Z ⊢
  have hx := C.x
  have hb := C.b
  delta P_X4_start at hB
  refine lv_aload_n hx hb dX4_start_0 rfl (lv_at hl 0 rfl) ?_
  refine gf_X4_0 C Z.1 hg tw_1_40 dX4_start_1 ?_
  refine lv_iconst (v := 0) hx hb dX4_start_4 (by decide) ?_
  refine v_J7_fill_53178 C hl.1 Z (aR hg) tw_5_50 ⟨Nat.le_of_ble_eq_true rfl, Nat.le_of_ble_eq_true rfl⟩ ⟨Nat.le_refl _, Nat.le_refl _⟩ (Nat.le_of_ble_eq_true rfl) dX4_start_5 hB (fun M1 H locs hB Z => ?_)
  refine lv_aload_n hx hb dX4_start_8 rfl (lv_at hl 0 rfl) ?_
  refine lv_iload_n hx hb dX4_start_9 rfl (lv_at hl 1 rfl) ?_
  refine pf_X4_2 C Z hg tw_1_48 dX4_start_10 (fun M2 H locs eM2 Z => ?_)
  have hB := hB M2 eM2
  refine lv_aload_n hx hb dX4_start_13 rfl (lv_at hl 0 rfl) ?_
  refine lv_iload_n hx hb dX4_start_14 rfl (lv_at hl 2 rfl) ?_
  refine pf_X4_1 C Z hg tw_1_44 dX4_start_15 (fun M3 H locs eM3 Z => ?_)
  have hB := hB M3 eM3
  exact e_vW C hr hlk Z dX4_start_18 hB
set_option maxRecDepth 100000 in
set_option maxHeartbeats 4000000 in
theorem v_X4_start {K : Nat} {M : Mem} {g : Nat} {x1 : Int32} {x2 : Int32} {Q1 : Mem → Prop} (C : Cx T D p s m args c cc nL own) (hls : ls.size = nL) (Z : Zz EC T D ad (69 + K) A H0 M H locs) (hg : isR g) (hlink : Cond.methodLink own index yX4_start ∈ TB) (hR : 2 + 1 ≤ R.frames ∧ 8 + (3 + 11) + 48 * 2 ≤ R.locals) (hcs : cells ≤ R.cells ∧ slots ≤ R.slots) (hcat : (rest.map fun v => v.category).sum ≤ 8) (hdg : decode cc pc = .ok (.invokevirtual index, 3)) (hB : P_X4_start K M g x1 x2 Q1)
    (kk : ∀ (M1 : Mem) (H1 : Heap) (locs1 : List Loc), Q1 M1 → Zz EC T D ad (69 + K) A H0 M1 H1 locs1 → W p l e R s m args below meth c H1 locs1 cells slots QQ (F0 m (pc + 3) ls rest)) : W p l e R s m args below meth c H locs cells slots QQ (F0 m pc ls (.int x2 :: .int x1 :: .ref (ad g) :: rest)) :=
  k_VV (ci := 4) (n := 2) (c_X4_start hg hB) tw_5_49 tw_5_47 tw_5_48 tw_1_2 ⟨rfl, by decide, by decide, by decide +kernel⟩ rfl rfl C hls Z (oR hg) hlink hR hcs hcat rfl hdg kk
def B_X11_sheet_65 (K : Nat) (Q1 : Int32 → Mem → Prop) (x1 : Int32) (x2 : Int32) (x3 : Int32) (M : Mem) : Prop :=
  vp_in x1 4 ∧ ((¬ x2 = 0 → P_X4_start K M (22 + 2 * x1.toNatClampNeg) x2 x3 (fun M10 => Q1 1 M10)) ∧
    (x2 = 0 → P_X4_start K M (22 + 2 * x1.toNatClampNeg) x2 0 (fun M11 => Q1 1 M11)))
def B_X11_sheet_49 (K : Nat) (Q1 : Int32 → Mem → Prop) (x1 : Int32) (x2 : Int32) (x3 : Int32) (M : Mem) : Prop :=
  ((x2 = 0 → B_X11_sheet_65 K Q1 x1 x2 x3 M) ∧
    (¬ x2 = 0 → ((x3 ≤ 40 → B_X11_sheet_65 K Q1 x1 x2 x3 M) ∧
      (¬ x3 ≤ 40 → P_X11_error K M 1 (fun v13 M14 => Q1 v13 M14)))))
def B_X11_sheet_35 (K : Nat) (Q1 : Int32 → Mem → Prop) (x1 : Int32) (x2 : Int32) (x3 : Int32) (M : Mem) : Prop :=
  ((x2 = 0 → B_X11_sheet_49 K Q1 x1 x2 x3 M) ∧
    (¬ x2 = 0 → ((0 ≤ x3 → B_X11_sheet_49 K Q1 x1 x2 x3 M) ∧
      (¬ 0 ≤ x3 → P_X11_error K M 3 (fun v16 M17 => Q1 v16 M17)))))
def P_X11_sheet (K : Nat) (M : Mem) (x1 : Int32) (x2 : Int32) (x3 : Int32) (Q1 : Int32 → Mem → Prop) : Prop :=
  P_X11_isSheet x1 (fun v1 => ((v1 = 0 → P_X11_error K M 1 (fun v3 M4 => Q1 v3 M4)) ∧
    (¬ v1 = 0 → ((x2 = 0 → B_X11_sheet_35 K Q1 x1 x2 x3 M) ∧
      (¬ x2 = 0 → ((x2 = 8 → B_X11_sheet_35 K Q1 x1 x2 x3 M) ∧
        (¬ x2 = 8 → ((x2 = 16 → B_X11_sheet_35 K Q1 x1 x2 x3 M) ∧
          (¬ x2 = 16 → ((x2 = 32 → B_X11_sheet_35 K Q1 x1 x2 x3 M) ∧
            (¬ x2 = 32 → P_X11_error K M 1 (fun v21 M22 => Q1 v21 M22))))))))))))
set_option maxRecDepth 100000 in
set_option maxHeartbeats 4000000 in
theorem w_X11_sheet_65 {K : Nat} {M : Mem} {Q1 : Int32 → Mem → Prop} {x1 : Int32} {x2 : Int32} {x3 : Int32} (C : Cx T D p s m args c cX11_sheet 4 "OneOfTwo") (hr : meth.sig.returnType = (some .int)) (hlk : meth.locks = false) (Z : Zz EC T D ad (69 + K) A s.heap M H locs) {ls : Array Slot} (hl : lv_has ls 4 [(0, .ref (ad 0)), (1, .int x1), (2, .int x2), (3, .int x3)]) (hB : B_X11_sheet_65 K Q1 x1 x2 x3 M) : W p l e (RM 3) s m args below meth c H locs 0 0 (MQ below (QcW EC T D ad (69 + K) A Q1) args s 0 0 A) (F0 m 65 ls []) := by
  have hx := C.x
  have hb := C.b
  delta B_X11_sheet_65 at hB
  refine lv_aload_n hx hb dX11_sheet_65 rfl (lv_at hl 0 rfl) ?_
  refine gf_X11_2 C Z.1 tw_2_14 dX11_sheet_66 ?_
  refine lv_iload_n hx hb dX11_sheet_69 rfl (lv_at hl 1 rfl) ?_
  obtain ⟨q8, hB⟩ := hB
  refine sa_ld C Z.1 q8 dX11_sheet_70 ?_
  refine lv_iload_n hx hb dX11_sheet_71 rfl (lv_at hl 2 rfl) ?_
  refine lv_iload_n hx hb dX11_sheet_72 rfl (lv_at hl 2 rfl) ?_
  refine lv_if_ne (tgt := 80) hx hb dX11_sheet_73 (by decide) (fun q9 => ?_) (fun q9 => ?_)
  · have hB := hB.1 q9
    refine lv_iload_n hx hb dX11_sheet_80 rfl (lv_at hl 3 rfl) ?_
    refine v_X4_start C hl.1 Z (isR_s q8) tw_5_46 ⟨Nat.le_of_ble_eq_true rfl, Nat.le_of_ble_eq_true rfl⟩ ⟨Nat.le_refl _, Nat.le_refl _⟩ (Nat.le_of_ble_eq_true rfl) dX11_sheet_81 hB (fun M10 H locs hB Z => ?_)
    refine lv_iconst (v := 1) hx hb dX11_sheet_84 (by decide) ?_
    exact e_iW C hr hlk Z dX11_sheet_85 hB
  · have hB := hB.2 q9
    refine lv_iconst (v := 0) hx hb dX11_sheet_76 (by decide) ?_
    refine lv_goto (tgt := 81) hx hb dX11_sheet_77 (by decide) ?_
    refine v_X4_start C hl.1 Z (isR_s q8) tw_5_46 ⟨Nat.le_of_ble_eq_true rfl, Nat.le_of_ble_eq_true rfl⟩ ⟨Nat.le_refl _, Nat.le_refl _⟩ (Nat.le_of_ble_eq_true rfl) dX11_sheet_81 hB (fun M11 H locs hB Z => ?_)
    refine lv_iconst (v := 1) hx hb dX11_sheet_84 (by decide) ?_
    exact e_iW C hr hlk Z dX11_sheet_85 hB
set_option maxRecDepth 100000 in
set_option maxHeartbeats 4000000 in
theorem w_X11_sheet_49 {K : Nat} {M : Mem} {Q1 : Int32 → Mem → Prop} {x1 : Int32} {x2 : Int32} {x3 : Int32} (C : Cx T D p s m args c cX11_sheet 4 "OneOfTwo") (hr : meth.sig.returnType = (some .int)) (hlk : meth.locks = false) (Z : Zz EC T D ad (69 + K) A s.heap M H locs) {ls : Array Slot} (hl : lv_has ls 4 [(0, .ref (ad 0)), (1, .int x1), (2, .int x2), (3, .int x3)]) (hB : B_X11_sheet_49 K Q1 x1 x2 x3 M) : W p l e (RM 3) s m args below meth c H locs 0 0 (MQ below (QcW EC T D ad (69 + K) A Q1) args s 0 0 A) (F0 m 49 ls []) := by
  have hx := C.x
  have hb := C.b
  delta B_X11_sheet_49 at hB
  refine lv_iload_n hx hb dX11_sheet_49 rfl (lv_at hl 2 rfl) ?_
  refine lv_if_eq (tgt := 65) hx hb dX11_sheet_50 (by decide) (fun q7 => ?_) (fun q7 => ?_)
  · have hB := hB.1 q7
    exact w_X11_sheet_65 C hr hlk Z (lv_sub hl [0, 1, 2, 3] rfl) hB
  · have hB := hB.2 q7
    refine lv_iload_n hx hb dX11_sheet_53 rfl (lv_at hl 3 rfl) ?_
    refine lv_bipush (v := 40) hx hb dX11_sheet_54 (by decide) ?_
    refine lv_icmp_le (tgt := 65) hx hb dX11_sheet_56 (by decide) (fun q12 => ?_) (fun q12 => ?_)
    · have hB := hB.1 q12
      exact w_X11_sheet_65 C hr hlk Z (lv_sub hl [0, 1, 2, 3] rfl) hB
    · have hB := hB.2 q12
      refine lv_aload_n hx hb dX11_sheet_59 rfl (lv_at hl 0 rfl) ?_
      refine lv_iconst (v := 1) hx hb dX11_sheet_60 (by decide) ?_
      refine v_X11_error C hl.1 Z tw_2_56 ⟨Nat.le_of_ble_eq_true rfl, Nat.le_of_ble_eq_true rfl⟩ ⟨Nat.le_refl _, Nat.le_refl _⟩ (Nat.le_of_ble_eq_true rfl) dX11_sheet_61 hB (fun v13 M14 H locs hB Z => ?_)
      exact e_iW C hr hlk Z dX11_sheet_64 hB
set_option maxRecDepth 100000 in
set_option maxHeartbeats 4000000 in
theorem w_X11_sheet_35 {K : Nat} {M : Mem} {Q1 : Int32 → Mem → Prop} {x1 : Int32} {x2 : Int32} {x3 : Int32} (C : Cx T D p s m args c cX11_sheet 4 "OneOfTwo") (hr : meth.sig.returnType = (some .int)) (hlk : meth.locks = false) (Z : Zz EC T D ad (69 + K) A s.heap M H locs) {ls : Array Slot} (hl : lv_has ls 4 [(0, .ref (ad 0)), (1, .int x1), (2, .int x2), (3, .int x3)]) (hB : B_X11_sheet_35 K Q1 x1 x2 x3 M) : W p l e (RM 3) s m args below meth c H locs 0 0 (MQ below (QcW EC T D ad (69 + K) A Q1) args s 0 0 A) (F0 m 35 ls []) := by
  have hx := C.x
  have hb := C.b
  delta B_X11_sheet_35 at hB
  refine lv_iload_n hx hb dX11_sheet_35 rfl (lv_at hl 2 rfl) ?_
  refine lv_if_eq (tgt := 49) hx hb dX11_sheet_36 (by decide) (fun q6 => ?_) (fun q6 => ?_)
  · have hB := hB.1 q6
    exact w_X11_sheet_49 C hr hlk Z (lv_sub hl [0, 1, 2, 3] rfl) hB
  · have hB := hB.2 q6
    refine lv_iload_n hx hb dX11_sheet_39 rfl (lv_at hl 3 rfl) ?_
    refine lv_if_ge (tgt := 49) hx hb dX11_sheet_40 (by decide) (fun q15 => ?_) (fun q15 => ?_)
    · have hB := hB.1 q15
      exact w_X11_sheet_49 C hr hlk Z (lv_sub hl [0, 1, 2, 3] rfl) hB
    · have hB := hB.2 q15
      refine lv_aload_n hx hb dX11_sheet_43 rfl (lv_at hl 0 rfl) ?_
      refine lv_iconst (v := 3) hx hb dX11_sheet_44 (by decide) ?_
      refine v_X11_error C hl.1 Z tw_2_56 ⟨Nat.le_of_ble_eq_true rfl, Nat.le_of_ble_eq_true rfl⟩ ⟨Nat.le_refl _, Nat.le_refl _⟩ (Nat.le_of_ble_eq_true rfl) dX11_sheet_45 hB (fun v16 M17 H locs hB Z => ?_)
      exact e_iW C hr hlk Z dX11_sheet_48 hB
set_option maxRecDepth 100000 in
set_option maxHeartbeats 4000000 in
theorem c_X11_sheet {l : Launch} {T : Nat → ClassId} {D : va_G} {ad : Nat → Nat} {K : Nat} {M : Mem} {x1 : Int32} {x2 : Int32} {x3 : Int32} {sz : Nat} {Q1 : Int32 → Mem → Prop} (hB : P_X11_sheet K M x1 x2 x3 Q1) : Met l yX11_sheet (Cond.code yX11_sheet cX11_sheet 4 (some .int) :: TB) (RM 3) (va_Pc [.ref (ad 0), .int x1, .int x2, .int x3] (WrP EC T D ad (69 + K) M sz)) (QcW EC T D ad (69 + K) (AA ad (69 + K) sz) Q1) 0 0 (AA ad (69 + K) sz) := by
  refine st_W (by decide) (Nat.le_of_ble_eq_true rfl) (fun p e s m args below meth c ls C hr hlk hsz Z hl => ?_)
  have hl : lv_has ls 4 [(0, .ref (ad 0)), (1, .int x1), (2, .int x2), (3, .int x3)] := hl
  generalize AA ad (69 + K) sz = A at Z ⊢
  have hx := C.x
  have hb := C.b
  delta P_X11_sheet at hB
  refine lv_iload_n hx hb dX11_sheet_0 rfl (lv_at hl 1 rfl) ?_
  refine v_X11_isSheet C.1 hl.1 tw_4_176 ⟨Nat.le_of_ble_eq_true rfl, Nat.le_of_ble_eq_true rfl⟩ ⟨Nat.le_refl _, Nat.le_refl _⟩ (Nat.le_of_ble_eq_true rfl) dX11_sheet_1 hB (fun v1 hB => ?_)
  refine lv_if_eq (tgt := 29) hx hb dX11_sheet_4 (by decide) (fun q2 => ?_) (fun q2 => ?_)
  · have hB := hB.1 q2
    refine lv_aload_n hx hb dX11_sheet_29 rfl (lv_at hl 0 rfl) ?_
    refine lv_iconst (v := 1) hx hb dX11_sheet_30 (by decide) ?_
    refine v_X11_error C hl.1 Z tw_2_56 ⟨Nat.le_of_ble_eq_true rfl, Nat.le_of_ble_eq_true rfl⟩ ⟨Nat.le_refl _, Nat.le_refl _⟩ (Nat.le_of_ble_eq_true rfl) dX11_sheet_31 hB (fun v3 M4 H locs hB Z => ?_)
    exact e_iW C hr hlk Z dX11_sheet_34 hB
  · have hB := hB.2 q2
    refine lv_iload_n hx hb dX11_sheet_7 rfl (lv_at hl 2 rfl) ?_
    refine lv_if_eq (tgt := 35) hx hb dX11_sheet_8 (by decide) (fun q5 => ?_) (fun q5 => ?_)
    · have hB := hB.1 q5
      exact w_X11_sheet_35 C hr hlk Z (lv_sub hl [0, 1, 2, 3] rfl) hB
    · have hB := hB.2 q5
      refine lv_iload_n hx hb dX11_sheet_11 rfl (lv_at hl 2 rfl) ?_
      refine lv_bipush (v := 8) hx hb dX11_sheet_12 (by decide) ?_
      refine lv_icmp_eq (tgt := 35) hx hb dX11_sheet_14 (by decide) (fun q18 => ?_) (fun q18 => ?_)
      · have hB := hB.1 q18
        exact w_X11_sheet_35 C hr hlk Z (lv_sub hl [0, 1, 2, 3] rfl) hB
      · have hB := hB.2 q18
        refine lv_iload_n hx hb dX11_sheet_17 rfl (lv_at hl 2 rfl) ?_
        refine lv_bipush (v := 16) hx hb dX11_sheet_18 (by decide) ?_
        refine lv_icmp_eq (tgt := 35) hx hb dX11_sheet_20 (by decide) (fun q19 => ?_) (fun q19 => ?_)
        · have hB := hB.1 q19
          exact w_X11_sheet_35 C hr hlk Z (lv_sub hl [0, 1, 2, 3] rfl) hB
        · have hB := hB.2 q19
          refine lv_iload_n hx hb dX11_sheet_23 rfl (lv_at hl 2 rfl) ?_
          refine lv_bipush (v := 32) hx hb dX11_sheet_24 (by decide) ?_
          refine lv_icmp_eq (tgt := 35) hx hb dX11_sheet_26 (by decide) (fun q20 => ?_) (fun q20 => ?_)
          · have hB := hB.1 q20
            exact w_X11_sheet_35 C hr hlk Z (lv_sub hl [0, 1, 2, 3] rfl) hB
          · have hB := hB.2 q20
            refine lv_aload_n hx hb dX11_sheet_29 rfl (lv_at hl 0 rfl) ?_
            refine lv_iconst (v := 1) hx hb dX11_sheet_30 (by decide) ?_
            refine v_X11_error C hl.1 Z tw_2_56 ⟨Nat.le_of_ble_eq_true rfl, Nat.le_of_ble_eq_true rfl⟩ ⟨Nat.le_refl _, Nat.le_refl _⟩ (Nat.le_of_ble_eq_true rfl) dX11_sheet_31 hB (fun v21 M22 H locs hB Z => ?_)
            exact e_iW C hr hlk Z dX11_sheet_34 hB
set_option maxRecDepth 100000 in
set_option maxHeartbeats 4000000 in
theorem v_X11_sheet {K : Nat} {M : Mem} {x1 : Int32} {x2 : Int32} {x3 : Int32} {Q1 : Int32 → Mem → Prop} (C : Cx T D p s m args c cc nL own) (hls : ls.size = nL) (Z : Zz EC T D ad (69 + K) A H0 M H locs) (hlink : Cond.methodLink own index yX11_sheet ∈ TB) (hR : 3 + 1 ≤ R.frames ∧ 8 + (4 + 11) + 48 * 3 ≤ R.locals) (hcs : cells ≤ R.cells ∧ slots ≤ R.slots) (hcat : (rest.map fun v => v.category).sum ≤ 8) (hdg : decode cc pc = .ok (.invokevirtual index, 3)) (hB : P_X11_sheet K M x1 x2 x3 Q1)
    (kk : ∀ (r : Int32) (M1 : Mem) (H1 : Heap) (locs1 : List Loc), Q1 r M1 → Zz EC T D ad (69 + K) A H0 M1 H1 locs1 → W p l e R s m args below meth c H1 locs1 cells slots QQ (F0 m (pc + 3) ls (.int r :: rest))) : W p l e R s m args below meth c H locs cells slots QQ (F0 m pc ls (.int x3 :: .int x2 :: .int x1 :: .ref (ad 0) :: rest)) :=
  k_VW (ci := 11) (n := 3) (c_X11_sheet hB) tw_5_45 tw_5_43 tw_5_44 tw_1_1 ⟨rfl, by decide, by decide, by decide +kernel⟩ rfl rfl C hls Z oO hlink hR hcs hcat rfl hdg kk
def P_X11_put (K : Nat) (M : Mem) (x1 : Int32) (x2 : Int32) (x3 : Int32) (Q1 : Int32 → Mem → Prop) : Prop :=
  P_X11_isSheet x1 (fun v1 => ((¬ v1 = 0 → vp_in x1 4 ∧ ((¬ (M (22 + 2 * x1.toNatClampNeg) 2) = 0 → ((x2 < 0 → P_X11_error K M 1 (fun v6 M7 => Q1 v6 M7)) ∧
        (¬ x2 < 0 → ((x2 < (M (22 + 2 * x1.toNatClampNeg) 1) → ((¬ (M (22 + 2 * x1.toNatClampNeg) 2) = 32 → vp_in x2 (rLen (22 + 2 * x1.toNatClampNeg)) ∧ ∀ M10 : Mem, M10 = sf M (22 + 2 * x1.toNatClampNeg + 1) x2.toNatClampNeg (x3 &&& ((1 <<< ((M (22 + 2 * x1.toNatClampNeg) 2) &&& 31)) - 1)) → Q1 1 M10) ∧
            ((M (22 + 2 * x1.toNatClampNeg) 2) = 32 → vp_in x2 (rLen (22 + 2 * x1.toNatClampNeg)) ∧ ∀ M12 : Mem, M12 = sf M (22 + 2 * x1.toNatClampNeg + 1) x2.toNatClampNeg x3 → Q1 1 M12))) ∧
          (¬ x2 < (M (22 + 2 * x1.toNatClampNeg) 1) → P_X11_error K M 1 (fun v14 M15 => Q1 v14 M15)))))) ∧
      ((M (22 + 2 * x1.toNatClampNeg) 2) = 0 → P_X11_error K M 2 (fun v16 M17 => Q1 v16 M17)))) ∧
    (v1 = 0 → P_X11_error K M 1 (fun v18 M19 => Q1 v18 M19))))
set_option maxRecDepth 100000 in
set_option maxHeartbeats 4000000 in
theorem c_X11_put {l : Launch} {T : Nat → ClassId} {D : va_G} {ad : Nat → Nat} {K : Nat} {M : Mem} {x1 : Int32} {x2 : Int32} {x3 : Int32} {sz : Nat} {Q1 : Int32 → Mem → Prop} (hB : P_X11_put K M x1 x2 x3 Q1) : Met l yX11_put (Cond.code yX11_put cX11_put 5 (some .int) :: TB) (RM 2) (va_Pc [.ref (ad 0), .int x1, .int x2, .int x3] (WrP EC T D ad (69 + K) M sz)) (QcW EC T D ad (69 + K) (AA ad (69 + K) sz) Q1) 0 0 (AA ad (69 + K) sz) := by
  refine st_W (by decide) (Nat.le_of_ble_eq_true rfl) (fun p e s m args below meth c ls C hr hlk hsz Z hl => ?_)
  have hl : lv_has ls 5 [(0, .ref (ad 0)), (1, .int x1), (2, .int x2), (3, .int x3)] := hl
  generalize AA ad (69 + K) sz = A at Z ⊢
  have hx := C.x
  have hb := C.b
  delta P_X11_put at hB
  refine lv_iload_n hx hb dX11_put_0 rfl (lv_at hl 1 rfl) ?_
  refine v_X11_isSheet C.1 hl.1 tw_4_176 ⟨Nat.le_of_ble_eq_true rfl, Nat.le_of_ble_eq_true rfl⟩ ⟨Nat.le_refl _, Nat.le_refl _⟩ (Nat.le_of_ble_eq_true rfl) dX11_put_1 hB (fun v1 hB => ?_)
  refine lv_if_ne (tgt := 13) hx hb dX11_put_4 (by decide) (fun q2 => ?_) (fun q2 => ?_)
  · have hB := hB.1 q2
    refine lv_aload_n hx hb dX11_put_13 rfl (lv_at hl 0 rfl) ?_
    refine gf_X11_2 C Z.1 tw_2_14 dX11_put_14 ?_
    refine lv_iload_n hx hb dX11_put_17 rfl (lv_at hl 1 rfl) ?_
    obtain ⟨q3, hB⟩ := hB
    refine sa_ld C Z.1 q3 dX11_put_18 ?_
    refine lv_astore (lv' := [(4, .ref (ad (22 + 2 * x1.toNatClampNeg))), (0, .ref (ad 0)), (1, .int x1), (2, .int x2), (3, .int x3)]) hx hb dX11_put_19 hl (by decide) rfl (fun ls hl => ?_)
    refine lv_aload hx hb dX11_put_21 (lv_at hl 0 rfl) ?_
    refine gf_X4_2 C Z.1 (isR_s q3) tw_1_49 dX11_put_23 ?_
    refine lv_if_ne (tgt := 35) hx hb dX11_put_26 (by decide) (fun q4 => ?_) (fun q4 => ?_)
    · have hB := hB.1 q4
      refine lv_iload_n hx hb dX11_put_35 rfl (lv_at hl 3 rfl) ?_
      refine lv_if_lt (tgt := 48) hx hb dX11_put_36 (by decide) (fun q5 => ?_) (fun q5 => ?_)
      · have hB := hB.1 q5
        refine lv_aload_n hx hb dX11_put_48 rfl (lv_at hl 1 rfl) ?_
        refine lv_iconst (v := 1) hx hb dX11_put_49 (by decide) ?_
        refine v_X11_error C hl.1 Z tw_2_56 ⟨Nat.le_of_ble_eq_true rfl, Nat.le_of_ble_eq_true rfl⟩ ⟨Nat.le_refl _, Nat.le_refl _⟩ (Nat.le_of_ble_eq_true rfl) dX11_put_50 hB (fun v6 M7 H locs hB Z => ?_)
        exact e_iW C hr hlk Z dX11_put_53 hB
      · have hB := hB.2 q5
        refine lv_iload_n hx hb dX11_put_39 rfl (lv_at hl 3 rfl) ?_
        refine lv_aload hx hb dX11_put_40 (lv_at hl 0 rfl) ?_
        refine gf_X4_1 C Z.1 (isR_s q3) tw_1_47 dX11_put_42 ?_
        refine lv_icmp_lt (tgt := 54) hx hb dX11_put_45 (by decide) (fun q8 => ?_) (fun q8 => ?_)
        · have hB := hB.1 q8
          refine lv_aload hx hb dX11_put_54 (lv_at hl 0 rfl) ?_
          refine gf_X4_0 C Z.1 (isR_s q3) tw_1_43 dX11_put_56 ?_
          refine lv_iload_n hx hb dX11_put_59 rfl (lv_at hl 3 rfl) ?_
          refine lv_aload hx hb dX11_put_60 (lv_at hl 0 rfl) ?_
          refine gf_X4_2 C Z.1 (isR_s q3) tw_1_49 dX11_put_62 ?_
          refine lv_bipush (v := 32) hx hb dX11_put_65 (by decide) ?_
          refine lv_icmp_ne (tgt := 74) hx hb dX11_put_67 (by decide) (fun q9 => ?_) (fun q9 => ?_)
          · have hB := hB.1 q9
            refine lv_iload_n hx hb dX11_put_74 rfl (lv_at hl 4 rfl) ?_
            refine lv_iconst (v := 1) hx hb dX11_put_75 (by decide) ?_
            refine lv_aload hx hb dX11_put_76 (lv_at hl 0 rfl) ?_
            refine gf_X4_2 C Z.1 (isR_s q3) tw_1_49 dX11_put_78 ?_
            refine lv_ishl hx hb dX11_put_81 ?_
            refine lv_iconst (v := 1) hx hb dX11_put_82 (by decide) ?_
            refine lv_isub hx hb dX11_put_83 ?_
            refine lv_iand hx hb dX11_put_84 ?_
            obtain ⟨q11, hB⟩ := hB
            refine a_st C Z (aR (isR_s q3)) q11 dX11_put_85 (fun M10 H locs eM10 Z => ?_)
            have hB := hB M10 eM10
            refine lv_iconst (v := 1) hx hb dX11_put_86 (by decide) ?_
            exact e_iW C hr hlk Z dX11_put_87 hB
          · have hB := hB.2 q9
            refine lv_iload_n hx hb dX11_put_70 rfl (lv_at hl 4 rfl) ?_
            refine lv_goto (tgt := 85) hx hb dX11_put_71 (by decide) ?_
            obtain ⟨q13, hB⟩ := hB
            refine a_st C Z (aR (isR_s q3)) q13 dX11_put_85 (fun M12 H locs eM12 Z => ?_)
            have hB := hB M12 eM12
            refine lv_iconst (v := 1) hx hb dX11_put_86 (by decide) ?_
            exact e_iW C hr hlk Z dX11_put_87 hB
        · have hB := hB.2 q8
          refine lv_aload_n hx hb dX11_put_48 rfl (lv_at hl 1 rfl) ?_
          refine lv_iconst (v := 1) hx hb dX11_put_49 (by decide) ?_
          refine v_X11_error C hl.1 Z tw_2_56 ⟨Nat.le_of_ble_eq_true rfl, Nat.le_of_ble_eq_true rfl⟩ ⟨Nat.le_refl _, Nat.le_refl _⟩ (Nat.le_of_ble_eq_true rfl) dX11_put_50 hB (fun v14 M15 H locs hB Z => ?_)
          exact e_iW C hr hlk Z dX11_put_53 hB
    · have hB := hB.2 q4
      refine lv_aload_n hx hb dX11_put_29 rfl (lv_at hl 1 rfl) ?_
      refine lv_iconst (v := 2) hx hb dX11_put_30 (by decide) ?_
      refine v_X11_error C hl.1 Z tw_2_56 ⟨Nat.le_of_ble_eq_true rfl, Nat.le_of_ble_eq_true rfl⟩ ⟨Nat.le_refl _, Nat.le_refl _⟩ (Nat.le_of_ble_eq_true rfl) dX11_put_31 hB (fun v16 M17 H locs hB Z => ?_)
      exact e_iW C hr hlk Z dX11_put_34 hB
  · have hB := hB.2 q2
    refine lv_aload_n hx hb dX11_put_7 rfl (lv_at hl 0 rfl) ?_
    refine lv_iconst (v := 1) hx hb dX11_put_8 (by decide) ?_
    refine v_X11_error C hl.1 Z tw_2_56 ⟨Nat.le_of_ble_eq_true rfl, Nat.le_of_ble_eq_true rfl⟩ ⟨Nat.le_refl _, Nat.le_refl _⟩ (Nat.le_of_ble_eq_true rfl) dX11_put_9 hB (fun v18 M19 H locs hB Z => ?_)
    exact e_iW C hr hlk Z dX11_put_12 hB
set_option maxRecDepth 100000 in
set_option maxHeartbeats 4000000 in
theorem v_X11_put {K : Nat} {M : Mem} {x1 : Int32} {x2 : Int32} {x3 : Int32} {Q1 : Int32 → Mem → Prop} (C : Cx T D p s m args c cc nL own) (hls : ls.size = nL) (Z : Zz EC T D ad (69 + K) A H0 M H locs) (hlink : Cond.methodLink own index yX11_put ∈ TB) (hR : 2 + 1 ≤ R.frames ∧ 8 + (5 + 11) + 48 * 2 ≤ R.locals) (hcs : cells ≤ R.cells ∧ slots ≤ R.slots) (hcat : (rest.map fun v => v.category).sum ≤ 8) (hdg : decode cc pc = .ok (.invokevirtual index, 3)) (hB : P_X11_put K M x1 x2 x3 Q1)
    (kk : ∀ (r : Int32) (M1 : Mem) (H1 : Heap) (locs1 : List Loc), Q1 r M1 → Zz EC T D ad (69 + K) A H0 M1 H1 locs1 → W p l e R s m args below meth c H1 locs1 cells slots QQ (F0 m (pc + 3) ls (.int r :: rest))) : W p l e R s m args below meth c H locs cells slots QQ (F0 m pc ls (.int x3 :: .int x2 :: .int x1 :: .ref (ad 0) :: rest)) :=
  k_VW (ci := 11) (n := 3) (c_X11_put hB) tw_5_54 tw_5_52 tw_5_53 tw_1_1 ⟨rfl, by decide, by decide, by decide +kernel⟩ rfl rfl C hls Z oO hlink hR hcs hcat rfl hdg kk
def P_X4_holds (K : Nat) (M : Mem) (g : Nat) (x1 : Int32) (x2 : Int32) (Q1 : Int32 → Prop) : Prop :=
  ((x1 < 0 → Q1 0) ∧
    (¬ x1 < 0 → ((x2 < 0 → Q1 0) ∧
      (¬ x2 < 0 → (((M g 1) < x2 → Q1 0) ∧
        (¬ (M g 1) < x2 → ((((M g 1) - x2) < x1 → Q1 0) ∧
          (¬ ((M g 1) - x2) < x1 → Q1 1))))))))
set_option maxRecDepth 100000 in
set_option maxHeartbeats 4000000 in
theorem c_X4_holds {l : Launch} {T : Nat → ClassId} {D : va_G} {ad : Nat → Nat} {K : Nat} {M : Mem} {g : Nat} {x1 : Int32} {x2 : Int32} {Q1 : Int32 → Prop} (hg : isR g) (hB : P_X4_holds K M g x1 x2 Q1) : Met l yX4_holds (Cond.code yX4_holds cX4_holds 3 (some .boolean) :: TB) (RM 1) (va_Pc [.ref (ad g), .int x1, .int x2] (RdP EC T D ad (69 + K) M)) (QcR Q1) 0 0 (fun _ => False) := by
  refine st_R (by decide) (Nat.le_of_ble_eq_true rfl) (fun p e s m args below meth c ls C hr hlk hP hl => ?_)
  have hl : lv_has ls 3 [(0, .ref (ad g)), (1, .int x1), (2, .int x2)] := hl
  have hx := C.x
  have hb := C.b
  delta P_X4_holds at hB
  refine lv_iload_n hx hb dX4_holds_0 rfl (lv_at hl 1 rfl) ?_
  refine lv_if_lt (tgt := 30) hx hb dX4_holds_1 (by decide) (fun q1 => ?_) (fun q1 => ?_)
  · have hB := hB.1 q1
    refine lv_iconst (v := 0) hx hb dX4_holds_30 (by decide) ?_
    exact e_zR C.1 hr hlk dX4_holds_31 (Or.inl rfl) hB
  · have hB := hB.2 q1
    refine lv_iload_n hx hb dX4_holds_4 rfl (lv_at hl 2 rfl) ?_
    refine lv_if_lt (tgt := 30) hx hb dX4_holds_5 (by decide) (fun q2 => ?_) (fun q2 => ?_)
    · have hB := hB.1 q2
      refine lv_iconst (v := 0) hx hb dX4_holds_30 (by decide) ?_
      exact e_zR C.1 hr hlk dX4_holds_31 (Or.inl rfl) hB
    · have hB := hB.2 q2
      refine lv_iload_n hx hb dX4_holds_8 rfl (lv_at hl 2 rfl) ?_
      refine lv_aload_n hx hb dX4_holds_9 rfl (lv_at hl 0 rfl) ?_
      refine gf_X4_1 C hP hg tw_1_44 dX4_holds_10 ?_
      refine lv_icmp_gt (tgt := 30) hx hb dX4_holds_13 (by decide) (fun q3 => ?_) (fun q3 => ?_)
      · have hB := hB.1 q3
        refine lv_iconst (v := 0) hx hb dX4_holds_30 (by decide) ?_
        exact e_zR C.1 hr hlk dX4_holds_31 (Or.inl rfl) hB
      · have hB := hB.2 q3
        refine lv_iload_n hx hb dX4_holds_16 rfl (lv_at hl 1 rfl) ?_
        refine lv_aload_n hx hb dX4_holds_17 rfl (lv_at hl 0 rfl) ?_
        refine gf_X4_1 C hP hg tw_1_44 dX4_holds_18 ?_
        refine lv_iload_n hx hb dX4_holds_21 rfl (lv_at hl 2 rfl) ?_
        refine lv_isub hx hb dX4_holds_22 ?_
        refine lv_icmp_gt (tgt := 30) hx hb dX4_holds_23 (by decide) (fun q4 => ?_) (fun q4 => ?_)
        · have hB := hB.1 q4
          refine lv_iconst (v := 0) hx hb dX4_holds_30 (by decide) ?_
          exact e_zR C.1 hr hlk dX4_holds_31 (Or.inl rfl) hB
        · have hB := hB.2 q4
          refine lv_iconst (v := 1) hx hb dX4_holds_26 (by decide) ?_
          refine lv_goto (tgt := 31) hx hb dX4_holds_27 (by decide) ?_
          exact e_zR C.1 hr hlk dX4_holds_31 (Or.inr rfl) hB
set_option maxRecDepth 100000 in
set_option maxHeartbeats 4000000 in
theorem v_X4_holds {K : Nat} {M : Mem} {g : Nat} {x1 : Int32} {x2 : Int32} {Q1 : Int32 → Prop} (C : Cx T D p s m args c cc nL own) (hls : ls.size = nL) (hP : Pw EC T D ad (69 + K) M H) (hg : isR g) (hlink : Cond.methodLink own index yX4_holds ∈ TB) (hR : 1 + 1 ≤ R.frames ∧ 8 + (3 + 11) + 48 * 1 ≤ R.locals) (hcs : cells ≤ R.cells ∧ slots ≤ R.slots) (hcat : (rest.map fun v => v.category).sum ≤ 8) (hdg : decode cc pc = .ok (.invokevirtual index, 3)) (hB : P_X4_holds K M g x1 x2 Q1)
    (kk : ∀ r : Int32, Q1 r → W p l e R s m args below meth c H locs cells slots QQ (F0 m (pc + 3) ls (.int r :: rest))) : W p l e R s m args below meth c H locs cells slots QQ (F0 m pc ls (.int x2 :: .int x1 :: .ref (ad g) :: rest)) :=
  k_V (ci := 4) (n := 2) (c_X4_holds hg hB) tw_5_62 tw_5_60 tw_5_61 tw_1_2 ⟨rfl, by decide, by decide, by decide +kernel⟩ rfl rfl C hls hP (oR hg) hlink hR hcs hcat rfl hdg kk
def P_X11_move (K : Nat) (M : Mem) (x1 : Int32) (x2 : Int32) (x3 : Int32) (x4 : Int32) (x5 : Int32) (Q1 : Int32 → Mem → Prop) : Prop :=
  P_X11_isSheet x1 (fun v1 => ((v1 = 0 → P_X11_error K M 1 (fun v3 M4 => Q1 v3 M4)) ∧
    (¬ v1 = 0 → P_X11_isSheet x3 (fun v5 => ((¬ v5 = 0 → vp_in x1 4 ∧ vp_in x3 4 ∧ (((M (22 + 2 * x1.toNatClampNeg) 2) = 0 → P_X11_error K M 2 (fun v10 M11 => Q1 v10 M11)) ∧
        (¬ (M (22 + 2 * x1.toNatClampNeg) 2) = 0 → ((¬ (M (22 + 2 * x3.toNatClampNeg) 2) = 0 → (((M (22 + 2 * x1.toNatClampNeg) 2) = (M (22 + 2 * x3.toNatClampNeg) 2) → P_X4_holds K M (22 + 2 * x1.toNatClampNeg) x2 x5 (fun v14 => ((v14 = 0 → P_X11_error K M 1 (fun v16 M17 => Q1 v16 M17)) ∧
              (¬ v14 = 0 → P_X4_holds K M (22 + 2 * x3.toNatClampNeg) x4 x5 (fun v18 => ((¬ v18 = 0 → ¬ x2 < 0 ∧ ¬ x4 < 0 ∧ ¬ x5 < 0 ∧ x2.toNatClampNeg + x5.toNatClampNeg ≤ (rLen (22 + 2 * x1.toNatClampNeg)) ∧ x4.toNatClampNeg + x5.toNatClampNeg ≤ (rLen (22 + 2 * x3.toNatClampNeg)) ∧ ∀ M25 : Mem, M25 = mu M (22 + 2 * x3.toNatClampNeg + 1) (va_cpy (M (22 + 2 * x1.toNatClampNeg + 1)) (M (22 + 2 * x3.toNatClampNeg + 1)) x2.toNatClampNeg x4.toNatClampNeg x5.toNatClampNeg) → Q1 x5 M25) ∧
                (v18 = 0 → P_X11_error K M 1 (fun v26 M27 => Q1 v26 M27)))))))) ∧
            (¬ (M (22 + 2 * x1.toNatClampNeg) 2) = (M (22 + 2 * x3.toNatClampNeg) 2) → P_X11_error K M 5 (fun v28 M29 => Q1 v28 M29)))) ∧
          ((M (22 + 2 * x3.toNatClampNeg) 2) = 0 → P_X11_error K M 2 (fun v30 M31 => Q1 v30 M31)))))) ∧
      (v5 = 0 → P_X11_error K M 1 (fun v32 M33 => Q1 v32 M33)))))))
set_option maxRecDepth 100000 in
set_option maxHeartbeats 4000000 in
theorem c_X11_move {l : Launch} {T : Nat → ClassId} {D : va_G} {ad : Nat → Nat} {K : Nat} {M : Mem} {x1 : Int32} {x2 : Int32} {x3 : Int32} {x4 : Int32} {x5 : Int32} {sz : Nat} {Q1 : Int32 → Mem → Prop} (hB : P_X11_move K M x1 x2 x3 x4 x5 Q1) : Met l yX11_move (Cond.code yX11_move cX11_move 8 (some .int) :: TB) (RM 2) (va_Pc [.ref (ad 0), .int x1, .int x2, .int x3, .int x4, .int x5] (WrP EC T D ad (69 + K) M sz)) (QcW EC T D ad (69 + K) (AA ad (69 + K) sz) Q1) 0 0 (AA ad (69 + K) sz) := by
  refine st_W (by decide) (Nat.le_of_ble_eq_true rfl) (fun p e s m args below meth c ls C hr hlk hsz Z hl => ?_)
  have hl : lv_has ls 8 [(0, .ref (ad 0)), (1, .int x1), (2, .int x2), (3, .int x3), (4, .int x4), (5, .int x5)] := hl
  generalize AA ad (69 + K) sz = A at Z ⊢
  have hx := C.x
  have hb := C.b
  delta P_X11_move at hB
  refine lv_iload_n hx hb dX11_move_0 rfl (lv_at hl 1 rfl) ?_
  refine v_X11_isSheet C.1 hl.1 tw_4_176 ⟨Nat.le_of_ble_eq_true rfl, Nat.le_of_ble_eq_true rfl⟩ ⟨Nat.le_refl _, Nat.le_refl _⟩ (Nat.le_of_ble_eq_true rfl) dX11_move_1 hB (fun v1 hB => ?_)
  refine lv_if_eq (tgt := 14) hx hb dX11_move_4 (by decide) (fun q2 => ?_) (fun q2 => ?_)
  · have hB := hB.1 q2
    refine lv_aload_n hx hb dX11_move_14 rfl (lv_at hl 0 rfl) ?_
    refine lv_iconst (v := 1) hx hb dX11_move_15 (by decide) ?_
    refine v_X11_error C hl.1 Z tw_2_56 ⟨Nat.le_of_ble_eq_true rfl, Nat.le_of_ble_eq_true rfl⟩ ⟨Nat.le_refl _, Nat.le_refl _⟩ (Nat.le_of_ble_eq_true rfl) dX11_move_16 hB (fun v3 M4 H locs hB Z => ?_)
    exact e_iW C hr hlk Z dX11_move_19 hB
  · have hB := hB.2 q2
    refine lv_iload_n hx hb dX11_move_7 rfl (lv_at hl 3 rfl) ?_
    refine v_X11_isSheet C.1 hl.1 tw_4_176 ⟨Nat.le_of_ble_eq_true rfl, Nat.le_of_ble_eq_true rfl⟩ ⟨Nat.le_refl _, Nat.le_refl _⟩ (Nat.le_of_ble_eq_true rfl) dX11_move_8 hB (fun v5 hB => ?_)
    refine lv_if_ne (tgt := 20) hx hb dX11_move_11 (by decide) (fun q6 => ?_) (fun q6 => ?_)
    · have hB := hB.1 q6
      refine lv_aload_n hx hb dX11_move_20 rfl (lv_at hl 0 rfl) ?_
      refine gf_X11_2 C Z.1 tw_2_14 dX11_move_21 ?_
      refine lv_iload_n hx hb dX11_move_24 rfl (lv_at hl 1 rfl) ?_
      obtain ⟨q7, hB⟩ := hB
      refine sa_ld C Z.1 q7 dX11_move_25 ?_
      refine lv_astore (lv' := [(6, .ref (ad (22 + 2 * x1.toNatClampNeg))), (0, .ref (ad 0)), (1, .int x1), (2, .int x2), (3, .int x3), (4, .int x4), (5, .int x5)]) hx hb dX11_move_26 hl (by decide) rfl (fun ls hl => ?_)
      refine lv_aload_n hx hb dX11_move_28 rfl (lv_at hl 1 rfl) ?_
      refine gf_X11_2 C Z.1 tw_2_14 dX11_move_29 ?_
      refine lv_iload_n hx hb dX11_move_32 rfl (lv_at hl 4 rfl) ?_
      obtain ⟨q8, hB⟩ := hB
      refine sa_ld C Z.1 q8 dX11_move_33 ?_
      refine lv_astore (lv' := [(7, .ref (ad (22 + 2 * x3.toNatClampNeg))), (6, .ref (ad (22 + 2 * x1.toNatClampNeg))), (0, .ref (ad 0)), (1, .int x1), (2, .int x2), (3, .int x3), (4, .int x4), (5, .int x5)]) hx hb dX11_move_34 hl (by decide) rfl (fun ls hl => ?_)
      refine lv_aload hx hb dX11_move_36 (lv_at hl 1 rfl) ?_
      refine gf_X4_2 C Z.1 (isR_s q7) tw_1_49 dX11_move_38 ?_
      refine lv_if_eq (tgt := 52) hx hb dX11_move_41 (by decide) (fun q9 => ?_) (fun q9 => ?_)
      · have hB := hB.1 q9
        refine lv_aload_n hx hb dX11_move_52 rfl (lv_at hl 2 rfl) ?_
        refine lv_iconst (v := 2) hx hb dX11_move_53 (by decide) ?_
        refine v_X11_error C hl.1 Z tw_2_56 ⟨Nat.le_of_ble_eq_true rfl, Nat.le_of_ble_eq_true rfl⟩ ⟨Nat.le_refl _, Nat.le_refl _⟩ (Nat.le_of_ble_eq_true rfl) dX11_move_54 hB (fun v10 M11 H locs hB Z => ?_)
        exact e_iW C hr hlk Z dX11_move_57 hB
      · have hB := hB.2 q9
        refine lv_aload hx hb dX11_move_44 (lv_at hl 0 rfl) ?_
        refine gf_X4_2 C Z.1 (isR_s q8) tw_1_49 dX11_move_46 ?_
        refine lv_if_ne (tgt := 58) hx hb dX11_move_49 (by decide) (fun q12 => ?_) (fun q12 => ?_)
        · have hB := hB.1 q12
          refine lv_aload hx hb dX11_move_58 (lv_at hl 1 rfl) ?_
          refine gf_X4_2 C Z.1 (isR_s q7) tw_1_49 dX11_move_60 ?_
          refine lv_aload hx hb dX11_move_63 (lv_at hl 0 rfl) ?_
          refine gf_X4_2 C Z.1 (isR_s q8) tw_1_49 dX11_move_65 ?_
          refine lv_icmp_eq (tgt := 77) hx hb dX11_move_68 (by decide) (fun q13 => ?_) (fun q13 => ?_)
          · have hB := hB.1 q13
            refine lv_aload hx hb dX11_move_77 (lv_at hl 1 rfl) ?_
            refine lv_iload_n hx hb dX11_move_79 rfl (lv_at hl 4 rfl) ?_
            refine lv_iload hx hb dX11_move_80 (lv_at hl 7 rfl) ?_
            refine v_X4_holds C hl.1 Z.1 (isR_s q7) tw_5_59 ⟨Nat.le_of_ble_eq_true rfl, Nat.le_of_ble_eq_true rfl⟩ ⟨Nat.le_refl _, Nat.le_refl _⟩ (Nat.le_of_ble_eq_true rfl) dX11_move_82 hB (fun v14 hB => ?_)
            refine lv_if_eq (tgt := 100) hx hb dX11_move_85 (by decide) (fun q15 => ?_) (fun q15 => ?_)
            · have hB := hB.1 q15
              refine lv_aload_n hx hb dX11_move_100 rfl (lv_at hl 2 rfl) ?_
              refine lv_iconst (v := 1) hx hb dX11_move_101 (by decide) ?_
              refine v_X11_error C hl.1 Z tw_2_56 ⟨Nat.le_of_ble_eq_true rfl, Nat.le_of_ble_eq_true rfl⟩ ⟨Nat.le_refl _, Nat.le_refl _⟩ (Nat.le_of_ble_eq_true rfl) dX11_move_102 hB (fun v16 M17 H locs hB Z => ?_)
              exact e_iW C hr hlk Z dX11_move_105 hB
            · have hB := hB.2 q15
              refine lv_aload hx hb dX11_move_88 (lv_at hl 0 rfl) ?_
              refine lv_iload hx hb dX11_move_90 (lv_at hl 6 rfl) ?_
              refine lv_iload hx hb dX11_move_92 (lv_at hl 7 rfl) ?_
              refine v_X4_holds C hl.1 Z.1 (isR_s q8) tw_5_59 ⟨Nat.le_of_ble_eq_true rfl, Nat.le_of_ble_eq_true rfl⟩ ⟨Nat.le_refl _, Nat.le_refl _⟩ (Nat.le_of_ble_eq_true rfl) dX11_move_94 hB (fun v18 hB => ?_)
              refine lv_if_ne (tgt := 106) hx hb dX11_move_97 (by decide) (fun q19 => ?_) (fun q19 => ?_)
              · have hB := hB.1 q19
                refine lv_aload hx hb dX11_move_106 (lv_at hl 1 rfl) ?_
                refine gf_X4_0 C Z.1 (isR_s q7) tw_1_43 dX11_move_108 ?_
                refine lv_iload_n hx hb dX11_move_111 rfl (lv_at hl 4 rfl) ?_
                refine lv_aload hx hb dX11_move_112 (lv_at hl 0 rfl) ?_
                refine gf_X4_0 C Z.1 (isR_s q8) tw_1_43 dX11_move_114 ?_
                refine lv_iload hx hb dX11_move_117 (lv_at hl 6 rfl) ?_
                refine lv_iload hx hb dX11_move_119 (lv_at hl 7 rfl) ?_
                obtain ⟨q20, q21, q22, q23, q24, hB⟩ := hB
                refine a_cp C Z hl.1 (aR (isR_s q7)) (aR (isR_s q8)) q20 q21 q22 q23 q24 tw_5_63 (Nat.le_of_ble_eq_true rfl) (Nat.le_of_ble_eq_true rfl) dX11_move_121 (fun M25 H locs eM25 Z => ?_)
                have hB := hB M25 eM25
                refine lv_iload hx hb dX11_move_124 (lv_at hl 7 rfl) ?_
                exact e_iW C hr hlk Z dX11_move_126 hB
              · have hB := hB.2 q19
                refine lv_aload_n hx hb dX11_move_100 rfl (lv_at hl 2 rfl) ?_
                refine lv_iconst (v := 1) hx hb dX11_move_101 (by decide) ?_
                refine v_X11_error C hl.1 Z tw_2_56 ⟨Nat.le_of_ble_eq_true rfl, Nat.le_of_ble_eq_true rfl⟩ ⟨Nat.le_refl _, Nat.le_refl _⟩ (Nat.le_of_ble_eq_true rfl) dX11_move_102 hB (fun v26 M27 H locs hB Z => ?_)
                exact e_iW C hr hlk Z dX11_move_105 hB
          · have hB := hB.2 q13
            refine lv_aload_n hx hb dX11_move_71 rfl (lv_at hl 2 rfl) ?_
            refine lv_iconst (v := 5) hx hb dX11_move_72 (by decide) ?_
            refine v_X11_error C hl.1 Z tw_2_56 ⟨Nat.le_of_ble_eq_true rfl, Nat.le_of_ble_eq_true rfl⟩ ⟨Nat.le_refl _, Nat.le_refl _⟩ (Nat.le_of_ble_eq_true rfl) dX11_move_73 hB (fun v28 M29 H locs hB Z => ?_)
            exact e_iW C hr hlk Z dX11_move_76 hB
        · have hB := hB.2 q12
          refine lv_aload_n hx hb dX11_move_52 rfl (lv_at hl 2 rfl) ?_
          refine lv_iconst (v := 2) hx hb dX11_move_53 (by decide) ?_
          refine v_X11_error C hl.1 Z tw_2_56 ⟨Nat.le_of_ble_eq_true rfl, Nat.le_of_ble_eq_true rfl⟩ ⟨Nat.le_refl _, Nat.le_refl _⟩ (Nat.le_of_ble_eq_true rfl) dX11_move_54 hB (fun v30 M31 H locs hB Z => ?_)
          exact e_iW C hr hlk Z dX11_move_57 hB
    · have hB := hB.2 q6
      refine lv_aload_n hx hb dX11_move_14 rfl (lv_at hl 0 rfl) ?_
      refine lv_iconst (v := 1) hx hb dX11_move_15 (by decide) ?_
      refine v_X11_error C hl.1 Z tw_2_56 ⟨Nat.le_of_ble_eq_true rfl, Nat.le_of_ble_eq_true rfl⟩ ⟨Nat.le_refl _, Nat.le_refl _⟩ (Nat.le_of_ble_eq_true rfl) dX11_move_16 hB (fun v32 M33 H locs hB Z => ?_)
      exact e_iW C hr hlk Z dX11_move_19 hB
set_option maxRecDepth 100000 in
set_option maxHeartbeats 4000000 in
theorem v_X11_move {K : Nat} {M : Mem} {x1 : Int32} {x2 : Int32} {x3 : Int32} {x4 : Int32} {x5 : Int32} {Q1 : Int32 → Mem → Prop} (C : Cx T D p s m args c cc nL own) (hls : ls.size = nL) (Z : Zz EC T D ad (69 + K) A H0 M H locs) (hlink : Cond.methodLink own index yX11_move ∈ TB) (hR : 2 + 1 ≤ R.frames ∧ 8 + (8 + 11) + 48 * 2 ≤ R.locals) (hcs : cells ≤ R.cells ∧ slots ≤ R.slots) (hcat : (rest.map fun v => v.category).sum ≤ 8) (hdg : decode cc pc = .ok (.invokevirtual index, 3)) (hB : P_X11_move K M x1 x2 x3 x4 x5 Q1)
    (kk : ∀ (r : Int32) (M1 : Mem) (H1 : Heap) (locs1 : List Loc), Q1 r M1 → Zz EC T D ad (69 + K) A H0 M1 H1 locs1 → W p l e R s m args below meth c H1 locs1 cells slots QQ (F0 m (pc + 3) ls (.int r :: rest))) : W p l e R s m args below meth c H locs cells slots QQ (F0 m pc ls (.int x5 :: .int x4 :: .int x3 :: .int x2 :: .int x1 :: .ref (ad 0) :: rest)) :=
  k_VW (ci := 11) (n := 5) (c_X11_move hB) tw_5_58 tw_5_56 tw_5_57 tw_1_1 ⟨rfl, by decide, by decide, by decide +kernel⟩ rfl rfl C hls Z oO hlink hR hcs hcat rfl hdg kk
def P_X11_judge (K : Nat) (M : Mem) (x1 : Int32) (Q1 : Int32 → Mem → Prop) : Prop :=
  P_X11_isSheet x1 (fun v1 => ((¬ v1 = 0 → vp_in x1 4 ∧ ((¬ (M (22 + 2 * x1.toNatClampNeg) 2) = 0 → P_X2_firstUnlike K M 30 (22 + 2 * x1.toNatClampNeg) (fun v5 => Q1 v5 M)) ∧
      ((M (22 + 2 * x1.toNatClampNeg) 2) = 0 → P_X11_error K M 2 (fun v6 M7 => Q1 v6 M7)))) ∧
    (v1 = 0 → P_X11_error K M 1 (fun v8 M9 => Q1 v8 M9))))
set_option maxRecDepth 100000 in
set_option maxHeartbeats 4000000 in
theorem c_X11_judge {l : Launch} {T : Nat → ClassId} {D : va_G} {ad : Nat → Nat} {K : Nat} {M : Mem} {x1 : Int32} {sz : Nat} {Q1 : Int32 → Mem → Prop} (hB : P_X11_judge K M x1 Q1) : Met l yX11_judge (Cond.code yX11_judge cX11_judge 3 (some .int) :: TB) (RM 3) (va_Pc [.ref (ad 0), .int x1] (WrP EC T D ad (69 + K) M sz)) (QcW EC T D ad (69 + K) (AA ad (69 + K) sz) Q1) 0 0 (AA ad (69 + K) sz) := by
  refine st_W (by decide) (Nat.le_of_ble_eq_true rfl) (fun p e s m args below meth c ls C hr hlk hsz Z hl => ?_)
  have hl : lv_has ls 3 [(0, .ref (ad 0)), (1, .int x1)] := hl
  generalize AA ad (69 + K) sz = A at Z ⊢
  have hx := C.x
  have hb := C.b
  delta P_X11_judge at hB
  refine lv_iload_n hx hb dX11_judge_0 rfl (lv_at hl 1 rfl) ?_
  refine v_X11_isSheet C.1 hl.1 tw_4_176 ⟨Nat.le_of_ble_eq_true rfl, Nat.le_of_ble_eq_true rfl⟩ ⟨Nat.le_refl _, Nat.le_refl _⟩ (Nat.le_of_ble_eq_true rfl) dX11_judge_1 hB (fun v1 hB => ?_)
  refine lv_if_ne (tgt := 13) hx hb dX11_judge_4 (by decide) (fun q2 => ?_) (fun q2 => ?_)
  · have hB := hB.1 q2
    refine lv_aload_n hx hb dX11_judge_13 rfl (lv_at hl 0 rfl) ?_
    refine gf_X11_2 C Z.1 tw_2_14 dX11_judge_14 ?_
    refine lv_iload_n hx hb dX11_judge_17 rfl (lv_at hl 1 rfl) ?_
    obtain ⟨q3, hB⟩ := hB
    refine sa_ld C Z.1 q3 dX11_judge_18 ?_
    refine lv_astore_n (lv' := [(2, .ref (ad (22 + 2 * x1.toNatClampNeg))), (0, .ref (ad 0)), (1, .int x1)]) hx hb dX11_judge_19 rfl hl (by decide) rfl (fun ls hl => ?_)
    refine lv_aload_n hx hb dX11_judge_20 rfl (lv_at hl 0 rfl) ?_
    refine gf_X4_2 C Z.1 (isR_s q3) tw_1_49 dX11_judge_21 ?_
    refine lv_if_ne (tgt := 33) hx hb dX11_judge_24 (by decide) (fun q4 => ?_) (fun q4 => ?_)
    · have hB := hB.1 q4
      refine lv_aload_n hx hb dX11_judge_33 rfl (lv_at hl 1 rfl) ?_
      refine gf_X11_5 C Z.1 tw_2_17 dX11_judge_34 ?_
      refine lv_aload_n hx hb dX11_judge_37 rfl (lv_at hl 0 rfl) ?_
      refine v_X2_firstUnlike C hl.1 Z.1 isH_0 (isR_s q3) tw_4_183 ⟨Nat.le_of_ble_eq_true rfl, Nat.le_of_ble_eq_true rfl⟩ ⟨Nat.le_refl _, Nat.le_refl _⟩ (Nat.le_of_ble_eq_true rfl) dX11_judge_38 hB (fun v5 hB => ?_)
      exact e_iW C hr hlk Z dX11_judge_41 hB
    · have hB := hB.2 q4
      refine lv_aload_n hx hb dX11_judge_27 rfl (lv_at hl 1 rfl) ?_
      refine lv_iconst (v := 2) hx hb dX11_judge_28 (by decide) ?_
      refine v_X11_error C hl.1 Z tw_2_56 ⟨Nat.le_of_ble_eq_true rfl, Nat.le_of_ble_eq_true rfl⟩ ⟨Nat.le_refl _, Nat.le_refl _⟩ (Nat.le_of_ble_eq_true rfl) dX11_judge_29 hB (fun v6 M7 H locs hB Z => ?_)
      exact e_iW C hr hlk Z dX11_judge_32 hB
  · have hB := hB.2 q2
    refine lv_aload_n hx hb dX11_judge_7 rfl (lv_at hl 0 rfl) ?_
    refine lv_iconst (v := 1) hx hb dX11_judge_8 (by decide) ?_
    refine v_X11_error C hl.1 Z tw_2_56 ⟨Nat.le_of_ble_eq_true rfl, Nat.le_of_ble_eq_true rfl⟩ ⟨Nat.le_refl _, Nat.le_refl _⟩ (Nat.le_of_ble_eq_true rfl) dX11_judge_9 hB (fun v8 M9 H locs hB Z => ?_)
    exact e_iW C hr hlk Z dX11_judge_12 hB
set_option maxRecDepth 100000 in
set_option maxHeartbeats 4000000 in
theorem v_X11_judge {K : Nat} {M : Mem} {x1 : Int32} {Q1 : Int32 → Mem → Prop} (C : Cx T D p s m args c cc nL own) (hls : ls.size = nL) (Z : Zz EC T D ad (69 + K) A H0 M H locs) (hlink : Cond.methodLink own index yX11_judge ∈ TB) (hR : 3 + 1 ≤ R.frames ∧ 8 + (3 + 11) + 48 * 3 ≤ R.locals) (hcs : cells ≤ R.cells ∧ slots ≤ R.slots) (hcat : (rest.map fun v => v.category).sum ≤ 8) (hdg : decode cc pc = .ok (.invokevirtual index, 3)) (hB : P_X11_judge K M x1 Q1)
    (kk : ∀ (r : Int32) (M1 : Mem) (H1 : Heap) (locs1 : List Loc), Q1 r M1 → Zz EC T D ad (69 + K) A H0 M1 H1 locs1 → W p l e R s m args below meth c H1 locs1 cells slots QQ (F0 m (pc + 3) ls (.int r :: rest))) : W p l e R s m args below meth c H locs cells slots QQ (F0 m pc ls (.int x1 :: .ref (ad 0) :: rest)) :=
  k_VW (ci := 11) (n := 1) (c_X11_judge hB) tw_5_67 tw_5_65 tw_5_66 tw_1_1 ⟨rfl, by decide, by decide, by decide +kernel⟩ rfl rfl C hls Z oO hlink hR hcs hcat rfl hdg kk
def P_X11_image (K : Nat) (M : Mem) (Q1 : Int32 → Mem → Prop) : Prop :=
  P_X2_copyFrom K M 56 30 (fun M1 => ∀ v2 : Int32, v2 = (M1 0 9) + 1 → ∀ M3 : Mem, M3 = sf M1 0 9 v2 → Q1 (M3 0 9) M3)
set_option maxRecDepth 100000 in
set_option maxHeartbeats 4000000 in
theorem c_X11_image {l : Launch} {T : Nat → ClassId} {D : va_G} {ad : Nat → Nat} {K : Nat} {M : Mem} {sz : Nat} {Q1 : Int32 → Mem → Prop} (hB : P_X11_image K M Q1) : Met l yX11_image (Cond.code yX11_image cX11_image 1 (some .int) :: TB) (RM 4) (va_Pc [.ref (ad 0)] (WrP EC T D ad (69 + K) M sz)) (QcW EC T D ad (69 + K) (AA ad (69 + K) sz) Q1) 0 0 (AA ad (69 + K) sz) := by
  refine st_W (by decide) (Nat.le_of_ble_eq_true rfl) (fun p e s m args below meth c ls C hr hlk hsz Z hl => ?_)
  have hl : lv_has ls 1 [(0, .ref (ad 0))] := hl
  generalize AA ad (69 + K) sz = A at Z ⊢
  have hx := C.x
  have hb := C.b
  delta P_X11_image at hB
  refine lv_aload_n hx hb dX11_image_0 rfl (lv_at hl 0 rfl) ?_
  refine gf_X11_7 C Z.1 tw_2_19 dX11_image_1 ?_
  refine lv_aload_n hx hb dX11_image_4 rfl (lv_at hl 0 rfl) ?_
  refine gf_X11_5 C Z.1 tw_2_17 dX11_image_5 ?_
  refine v_X2_copyFrom C hl.1 Z isH_2 isH_0 tw_4_79 ⟨Nat.le_of_ble_eq_true rfl, Nat.le_of_ble_eq_true rfl⟩ ⟨Nat.le_refl _, Nat.le_refl _⟩ (Nat.le_of_ble_eq_true rfl) dX11_image_8 hB (fun M1 H locs hB Z => ?_)
  refine lv_aload_n hx hb dX11_image_11 rfl (lv_at hl 0 rfl) ?_
  refine lv_dup hx hb dX11_image_12 rfl ?_
  refine gf_X11_9 C Z.1 tw_2_21 dX11_image_13 ?_
  refine lv_iconst (v := 1) hx hb dX11_image_16 (by decide) ?_
  refine lv_iadd hx hb dX11_image_17 ?_
  refine lv_topi (fun v2 ev2 => ?_)
  have hB := hB v2 ev2
  refine pf_X11_9 C Z tw_2_21 dX11_image_18 (fun M3 H locs eM3 Z => ?_)
  have hB := hB M3 eM3
  refine lv_aload_n hx hb dX11_image_21 rfl (lv_at hl 0 rfl) ?_
  refine gf_X11_9 C Z.1 tw_2_21 dX11_image_22 ?_
  exact e_iW C hr hlk Z dX11_image_25 hB
set_option maxRecDepth 100000 in
set_option maxHeartbeats 4000000 in
theorem v_X11_image {K : Nat} {M : Mem} {Q1 : Int32 → Mem → Prop} (C : Cx T D p s m args c cc nL own) (hls : ls.size = nL) (Z : Zz EC T D ad (69 + K) A H0 M H locs) (hlink : Cond.methodLink own index yX11_image ∈ TB) (hR : 4 + 1 ≤ R.frames ∧ 8 + (1 + 11) + 48 * 4 ≤ R.locals) (hcs : cells ≤ R.cells ∧ slots ≤ R.slots) (hcat : (rest.map fun v => v.category).sum ≤ 8) (hdg : decode cc pc = .ok (.invokevirtual index, 3)) (hB : P_X11_image K M Q1)
    (kk : ∀ (r : Int32) (M1 : Mem) (H1 : Heap) (locs1 : List Loc), Q1 r M1 → Zz EC T D ad (69 + K) A H0 M1 H1 locs1 → W p l e R s m args below meth c H1 locs1 cells slots QQ (F0 m (pc + 3) ls (.int r :: rest))) : W p l e R s m args below meth c H locs cells slots QQ (F0 m pc ls (.ref (ad 0) :: rest)) :=
  k_VW (ci := 11) (n := 0) (c_X11_image hB) tw_5_71 tw_5_69 tw_5_70 tw_1_1 ⟨rfl, by decide, by decide, by decide +kernel⟩ rfl rfl C hls Z oO hlink hR hcs hcat rfl hdg kk
def P_X11_restore (K : Nat) (M : Mem) (Q1 : Int32 → Mem → Prop) : Prop :=
  ((¬ (M 0 9) = 0 → P_X2_copyFrom K M 30 56 (fun M2 => Q1 (M2 30 10) M2)) ∧
    ((M 0 9) = 0 → P_X11_error K M 2 (fun v3 M4 => Q1 v3 M4)))
set_option maxRecDepth 100000 in
set_option maxHeartbeats 4000000 in
theorem c_X11_restore {l : Launch} {T : Nat → ClassId} {D : va_G} {ad : Nat → Nat} {K : Nat} {M : Mem} {sz : Nat} {Q1 : Int32 → Mem → Prop} (hB : P_X11_restore K M Q1) : Met l yX11_restore (Cond.code yX11_restore cX11_restore 1 (some .int) :: TB) (RM 4) (va_Pc [.ref (ad 0)] (WrP EC T D ad (69 + K) M sz)) (QcW EC T D ad (69 + K) (AA ad (69 + K) sz) Q1) 0 0 (AA ad (69 + K) sz) := by
  refine st_W (by decide) (Nat.le_of_ble_eq_true rfl) (fun p e s m args below meth c ls C hr hlk hsz Z hl => ?_)
  have hl : lv_has ls 1 [(0, .ref (ad 0))] := hl
  generalize AA ad (69 + K) sz = A at Z ⊢
  have hx := C.x
  have hb := C.b
  delta P_X11_restore at hB
  refine lv_aload_n hx hb dX11_restore_0 rfl (lv_at hl 0 rfl) ?_
  refine gf_X11_9 C Z.1 tw_2_21 dX11_restore_1 ?_
  refine lv_if_ne (tgt := 13) hx hb dX11_restore_4 (by decide) (fun q1 => ?_) (fun q1 => ?_)
  · have hB := hB.1 q1
    refine lv_aload_n hx hb dX11_restore_13 rfl (lv_at hl 0 rfl) ?_
    refine gf_X11_5 C Z.1 tw_2_17 dX11_restore_14 ?_
    refine lv_aload_n hx hb dX11_restore_17 rfl (lv_at hl 0 rfl) ?_
    refine gf_X11_7 C Z.1 tw_2_19 dX11_restore_18 ?_
    refine v_X2_copyFrom C hl.1 Z isH_0 isH_2 tw_4_79 ⟨Nat.le_of_ble_eq_true rfl, Nat.le_of_ble_eq_true rfl⟩ ⟨Nat.le_refl _, Nat.le_refl _⟩ (Nat.le_of_ble_eq_true rfl) dX11_restore_21 hB (fun M2 H locs hB Z => ?_)
    refine lv_aload_n hx hb dX11_restore_24 rfl (lv_at hl 0 rfl) ?_
    refine gf_X11_5 C Z.1 tw_2_17 dX11_restore_25 ?_
    refine gf_X2_10 C Z.1 isH_0 tw_1_156 dX11_restore_28 ?_
    exact e_iW C hr hlk Z dX11_restore_31 hB
  · have hB := hB.2 q1
    refine lv_aload_n hx hb dX11_restore_7 rfl (lv_at hl 0 rfl) ?_
    refine lv_iconst (v := 2) hx hb dX11_restore_8 (by decide) ?_
    refine v_X11_error C hl.1 Z tw_2_56 ⟨Nat.le_of_ble_eq_true rfl, Nat.le_of_ble_eq_true rfl⟩ ⟨Nat.le_refl _, Nat.le_refl _⟩ (Nat.le_of_ble_eq_true rfl) dX11_restore_9 hB (fun v3 M4 H locs hB Z => ?_)
    exact e_iW C hr hlk Z dX11_restore_12 hB
set_option maxRecDepth 100000 in
set_option maxHeartbeats 4000000 in
theorem v_X11_restore {K : Nat} {M : Mem} {Q1 : Int32 → Mem → Prop} (C : Cx T D p s m args c cc nL own) (hls : ls.size = nL) (Z : Zz EC T D ad (69 + K) A H0 M H locs) (hlink : Cond.methodLink own index yX11_restore ∈ TB) (hR : 4 + 1 ≤ R.frames ∧ 8 + (1 + 11) + 48 * 4 ≤ R.locals) (hcs : cells ≤ R.cells ∧ slots ≤ R.slots) (hcat : (rest.map fun v => v.category).sum ≤ 8) (hdg : decode cc pc = .ok (.invokevirtual index, 3)) (hB : P_X11_restore K M Q1)
    (kk : ∀ (r : Int32) (M1 : Mem) (H1 : Heap) (locs1 : List Loc), Q1 r M1 → Zz EC T D ad (69 + K) A H0 M1 H1 locs1 → W p l e R s m args below meth c H1 locs1 cells slots QQ (F0 m (pc + 3) ls (.int r :: rest))) : W p l e R s m args below meth c H locs cells slots QQ (F0 m pc ls (.ref (ad 0) :: rest)) :=
  k_VW (ci := 11) (n := 0) (c_X11_restore hB) tw_5_75 tw_5_73 tw_5_74 tw_1_1 ⟨rfl, by decide, by decide, by decide +kernel⟩ rfl rfl C hls Z oO hlink hR hcs hcat rfl hdg kk
def P_X11_tell (K : Nat) (M : Mem) (x1 : Int32) (Q1 : Int32 → Mem → Prop) : Prop :=
  (((M 40 1) < 20 → P_X4_add K M 40 x1 (fun M2 => Q1 (M2 40 1) M2)) ∧
    (¬ (M 40 1) < 20 → P_X11_error K M 4 (fun v3 M4 => Q1 v3 M4)))
set_option maxRecDepth 100000 in
set_option maxHeartbeats 4000000 in
theorem c_X11_tell {l : Launch} {T : Nat → ClassId} {D : va_G} {ad : Nat → Nat} {K : Nat} {M : Mem} {x1 : Int32} {sz : Nat} {Q1 : Int32 → Mem → Prop} (hB : P_X11_tell K M x1 Q1) : Met l yX11_tell (Cond.code yX11_tell cX11_tell 2 (some .int) :: TB) (RM 2) (va_Pc [.ref (ad 0), .int x1] (WrP EC T D ad (69 + K) M sz)) (QcW EC T D ad (69 + K) (AA ad (69 + K) sz) Q1) 0 0 (AA ad (69 + K) sz) := by
  refine st_W (by decide) (Nat.le_of_ble_eq_true rfl) (fun p e s m args below meth c ls C hr hlk hsz Z hl => ?_)
  have hl : lv_has ls 2 [(0, .ref (ad 0)), (1, .int x1)] := hl
  generalize AA ad (69 + K) sz = A at Z ⊢
  have hx := C.x
  have hb := C.b
  delta P_X11_tell at hB
  refine lv_aload_n hx hb dX11_tell_0 rfl (lv_at hl 0 rfl) ?_
  refine gf_X11_5 C Z.1 tw_2_17 dX11_tell_1 ?_
  refine gf_X2_17 C Z.1 isH_0 tw_1_170 dX11_tell_4 ?_
  refine gf_X4_1 C Z.1 (isR_w isH_0) tw_1_47 dX11_tell_7 ?_
  refine lv_bipush (v := 20) hx hb dX11_tell_10 (by decide) ?_
  refine lv_icmp_lt (tgt := 21) hx hb dX11_tell_12 (by decide) (fun q1 => ?_) (fun q1 => ?_)
  · have hB := hB.1 q1
    refine lv_aload_n hx hb dX11_tell_21 rfl (lv_at hl 0 rfl) ?_
    refine gf_X11_5 C Z.1 tw_2_17 dX11_tell_22 ?_
    refine gf_X2_17 C Z.1 isH_0 tw_1_170 dX11_tell_25 ?_
    refine lv_iload_n hx hb dX11_tell_28 rfl (lv_at hl 1 rfl) ?_
    refine v_X4_add C hl.1 Z (isR_w isH_0) tw_3_65 ⟨Nat.le_of_ble_eq_true rfl, Nat.le_of_ble_eq_true rfl⟩ ⟨Nat.le_refl _, Nat.le_refl _⟩ (Nat.le_of_ble_eq_true rfl) dX11_tell_29 hB (fun M2 H locs hB Z => ?_)
    refine lv_aload_n hx hb dX11_tell_32 rfl (lv_at hl 0 rfl) ?_
    refine gf_X11_5 C Z.1 tw_2_17 dX11_tell_33 ?_
    refine gf_X2_17 C Z.1 isH_0 tw_1_170 dX11_tell_36 ?_
    refine gf_X4_1 C Z.1 (isR_w isH_0) tw_1_47 dX11_tell_39 ?_
    exact e_iW C hr hlk Z dX11_tell_42 hB
  · have hB := hB.2 q1
    refine lv_aload_n hx hb dX11_tell_15 rfl (lv_at hl 0 rfl) ?_
    refine lv_iconst (v := 4) hx hb dX11_tell_16 (by decide) ?_
    refine v_X11_error C hl.1 Z tw_2_56 ⟨Nat.le_of_ble_eq_true rfl, Nat.le_of_ble_eq_true rfl⟩ ⟨Nat.le_refl _, Nat.le_refl _⟩ (Nat.le_of_ble_eq_true rfl) dX11_tell_17 hB (fun v3 M4 H locs hB Z => ?_)
    exact e_iW C hr hlk Z dX11_tell_20 hB
set_option maxRecDepth 100000 in
set_option maxHeartbeats 4000000 in
theorem v_X11_tell {K : Nat} {M : Mem} {x1 : Int32} {Q1 : Int32 → Mem → Prop} (C : Cx T D p s m args c cc nL own) (hls : ls.size = nL) (Z : Zz EC T D ad (69 + K) A H0 M H locs) (hlink : Cond.methodLink own index yX11_tell ∈ TB) (hR : 2 + 1 ≤ R.frames ∧ 8 + (2 + 11) + 48 * 2 ≤ R.locals) (hcs : cells ≤ R.cells ∧ slots ≤ R.slots) (hcat : (rest.map fun v => v.category).sum ≤ 8) (hdg : decode cc pc = .ok (.invokevirtual index, 3)) (hB : P_X11_tell K M x1 Q1)
    (kk : ∀ (r : Int32) (M1 : Mem) (H1 : Heap) (locs1 : List Loc), Q1 r M1 → Zz EC T D ad (69 + K) A H0 M1 H1 locs1 → W p l e R s m args below meth c H1 locs1 cells slots QQ (F0 m (pc + 3) ls (.int r :: rest))) : W p l e R s m args below meth c H locs cells slots QQ (F0 m pc ls (.int x1 :: .ref (ad 0) :: rest)) :=
  k_VW (ci := 11) (n := 1) (c_X11_tell hB) tw_5_79 tw_5_77 tw_5_78 tw_1_1 ⟨rfl, by decide, by decide, by decide +kernel⟩ rfl rfl C hls Z oO hlink hR hcs hcat rfl hdg kk
def B_X11_check_24 (K : Nat) (Q1 : Int32 → Mem → Prop) (x1 : Int32) (x2 : Int32) (M : Mem) : Prop :=
  ∀ X24 : Int32 → Mem → Prop, (∀ (x2 : Int32) (M : Mem), (((x1 ≤ x2 → Q1 0 M) ∧
    (¬ x1 ≤ x2 → ((9 ≤ x2 → Q1 (1 + x2) M) ∧
      (¬ 9 ≤ x2 → vp_in x2 20 ∧ P_X2_airOf K M 30 x2 (fun v6 M7 => (((M 41 x2.toNatClampNeg) = v6 → ∀ x2_9 : Int32, x2_9 = x2 + 1 → X24 x2_9 M7) ∧
        (¬ (M 41 x2.toNatClampNeg) = v6 → Q1 (1 + x2) M7)))))))) → X24 x2 M) → X24 x2 M
def P_X11_check (K : Nat) (M : Mem) (Q1 : Int32 → Mem → Prop) : Prop :=
  ∀ x1_1 : Int32, x1_1 = M 40 1 → ∀ M2 : Mem, M2 = sf M 40 1 0 → B_X11_check_24 K Q1 x1_1 0 M2
set_option maxRecDepth 100000 in
set_option maxHeartbeats 4000000 in
theorem w_X11_check_24 {K : Nat} {M : Mem} {Q1 : Int32 → Mem → Prop} {x1 : Int32} {x2 : Int32} (C : Cx T D p s m args c cX11_check 3 "OneOfTwo") (hr : meth.sig.returnType = (some .int)) (hlk : meth.locks = false) (Z : Zz EC T D ad (69 + K) A s.heap M H locs) {ls : Array Slot} (hl : lv_has ls 3 [(0, .ref (ad 0)), (1, .int x1), (2, .int x2)]) (hB : B_X11_check_24 K Q1 x1 x2 M) : W p l e (RM 5) s m args below meth c H locs 0 0 (MQ below (QcW EC T D ad (69 + K) A Q1) args s 0 0 A) (F0 m 24 ls []) := by
  delta B_X11_check_24 at hB
  obtain ⟨X24, hX24, hY24⟩ : ∃ X24 : Int32 → Mem → Prop, (∀ (x2 : Int32) (M : Mem), X24 x2 M → ∀ (H : Heap) (locs : List Loc) (ls : Array Slot), Zz EC T D ad (69 + K) A s.heap M H locs → lv_has ls 3 [(0, .ref (ad 0)), (1, .int x1), (2, .int x2)] → W p l e (RM 5) s m args below meth c H locs 0 0 (MQ below (QcW EC T D ad (69 + K) A Q1) args s 0 0 A) (F0 m 24 ls [])) ∧ (∀ (x2 : Int32) (M : Mem), (∀ (H : Heap) (locs : List Loc) (ls : Array Slot), Zz EC T D ad (69 + K) A s.heap M H locs → lv_has ls 3 [(0, .ref (ad 0)), (1, .int x1), (2, .int x2)] → W p l e (RM 5) s m args below meth c H locs 0 0 (MQ below (QcW EC T D ad (69 + K) A Q1) args s 0 0 A) (F0 m 24 ls [])) → X24 x2 M) := ⟨fun (x2 : Int32) (M : Mem) => ∀ (H : Heap) (locs : List Loc) (ls : Array Slot), Zz EC T D ad (69 + K) A s.heap M H locs → lv_has ls 3 [(0, .ref (ad 0)), (1, .int x1), (2, .int x2)] → W p l e (RM 5) s m args below meth c H locs 0 0 (MQ below (QcW EC T D ad (69 + K) A Q1) args s 0 0 A) (F0 m 24 ls []), fun _ _ h => h, fun _ _ h => h⟩
  refine hX24 _ _ (hB X24 (fun x2 M hB => hY24 _ _ (fun H locs ls Z hl => ?_))) _ _ _ Z hl
  have hx := C.x
  have hb := C.b
  refine lv_iload_n hx hb dX11_check_24 rfl (lv_at hl 2 rfl) ?_
  refine lv_iload_n hx hb dX11_check_25 rfl (lv_at hl 1 rfl) ?_
  refine lv_icmp_ge (tgt := 68) hx hb dX11_check_26 (by decide) (fun q3 => ?_) (fun q3 => ?_)
  · have hB := hB.1 q3
    refine lv_iconst (v := 0) hx hb dX11_check_68 (by decide) ?_
    exact e_iW C hr hlk Z dX11_check_69 hB
  · have hB := hB.2 q3
    refine lv_iload_n hx hb dX11_check_29 rfl (lv_at hl 2 rfl) ?_
    refine lv_bipush (v := 9) hx hb dX11_check_30 (by decide) ?_
    refine lv_icmp_ge (tgt := 58) hx hb dX11_check_32 (by decide) (fun q4 => ?_) (fun q4 => ?_)
    · have hB := hB.1 q4
      refine lv_iconst (v := 1) hx hb dX11_check_58 (by decide) ?_
      refine lv_iload_n hx hb dX11_check_59 rfl (lv_at hl 2 rfl) ?_
      refine lv_iadd hx hb dX11_check_60 ?_
      exact e_iW C hr hlk Z dX11_check_61 hB
    · have hB := hB.2 q4
      refine lv_aload_n hx hb dX11_check_35 rfl (lv_at hl 0 rfl) ?_
      refine gf_X11_5 C Z.1 tw_2_17 dX11_check_36 ?_
      refine gf_X2_17 C Z.1 isH_0 tw_1_170 dX11_check_39 ?_
      refine gf_X4_0 C Z.1 (isR_w isH_0) tw_1_43 dX11_check_42 ?_
      refine lv_iload_n hx hb dX11_check_45 rfl (lv_at hl 2 rfl) ?_
      obtain ⟨q5, hB⟩ := hB
      refine a_ld C Z.1 (aR (isR_w isH_0)) q5 dX11_check_46 ?_
      refine lv_aload_n hx hb dX11_check_47 rfl (lv_at hl 0 rfl) ?_
      refine gf_X11_5 C Z.1 tw_2_17 dX11_check_48 ?_
      refine lv_iload_n hx hb dX11_check_51 rfl (lv_at hl 2 rfl) ?_
      refine v_X2_airOf C hl.1 Z isH_0 tw_2_147 ⟨Nat.le_of_ble_eq_true rfl, Nat.le_of_ble_eq_true rfl⟩ ⟨Nat.le_refl _, Nat.le_refl _⟩ (Nat.le_of_ble_eq_true rfl) dX11_check_52 hB (fun v6 M7 H locs hB Z => ?_)
      refine lv_icmp_eq (tgt := 62) hx hb dX11_check_55 (by decide) (fun q8 => ?_) (fun q8 => ?_)
      · have hB := hB.1 q8
        obtain ⟨x2_9, ex2_9⟩ : ∃ y : Int32, y = x2 + 1 := ⟨_, rfl⟩
        have hB := hB x2_9 ex2_9
        refine lv_iinc (v := x2_9) (lv' := [(2, .int x2_9), (0, .ref (ad 0)), (1, .int x1)]) hx hb dX11_check_62 hl (k := 2) rfl (by rw [ex2_9]; rfl) (by decide) rfl (fun ls hl => ?_)
        refine lv_goto (tgt := 24) hx hb dX11_check_65 (by decide) ?_
        exact hX24 _ _ hB _ _ _ Z (lv_sub hl [1, 2, 0] rfl)
      · have hB := hB.2 q8
        refine lv_iconst (v := 1) hx hb dX11_check_58 (by decide) ?_
        refine lv_iload_n hx hb dX11_check_59 rfl (lv_at hl 2 rfl) ?_
        refine lv_iadd hx hb dX11_check_60 ?_
        exact e_iW C hr hlk Z dX11_check_61 hB
set_option maxRecDepth 100000 in
set_option maxHeartbeats 4000000 in
theorem c_X11_check {l : Launch} {T : Nat → ClassId} {D : va_G} {ad : Nat → Nat} {K : Nat} {M : Mem} {sz : Nat} {Q1 : Int32 → Mem → Prop} (hB : P_X11_check K M Q1) : Met l yX11_check (Cond.code yX11_check cX11_check 3 (some .int) :: TB) (RM 5) (va_Pc [.ref (ad 0)] (WrP EC T D ad (69 + K) M sz)) (QcW EC T D ad (69 + K) (AA ad (69 + K) sz) Q1) 0 0 (AA ad (69 + K) sz) := by
  refine st_W (by decide) (Nat.le_of_ble_eq_true rfl) (fun p e s m args below meth c ls C hr hlk hsz Z hl => ?_)
  have hl : lv_has ls 3 [(0, .ref (ad 0))] := hl
  generalize AA ad (69 + K) sz = A at Z ⊢
  have hx := C.x
  have hb := C.b
  delta P_X11_check at hB
  refine lv_aload_n hx hb dX11_check_0 rfl (lv_at hl 0 rfl) ?_
  refine gf_X11_5 C Z.1 tw_2_17 dX11_check_1 ?_
  refine gf_X2_17 C Z.1 isH_0 tw_1_170 dX11_check_4 ?_
  refine gf_X4_1 C Z.1 (isR_w isH_0) tw_1_47 dX11_check_7 ?_
  refine lv_topi (fun x1_1 ex1_1 => ?_)
  have hB := hB x1_1 ex1_1
  refine lv_istore_n (lv' := [(1, .int x1_1), (0, .ref (ad 0))]) hx hb dX11_check_10 rfl hl (by decide) rfl (fun ls hl => ?_)
  refine lv_aload_n hx hb dX11_check_11 rfl (lv_at hl 1 rfl) ?_
  refine gf_X11_5 C Z.1 tw_2_17 dX11_check_12 ?_
  refine gf_X2_17 C Z.1 isH_0 tw_1_170 dX11_check_15 ?_
  refine lv_iconst (v := 0) hx hb dX11_check_18 (by decide) ?_
  refine pf_X4_1 C Z (isR_w isH_0) tw_1_47 dX11_check_19 (fun M2 H locs eM2 Z => ?_)
  have hB := hB M2 eM2
  refine lv_iconst (v := 0) hx hb dX11_check_22 (by decide) ?_
  refine lv_istore_n (lv' := [(2, .int 0), (1, .int x1_1), (0, .ref (ad 0))]) hx hb dX11_check_23 rfl hl (by decide) rfl (fun ls hl => ?_)
  exact w_X11_check_24 C hr hlk Z (lv_sub hl [2, 1, 0] rfl) hB
set_option maxRecDepth 100000 in
set_option maxHeartbeats 4000000 in
theorem v_X11_check {K : Nat} {M : Mem} {Q1 : Int32 → Mem → Prop} (C : Cx T D p s m args c cc nL own) (hls : ls.size = nL) (Z : Zz EC T D ad (69 + K) A H0 M H locs) (hlink : Cond.methodLink own index yX11_check ∈ TB) (hR : 5 + 1 ≤ R.frames ∧ 8 + (3 + 11) + 48 * 5 ≤ R.locals) (hcs : cells ≤ R.cells ∧ slots ≤ R.slots) (hcat : (rest.map fun v => v.category).sum ≤ 8) (hdg : decode cc pc = .ok (.invokevirtual index, 3)) (hB : P_X11_check K M Q1)
    (kk : ∀ (r : Int32) (M1 : Mem) (H1 : Heap) (locs1 : List Loc), Q1 r M1 → Zz EC T D ad (69 + K) A H0 M1 H1 locs1 → W p l e R s m args below meth c H1 locs1 cells slots QQ (F0 m (pc + 3) ls (.int r :: rest))) : W p l e R s m args below meth c H locs cells slots QQ (F0 m pc ls (.ref (ad 0) :: rest)) :=
  k_VW (ci := 11) (n := 0) (c_X11_check hB) tw_5_83 tw_5_81 tw_5_82 tw_1_1 ⟨rfl, by decide, by decide, by decide +kernel⟩ rfl rfl C hls Z oO hlink hR hcs hcat rfl hdg kk
def P_X11_count (K : Nat) (M : Mem) (x1 : Int32) (Q1 : Int32 → Mem → Prop) : Prop :=
  ((x1 = 0 → Q1 (M 30 0) M) ∧
    (x1 = 1 → Q1 (M 30 1) M) ∧
    (x1 = 2 → Q1 (M 30 2) M) ∧
    (x1 = 3 → Q1 (M 30 10) M) ∧
    (x1 = 4 → Q1 (M 30 11) M) ∧
    (x1 = 5 → Q1 (M 30 12) M) ∧
    (x1 = 6 → P_X2_isLocked K M 30 (fun v2 => ((v2 = 0 → Q1 0 M) ∧
      (¬ v2 = 0 → Q1 1 M)))) ∧
    (x1 = 7 → P_X2_openOf K M 30 (-1) (fun v4 => Q1 v4 M)) ∧
    (x1 = 8 → Q1 (M 38 1) M) ∧
    (x1 = 9 → Q1 (M 40 1) M) ∧
    (x1 = 10 → Q1 (M 5 1) M) ∧
    (x1 = 11 → Q1 (M 30 15) M) ∧
    (¬ x1 = 0 → ¬ x1 = 1 → ¬ x1 = 2 → ¬ x1 = 3 → ¬ x1 = 4 → ¬ x1 = 5 → ¬ x1 = 6 → ¬ x1 = 7 → ¬ x1 = 8 → ¬ x1 = 9 → ¬ x1 = 10 → ¬ x1 = 11 → P_X11_error K M 1 (fun v5 M6 => Q1 v5 M6)))
set_option maxRecDepth 100000 in
set_option maxHeartbeats 4000000 in
theorem c_X11_count {l : Launch} {T : Nat → ClassId} {D : va_G} {ad : Nat → Nat} {K : Nat} {M : Mem} {x1 : Int32} {sz : Nat} {Q1 : Int32 → Mem → Prop} (hB : P_X11_count K M x1 Q1) : Met l yX11_count (Cond.code yX11_count cX11_count 2 (some .int) :: TB) (RM 2) (va_Pc [.ref (ad 0), .int x1] (WrP EC T D ad (69 + K) M sz)) (QcW EC T D ad (69 + K) (AA ad (69 + K) sz) Q1) 0 0 (AA ad (69 + K) sz) := by
  refine st_W (by decide) (Nat.le_of_ble_eq_true rfl) (fun p e s m args below meth c ls C hr hlk hsz Z hl => ?_)
  have hl : lv_has ls 2 [(0, .ref (ad 0)), (1, .int x1)] := hl
  generalize AA ad (69 + K) sz = A at Z ⊢
  have hx := C.x
  have hb := C.b
  delta P_X11_count at hB
  refine lv_iload_n hx hb dX11_count_0 rfl (lv_at hl 1 rfl) ?_
  by_cases q1_0 : x1 = 0
  · have hB := hB.1 q1_0
    refine lv_tableIn (off := 63) (tgt := 64) hx hb dX11_count_1 (by rw [q1_0]; decide) (by rw [q1_0]; decide) (by rw [q1_0]; rfl) (by decide) ?_
    refine lv_aload_n hx hb dX11_count_64 rfl (lv_at hl 0 rfl) ?_
    refine gf_X11_5 C Z.1 tw_2_17 dX11_count_65 ?_
    refine gf_X2_0 C Z.1 isH_0 tw_1_128 dX11_count_68 ?_
    exact e_iW C hr hlk Z dX11_count_71 hB
  by_cases q1_1 : x1 = 1
  · have hB := hB.2.1 q1_1
    refine lv_tableIn (off := 71) (tgt := 72) hx hb dX11_count_1 (by rw [q1_1]; decide) (by rw [q1_1]; decide) (by rw [q1_1]; rfl) (by decide) ?_
    refine lv_aload_n hx hb dX11_count_72 rfl (lv_at hl 0 rfl) ?_
    refine gf_X11_5 C Z.1 tw_2_17 dX11_count_73 ?_
    refine gf_X2_1 C Z.1 isH_0 tw_1_131 dX11_count_76 ?_
    exact e_iW C hr hlk Z dX11_count_79 hB
  by_cases q1_2 : x1 = 2
  · have hB := hB.2.2.1 q1_2
    refine lv_tableIn (off := 79) (tgt := 80) hx hb dX11_count_1 (by rw [q1_2]; decide) (by rw [q1_2]; decide) (by rw [q1_2]; rfl) (by decide) ?_
    refine lv_aload_n hx hb dX11_count_80 rfl (lv_at hl 0 rfl) ?_
    refine gf_X11_5 C Z.1 tw_2_17 dX11_count_81 ?_
    refine gf_X2_2 C Z.1 isH_0 tw_1_135 dX11_count_84 ?_
    exact e_iW C hr hlk Z dX11_count_87 hB
  by_cases q1_3 : x1 = 3
  · have hB := hB.2.2.2.1 q1_3
    refine lv_tableIn (off := 87) (tgt := 88) hx hb dX11_count_1 (by rw [q1_3]; decide) (by rw [q1_3]; decide) (by rw [q1_3]; rfl) (by decide) ?_
    refine lv_aload_n hx hb dX11_count_88 rfl (lv_at hl 0 rfl) ?_
    refine gf_X11_5 C Z.1 tw_2_17 dX11_count_89 ?_
    refine gf_X2_10 C Z.1 isH_0 tw_1_156 dX11_count_92 ?_
    exact e_iW C hr hlk Z dX11_count_95 hB
  by_cases q1_4 : x1 = 4
  · have hB := hB.2.2.2.2.1 q1_4
    refine lv_tableIn (off := 95) (tgt := 96) hx hb dX11_count_1 (by rw [q1_4]; decide) (by rw [q1_4]; decide) (by rw [q1_4]; rfl) (by decide) ?_
    refine lv_aload_n hx hb dX11_count_96 rfl (lv_at hl 0 rfl) ?_
    refine gf_X11_5 C Z.1 tw_2_17 dX11_count_97 ?_
    refine gf_X2_11 C Z.1 isH_0 tw_1_158 dX11_count_100 ?_
    exact e_iW C hr hlk Z dX11_count_103 hB
  by_cases q1_5 : x1 = 5
  · have hB := hB.2.2.2.2.2.1 q1_5
    refine lv_tableIn (off := 103) (tgt := 104) hx hb dX11_count_1 (by rw [q1_5]; decide) (by rw [q1_5]; decide) (by rw [q1_5]; rfl) (by decide) ?_
    refine lv_aload_n hx hb dX11_count_104 rfl (lv_at hl 0 rfl) ?_
    refine gf_X11_5 C Z.1 tw_2_17 dX11_count_105 ?_
    refine gf_X2_12 C Z.1 isH_0 tw_1_160 dX11_count_108 ?_
    exact e_iW C hr hlk Z dX11_count_111 hB
  by_cases q1_6 : x1 = 6
  · have hB := hB.2.2.2.2.2.2.1 q1_6
    refine lv_tableIn (off := 111) (tgt := 112) hx hb dX11_count_1 (by rw [q1_6]; decide) (by rw [q1_6]; decide) (by rw [q1_6]; rfl) (by decide) ?_
    refine lv_aload_n hx hb dX11_count_112 rfl (lv_at hl 0 rfl) ?_
    refine gf_X11_5 C Z.1 tw_2_17 dX11_count_113 ?_
    refine v_X2_isLocked C hl.1 Z.1 isH_0 tw_2_123 ⟨Nat.le_of_ble_eq_true rfl, Nat.le_of_ble_eq_true rfl⟩ ⟨Nat.le_refl _, Nat.le_refl _⟩ (Nat.le_of_ble_eq_true rfl) dX11_count_116 hB (fun v2 hB => ?_)
    refine lv_if_eq (tgt := 126) hx hb dX11_count_119 (by decide) (fun q3 => ?_) (fun q3 => ?_)
    · have hB := hB.1 q3
      refine lv_iconst (v := 0) hx hb dX11_count_126 (by decide) ?_
      exact e_iW C hr hlk Z dX11_count_127 hB
    · have hB := hB.2 q3
      refine lv_iconst (v := 1) hx hb dX11_count_122 (by decide) ?_
      refine lv_goto (tgt := 127) hx hb dX11_count_123 (by decide) ?_
      exact e_iW C hr hlk Z dX11_count_127 hB
  by_cases q1_7 : x1 = 7
  · have hB := hB.2.2.2.2.2.2.2.1 q1_7
    refine lv_tableIn (off := 127) (tgt := 128) hx hb dX11_count_1 (by rw [q1_7]; decide) (by rw [q1_7]; decide) (by rw [q1_7]; rfl) (by decide) ?_
    refine lv_aload_n hx hb dX11_count_128 rfl (lv_at hl 0 rfl) ?_
    refine gf_X11_5 C Z.1 tw_2_17 dX11_count_129 ?_
    refine lv_iconst (v := (-1)) hx hb dX11_count_132 (by decide) ?_
    refine v_X2_openOf C hl.1 Z.1 isH_0 tw_2_107 ⟨Nat.le_of_ble_eq_true rfl, Nat.le_of_ble_eq_true rfl⟩ ⟨Nat.le_refl _, Nat.le_refl _⟩ (Nat.le_of_ble_eq_true rfl) dX11_count_133 hB (fun v4 hB => ?_)
    exact e_iW C hr hlk Z dX11_count_136 hB
  by_cases q1_8 : x1 = 8
  · have hB := hB.2.2.2.2.2.2.2.2.1 q1_8
    refine lv_tableIn (off := 136) (tgt := 137) hx hb dX11_count_1 (by rw [q1_8]; decide) (by rw [q1_8]; decide) (by rw [q1_8]; rfl) (by decide) ?_
    refine lv_aload_n hx hb dX11_count_137 rfl (lv_at hl 0 rfl) ?_
    refine gf_X11_5 C Z.1 tw_2_17 dX11_count_138 ?_
    refine gf_X2_16 C Z.1 isH_0 tw_1_168 dX11_count_141 ?_
    refine gf_X4_1 C Z.1 (isR_t isH_0) tw_1_47 dX11_count_144 ?_
    exact e_iW C hr hlk Z dX11_count_147 hB
  by_cases q1_9 : x1 = 9
  · have hB := hB.2.2.2.2.2.2.2.2.2.1 q1_9
    refine lv_tableIn (off := 147) (tgt := 148) hx hb dX11_count_1 (by rw [q1_9]; decide) (by rw [q1_9]; decide) (by rw [q1_9]; rfl) (by decide) ?_
    refine lv_aload_n hx hb dX11_count_148 rfl (lv_at hl 0 rfl) ?_
    refine gf_X11_5 C Z.1 tw_2_17 dX11_count_149 ?_
    refine gf_X2_17 C Z.1 isH_0 tw_1_170 dX11_count_152 ?_
    refine gf_X4_1 C Z.1 (isR_w isH_0) tw_1_47 dX11_count_155 ?_
    exact e_iW C hr hlk Z dX11_count_158 hB
  by_cases q1_10 : x1 = 10
  · have hB := hB.2.2.2.2.2.2.2.2.2.2.1 q1_10
    refine lv_tableIn (off := 158) (tgt := 159) hx hb dX11_count_1 (by rw [q1_10]; decide) (by rw [q1_10]; decide) (by rw [q1_10]; rfl) (by decide) ?_
    refine lv_aload_n hx hb dX11_count_159 rfl (lv_at hl 0 rfl) ?_
    refine gf_X11_3 C Z.1 tw_2_15 dX11_count_160 ?_
    refine gf_X4_1 C Z.1 isR_5 tw_1_47 dX11_count_163 ?_
    exact e_iW C hr hlk Z dX11_count_166 hB
  by_cases q1_11 : x1 = 11
  · have hB := hB.2.2.2.2.2.2.2.2.2.2.2.1 q1_11
    refine lv_tableIn (off := 166) (tgt := 167) hx hb dX11_count_1 (by rw [q1_11]; decide) (by rw [q1_11]; decide) (by rw [q1_11]; rfl) (by decide) ?_
    refine lv_aload_n hx hb dX11_count_167 rfl (lv_at hl 0 rfl) ?_
    refine gf_X11_5 C Z.1 tw_2_17 dX11_count_168 ?_
    refine gf_X2_15 C Z.1 isH_0 tw_1_166 dX11_count_171 ?_
    exact e_iW C hr hlk Z dX11_count_174 hB
  have hB := hB.2.2.2.2.2.2.2.2.2.2.2.2 q1_0 q1_1 q1_2 q1_3 q1_4 q1_5 q1_6 q1_7 q1_8 q1_9 q1_10 q1_11
  refine lv_tableOut (tgt := 175) hx hb dX11_count_1 (sw_out 0 11 12 (by decide) (lt_s (lt_s (lt_s (lt_s (lt_s (lt_s (lt_s (lt_s (lt_s (lt_s (lt_s (lt_s lt_0 q1_0) q1_1) q1_2) q1_3) q1_4) q1_5) q1_6) q1_7) q1_8) q1_9) q1_10) q1_11)) (by decide) ?_
  refine lv_aload_n hx hb dX11_count_175 rfl (lv_at hl 0 rfl) ?_
  refine lv_iconst (v := 1) hx hb dX11_count_176 (by decide) ?_
  refine v_X11_error C hl.1 Z tw_2_56 ⟨Nat.le_of_ble_eq_true rfl, Nat.le_of_ble_eq_true rfl⟩ ⟨Nat.le_refl _, Nat.le_refl _⟩ (Nat.le_of_ble_eq_true rfl) dX11_count_177 hB (fun v5 M6 H locs hB Z => ?_)
  exact e_iW C hr hlk Z dX11_count_180 hB
set_option maxRecDepth 100000 in
set_option maxHeartbeats 4000000 in
theorem v_X11_count {K : Nat} {M : Mem} {x1 : Int32} {Q1 : Int32 → Mem → Prop} (C : Cx T D p s m args c cc nL own) (hls : ls.size = nL) (Z : Zz EC T D ad (69 + K) A H0 M H locs) (hlink : Cond.methodLink own index yX11_count ∈ TB) (hR : 2 + 1 ≤ R.frames ∧ 8 + (2 + 11) + 48 * 2 ≤ R.locals) (hcs : cells ≤ R.cells ∧ slots ≤ R.slots) (hcat : (rest.map fun v => v.category).sum ≤ 8) (hdg : decode cc pc = .ok (.invokevirtual index, 3)) (hB : P_X11_count K M x1 Q1)
    (kk : ∀ (r : Int32) (M1 : Mem) (H1 : Heap) (locs1 : List Loc), Q1 r M1 → Zz EC T D ad (69 + K) A H0 M1 H1 locs1 → W p l e R s m args below meth c H1 locs1 cells slots QQ (F0 m (pc + 3) ls (.int r :: rest))) : W p l e R s m args below meth c H locs cells slots QQ (F0 m pc ls (.int x1 :: .ref (ad 0) :: rest)) :=
  k_VW (ci := 11) (n := 1) (c_X11_count hB) tw_5_87 tw_5_85 tw_5_86 tw_1_1 ⟨rfl, by decide, by decide, by decide +kernel⟩ rfl rfl C hls Z oO hlink hR hcs hcat rfl hdg kk
def P_X11_told (K : Nat) (M : Mem) (x1 : Int32) (Q1 : Int32 → Mem → Prop) : Prop :=
  ((x1 < 1 → P_X11_error K M 1 (fun v2 M3 => Q1 v2 M3)) ∧
    (¬ x1 < 1 → ((x1 ≤ 5 → vp_in x1 6 ∧ Q1 (M 4 x1.toNatClampNeg) M) ∧
      (¬ x1 ≤ 5 → P_X11_error K M 1 (fun v6 M7 => Q1 v6 M7)))))
set_option maxRecDepth 100000 in
set_option maxHeartbeats 4000000 in
theorem c_X11_told {l : Launch} {T : Nat → ClassId} {D : va_G} {ad : Nat → Nat} {K : Nat} {M : Mem} {x1 : Int32} {sz : Nat} {Q1 : Int32 → Mem → Prop} (hB : P_X11_told K M x1 Q1) : Met l yX11_told (Cond.code yX11_told cX11_told 2 (some .int) :: TB) (RM 2) (va_Pc [.ref (ad 0), .int x1] (WrP EC T D ad (69 + K) M sz)) (QcW EC T D ad (69 + K) (AA ad (69 + K) sz) Q1) 0 0 (AA ad (69 + K) sz) := by
  refine st_W (by decide) (Nat.le_of_ble_eq_true rfl) (fun p e s m args below meth c ls C hr hlk hsz Z hl => ?_)
  have hl : lv_has ls 2 [(0, .ref (ad 0)), (1, .int x1)] := hl
  generalize AA ad (69 + K) sz = A at Z ⊢
  have hx := C.x
  have hb := C.b
  delta P_X11_told at hB
  refine lv_iload_n hx hb dX11_told_0 rfl (lv_at hl 1 rfl) ?_
  refine lv_iconst (v := 1) hx hb dX11_told_1 (by decide) ?_
  refine lv_icmp_lt (tgt := 10) hx hb dX11_told_2 (by decide) (fun q1 => ?_) (fun q1 => ?_)
  · have hB := hB.1 q1
    refine lv_aload_n hx hb dX11_told_10 rfl (lv_at hl 0 rfl) ?_
    refine lv_iconst (v := 1) hx hb dX11_told_11 (by decide) ?_
    refine v_X11_error C hl.1 Z tw_2_56 ⟨Nat.le_of_ble_eq_true rfl, Nat.le_of_ble_eq_true rfl⟩ ⟨Nat.le_refl _, Nat.le_refl _⟩ (Nat.le_of_ble_eq_true rfl) dX11_told_12 hB (fun v2 M3 H locs hB Z => ?_)
    exact e_iW C hr hlk Z dX11_told_15 hB
  · have hB := hB.2 q1
    refine lv_iload_n hx hb dX11_told_5 rfl (lv_at hl 1 rfl) ?_
    refine lv_iconst (v := 5) hx hb dX11_told_6 (by decide) ?_
    refine lv_icmp_le (tgt := 16) hx hb dX11_told_7 (by decide) (fun q4 => ?_) (fun q4 => ?_)
    · have hB := hB.1 q4
      refine lv_aload_n hx hb dX11_told_16 rfl (lv_at hl 0 rfl) ?_
      refine gf_X11_4 C Z.1 tw_2_16 dX11_told_17 ?_
      refine lv_iload_n hx hb dX11_told_20 rfl (lv_at hl 1 rfl) ?_
      obtain ⟨q5, hB⟩ := hB
      refine a_ld C Z.1 aC_4 q5 dX11_told_21 ?_
      exact e_iW C hr hlk Z dX11_told_22 hB
    · have hB := hB.2 q4
      refine lv_aload_n hx hb dX11_told_10 rfl (lv_at hl 0 rfl) ?_
      refine lv_iconst (v := 1) hx hb dX11_told_11 (by decide) ?_
      refine v_X11_error C hl.1 Z tw_2_56 ⟨Nat.le_of_ble_eq_true rfl, Nat.le_of_ble_eq_true rfl⟩ ⟨Nat.le_refl _, Nat.le_refl _⟩ (Nat.le_of_ble_eq_true rfl) dX11_told_12 hB (fun v6 M7 H locs hB Z => ?_)
      exact e_iW C hr hlk Z dX11_told_15 hB
set_option maxRecDepth 100000 in
set_option maxHeartbeats 4000000 in
theorem v_X11_told {K : Nat} {M : Mem} {x1 : Int32} {Q1 : Int32 → Mem → Prop} (C : Cx T D p s m args c cc nL own) (hls : ls.size = nL) (Z : Zz EC T D ad (69 + K) A H0 M H locs) (hlink : Cond.methodLink own index yX11_told ∈ TB) (hR : 2 + 1 ≤ R.frames ∧ 8 + (2 + 11) + 48 * 2 ≤ R.locals) (hcs : cells ≤ R.cells ∧ slots ≤ R.slots) (hcat : (rest.map fun v => v.category).sum ≤ 8) (hdg : decode cc pc = .ok (.invokevirtual index, 3)) (hB : P_X11_told K M x1 Q1)
    (kk : ∀ (r : Int32) (M1 : Mem) (H1 : Heap) (locs1 : List Loc), Q1 r M1 → Zz EC T D ad (69 + K) A H0 M1 H1 locs1 → W p l e R s m args below meth c H1 locs1 cells slots QQ (F0 m (pc + 3) ls (.int r :: rest))) : W p l e R s m args below meth c H locs cells slots QQ (F0 m pc ls (.int x1 :: .ref (ad 0) :: rest)) :=
  k_VW (ci := 11) (n := 1) (c_X11_told hB) tw_5_91 tw_5_89 tw_5_90 tw_1_1 ⟨rfl, by decide, by decide, by decide +kernel⟩ rfl rfl C hls Z oO hlink hR hcs hcat rfl hdg kk
def P_X10_isDigit (x0 : Int32) (Q1 : Int32 → Prop) : Prop :=
  ((x0 < 48 → Q1 0) ∧
    (¬ x0 < 48 → ((57 < x0 → Q1 0) ∧
      (¬ 57 < x0 → Q1 1))))
set_option maxRecDepth 100000 in
set_option maxHeartbeats 4000000 in
theorem c_X10_isDigit {l : Launch} {x0 : Int32} {Q1 : Int32 → Prop} (hB : P_X10_isDigit x0 Q1) : Met l yX10_isDigit (Cond.code yX10_isDigit cX10_isDigit 1 (some .boolean) :: TB) (RM 1) (va_Pc [.int x0] StP) (QcR Q1) 0 0 (fun _ => False) := by
  refine st_S (by decide) (Nat.le_of_ble_eq_true rfl) (fun p e s m args below meth c ls C hr hlk hl => ?_)
  have hl : lv_has ls 1 [(0, .int x0)] := hl
  have hx := C.1
  have hb := C.2.1
  delta P_X10_isDigit at hB
  refine lv_iload_n hx hb dX10_isDigit_0 rfl (lv_at hl 0 rfl) ?_
  refine lv_bipush (v := 48) hx hb dX10_isDigit_1 (by decide) ?_
  refine lv_icmp_lt (tgt := 16) hx hb dX10_isDigit_3 (by decide) (fun q1 => ?_) (fun q1 => ?_)
  · have hB := hB.1 q1
    refine lv_iconst (v := 0) hx hb dX10_isDigit_16 (by decide) ?_
    exact e_zR C hr hlk dX10_isDigit_17 (Or.inl rfl) hB
  · have hB := hB.2 q1
    refine lv_iload_n hx hb dX10_isDigit_6 rfl (lv_at hl 0 rfl) ?_
    refine lv_bipush (v := 57) hx hb dX10_isDigit_7 (by decide) ?_
    refine lv_icmp_gt (tgt := 16) hx hb dX10_isDigit_9 (by decide) (fun q2 => ?_) (fun q2 => ?_)
    · have hB := hB.1 q2
      refine lv_iconst (v := 0) hx hb dX10_isDigit_16 (by decide) ?_
      exact e_zR C hr hlk dX10_isDigit_17 (Or.inl rfl) hB
    · have hB := hB.2 q2
      refine lv_iconst (v := 1) hx hb dX10_isDigit_12 (by decide) ?_
      refine lv_goto (tgt := 17) hx hb dX10_isDigit_13 (by decide) ?_
      exact e_zR C hr hlk dX10_isDigit_17 (Or.inr rfl) hB
set_option maxRecDepth 100000 in
set_option maxHeartbeats 4000000 in
theorem v_X10_isDigit {x0 : Int32} {Q1 : Int32 → Prop} (C : CallFix p m c cc nL s args TB own) (hls : ls.size = nL) (hlink : Cond.methodLink own index yX10_isDigit ∈ TB) (hR : 1 + 1 ≤ R.frames ∧ 8 + (1 + 11) + 48 * 1 ≤ R.locals) (hcs : cells ≤ R.cells ∧ slots ≤ R.slots) (hcat : (rest.map fun v => v.category).sum ≤ 8) (hdg : decode cc pc = .ok (.invokestatic index, 3)) (hB : P_X10_isDigit x0 Q1)
    (kk : ∀ r : Int32, Q1 r → W p l e R s m args below meth c H locs cells slots QQ (F0 m (pc + 3) ls (.int r :: rest))) : W p l e R s m args below meth c H locs cells slots QQ (F0 m pc ls (.int x0 :: rest)) :=
  k_S (n := 1) (c_X10_isDigit hB) tw_3_141 tw_3_140 tw_1_15 ⟨by decide, by decide, by decide +kernel⟩ rfl C hls  hlink hR hcs hcat rfl hdg kk
def B_X10_numberEnd_13 (K : Nat) (r0 : Nat) (M : Mem) (Q1 : Int32 → Prop) (x2 : Int32) (x3 : Int32) : Prop :=
  ∀ X13 : Int32 → Prop, (∀ (x3 : Int32), (((x2 ≤ x3 → Q1 x3) ∧
    (¬ x2 ≤ x3 → vp_in x3 (rLen r0) ∧ P_X10_isDigit (M (r0 + 1) x3.toNatClampNeg) (fun v4 => ((v4 = 0 → Q1 x3) ∧
      (¬ v4 = 0 → ∀ x3_6 : Int32, x3_6 = x3 + 1 → X13 x3_6)))))) → X13 x3) → X13 x3
def P_X10_numberEnd (K : Nat) (M : Mem) (r0 : Nat) (x1 : Int32) (Q1 : Int32 → Prop) : Prop :=
  ∀ v1 : Int32, v1 = (if (x1 + 4) < (M r0 1) then (x1 + 4) else (M r0 1)) → B_X10_numberEnd_13 K r0 M Q1 v1 x1
set_option maxRecDepth 100000 in
set_option maxHeartbeats 4000000 in
theorem w_X10_numberEnd_13 {K : Nat} {r0 : Nat} {M : Mem} {Q1 : Int32 → Prop} {x2 : Int32} {x3 : Int32} (C : Cx T D p s m args c cX10_numberEnd 4 "OneOfTwo$Text") (hr : meth.sig.returnType = (some .int)) (hlk : meth.locks = false) (hP : Pw EC T D ad (69 + K) M s.heap) (f0 : isR r0) {ls : Array Slot} (hl : lv_has ls 4 [(0, .ref (ad r0)), (2, .int x2), (3, .int x3)]) (hB : B_X10_numberEnd_13 K r0 M Q1 x2 x3) : W p l e (RM 2) s m args below meth c s.heap [] 0 0 (MQ below (QcR Q1) args s 0 0 (fun _ => False)) (F0 m 13 ls []) := by
  delta B_X10_numberEnd_13 at hB
  obtain ⟨X13, hX13, hY13⟩ : ∃ X13 : Int32 → Prop, (∀ (x3 : Int32), X13 x3 → ∀ (ls : Array Slot), lv_has ls 4 [(0, .ref (ad r0)), (2, .int x2), (3, .int x3)] → W p l e (RM 2) s m args below meth c s.heap [] 0 0 (MQ below (QcR Q1) args s 0 0 (fun _ => False)) (F0 m 13 ls [])) ∧ (∀ (x3 : Int32), (∀ (ls : Array Slot), lv_has ls 4 [(0, .ref (ad r0)), (2, .int x2), (3, .int x3)] → W p l e (RM 2) s m args below meth c s.heap [] 0 0 (MQ below (QcR Q1) args s 0 0 (fun _ => False)) (F0 m 13 ls [])) → X13 x3) := ⟨fun (x3 : Int32) => ∀ (ls : Array Slot), lv_has ls 4 [(0, .ref (ad r0)), (2, .int x2), (3, .int x3)] → W p l e (RM 2) s m args below meth c s.heap [] 0 0 (MQ below (QcR Q1) args s 0 0 (fun _ => False)) (F0 m 13 ls []), fun _ h => h, fun _ h => h⟩
  refine hX13 _ (hB X13 (fun x3 hB => hY13 _ (fun ls hl => ?_))) _ hl
  have hx := C.x
  have hb := C.b
  refine lv_iload_n hx hb dX10_numberEnd_13 rfl (lv_at hl 2 rfl) ?_
  refine lv_iload_n hx hb dX10_numberEnd_14 rfl (lv_at hl 1 rfl) ?_
  refine lv_icmp_ge (tgt := 36) hx hb dX10_numberEnd_15 (by decide) (fun q2 => ?_) (fun q2 => ?_)
  · have hB := hB.1 q2
    refine lv_iload_n hx hb dX10_numberEnd_36 rfl (lv_at hl 2 rfl) ?_
    exact e_iR C.1 hr hlk dX10_numberEnd_37 hB
  · have hB := hB.2 q2
    refine lv_aload_n hx hb dX10_numberEnd_18 rfl (lv_at hl 0 rfl) ?_
    refine gf_X4_0 C hP f0 tw_1_41 dX10_numberEnd_19 ?_
    refine lv_iload_n hx hb dX10_numberEnd_22 rfl (lv_at hl 2 rfl) ?_
    obtain ⟨q3, hB⟩ := hB
    refine a_ld C hP (aR f0) q3 dX10_numberEnd_23 ?_
    refine v_X10_isDigit C.1 hl.1 tw_3_139 ⟨Nat.le_of_ble_eq_true rfl, Nat.le_of_ble_eq_true rfl⟩ ⟨Nat.le_refl _, Nat.le_refl _⟩ (Nat.le_of_ble_eq_true rfl) dX10_numberEnd_24 hB (fun v4 hB => ?_)
    refine lv_if_eq (tgt := 36) hx hb dX10_numberEnd_27 (by decide) (fun q5 => ?_) (fun q5 => ?_)
    · have hB := hB.1 q5
      refine lv_iload_n hx hb dX10_numberEnd_36 rfl (lv_at hl 2 rfl) ?_
      exact e_iR C.1 hr hlk dX10_numberEnd_37 hB
    · have hB := hB.2 q5
      obtain ⟨x3_6, ex3_6⟩ : ∃ y : Int32, y = x3 + 1 := ⟨_, rfl⟩
      have hB := hB x3_6 ex3_6
      refine lv_iinc (v := x3_6) (lv' := [(3, .int x3_6), (0, .ref (ad r0)), (2, .int x2)]) hx hb dX10_numberEnd_30 hl (k := 2) rfl (by rw [ex3_6]; rfl) (by decide) rfl (fun ls hl => ?_)
      refine lv_goto (tgt := 13) hx hb dX10_numberEnd_33 (by decide) ?_
      exact hX13 _ hB _ (lv_sub hl [1, 2, 0] rfl)
set_option maxRecDepth 100000 in
set_option maxHeartbeats 4000000 in
theorem c_X10_numberEnd {l : Launch} {T : Nat → ClassId} {D : va_G} {ad : Nat → Nat} {K : Nat} {M : Mem} {r0 : Nat} {x1 : Int32} {Q1 : Int32 → Prop} (f0 : isR r0) (hB : P_X10_numberEnd K M r0 x1 Q1) : Met l yX10_numberEnd (Cond.code yX10_numberEnd cX10_numberEnd 4 (some .int) :: TB) (RM 2) (va_Pc [.ref (ad r0), .int x1] (RdP EC T D ad (69 + K) M)) (QcR Q1) 0 0 (fun _ => False) := by
  refine st_R (by decide) (Nat.le_of_ble_eq_true rfl) (fun p e s m args below meth c ls C hr hlk hP hl => ?_)
  have hl : lv_has ls 4 [(0, .ref (ad r0)), (1, .int x1)] := hl
  have hx := C.x
  have hb := C.b
  delta P_X10_numberEnd at hB
  refine lv_aload_n hx hb dX10_numberEnd_0 rfl (lv_at hl 0 rfl) ?_
  refine gf_X4_1 C hP f0 tw_1_45 dX10_numberEnd_1 ?_
  refine lv_iload_n hx hb dX10_numberEnd_4 rfl (lv_at hl 1 rfl) ?_
  refine lv_iconst (v := 4) hx hb dX10_numberEnd_5 (by decide) ?_
  refine lv_iadd hx hb dX10_numberEnd_6 ?_
  refine m_min C.1 hl.1 tw_3_145 (Nat.le_of_ble_eq_true rfl) (Nat.le_of_ble_eq_true rfl) dX10_numberEnd_7 ?_
  refine lv_topi (fun v1 ev1 => ?_)
  have hB := hB v1 ev1
  refine lv_istore_n (lv' := [(2, .int v1), (0, .ref (ad r0)), (1, .int x1)]) hx hb dX10_numberEnd_10 rfl hl (by decide) rfl (fun ls hl => ?_)
  refine lv_iload_n hx hb dX10_numberEnd_11 rfl (lv_at hl 2 rfl) ?_
  refine lv_istore_n (lv' := [(3, .int x1), (2, .int v1), (0, .ref (ad r0)), (1, .int x1)]) hx hb dX10_numberEnd_12 rfl hl (by decide) rfl (fun ls hl => ?_)
  exact w_X10_numberEnd_13 C hr hlk hP f0 (lv_sub hl [2, 1, 0] rfl) hB
set_option maxRecDepth 100000 in
set_option maxHeartbeats 4000000 in
theorem v_X10_numberEnd {K : Nat} {M : Mem} {r0 : Nat} {x1 : Int32} {Q1 : Int32 → Prop} (C : Cx T D p s m args c cc nL own) (hls : ls.size = nL) (hP : Pw EC T D ad (69 + K) M H) (f0 : isR r0) (hlink : Cond.methodLink own index yX10_numberEnd ∈ TB) (hR : 2 + 1 ≤ R.frames ∧ 8 + (4 + 11) + 48 * 2 ≤ R.locals) (hcs : cells ≤ R.cells ∧ slots ≤ R.slots) (hcat : (rest.map fun v => v.category).sum ≤ 8) (hdg : decode cc pc = .ok (.invokestatic index, 3)) (hB : P_X10_numberEnd K M r0 x1 Q1)
    (kk : ∀ r : Int32, Q1 r → W p l e R s m args below meth c H locs cells slots QQ (F0 m (pc + 3) ls (.int r :: rest))) : W p l e R s m args below meth c H locs cells slots QQ (F0 m pc ls (.int x1 :: .ref (ad r0) :: rest)) :=
  k_SR (n := 2) (c_X10_numberEnd f0 hB) tw_3_144 tw_3_143 tw_1_15 ⟨by decide, by decide, by decide +kernel⟩ rfl C hls hP hlink hR hcs hcat rfl hdg kk
def B_X10_numberOf_5 (K : Nat) (r0 : Nat) (M : Mem) (Q1 : Int32 → Prop) (x2 : Int32) (x3 : Int32) (x4 : Int32) : Prop :=
  ∀ X5 : Int32 → Int32 → Prop, (∀ (x3 : Int32) (x4 : Int32), (((x2 ≤ x4 → Q1 x3) ∧
    (¬ x2 ≤ x4 → vp_in x4 (rLen r0) ∧ ∀ x3_3 : Int32, x3_3 = ((x3 * 10) + (M (r0 + 1) x4.toNatClampNeg)) - 48 → ∀ x4_4 : Int32, x4_4 = x4 + 1 → X5 x3_3 x4_4))) → X5 x3 x4) → X5 x3 x4
def P_X10_numberOf (K : Nat) (M : Mem) (r0 : Nat) (x1 : Int32) (x2 : Int32) (Q1 : Int32 → Prop) : Prop :=
  B_X10_numberOf_5 K r0 M Q1 x2 0 x1
set_option maxRecDepth 100000 in
set_option maxHeartbeats 4000000 in
theorem w_X10_numberOf_5 {K : Nat} {r0 : Nat} {M : Mem} {Q1 : Int32 → Prop} {x2 : Int32} {x3 : Int32} {x4 : Int32} (C : Cx T D p s m args c cX10_numberOf 5 "OneOfTwo$Text") (hr : meth.sig.returnType = (some .int)) (hlk : meth.locks = false) (hP : Pw EC T D ad (69 + K) M s.heap) (f0 : isR r0) {ls : Array Slot} (hl : lv_has ls 5 [(0, .ref (ad r0)), (2, .int x2), (3, .int x3), (4, .int x4)]) (hB : B_X10_numberOf_5 K r0 M Q1 x2 x3 x4) : W p l e (RM 1) s m args below meth c s.heap [] 0 0 (MQ below (QcR Q1) args s 0 0 (fun _ => False)) (F0 m 5 ls []) := by
  delta B_X10_numberOf_5 at hB
  obtain ⟨X5, hX5, hY5⟩ : ∃ X5 : Int32 → Int32 → Prop, (∀ (x3 : Int32) (x4 : Int32), X5 x3 x4 → ∀ (ls : Array Slot), lv_has ls 5 [(0, .ref (ad r0)), (2, .int x2), (3, .int x3), (4, .int x4)] → W p l e (RM 1) s m args below meth c s.heap [] 0 0 (MQ below (QcR Q1) args s 0 0 (fun _ => False)) (F0 m 5 ls [])) ∧ (∀ (x3 : Int32) (x4 : Int32), (∀ (ls : Array Slot), lv_has ls 5 [(0, .ref (ad r0)), (2, .int x2), (3, .int x3), (4, .int x4)] → W p l e (RM 1) s m args below meth c s.heap [] 0 0 (MQ below (QcR Q1) args s 0 0 (fun _ => False)) (F0 m 5 ls [])) → X5 x3 x4) := ⟨fun (x3 : Int32) (x4 : Int32) => ∀ (ls : Array Slot), lv_has ls 5 [(0, .ref (ad r0)), (2, .int x2), (3, .int x3), (4, .int x4)] → W p l e (RM 1) s m args below meth c s.heap [] 0 0 (MQ below (QcR Q1) args s 0 0 (fun _ => False)) (F0 m 5 ls []), fun _ _ h => h, fun _ _ h => h⟩
  refine hX5 _ _ (hB X5 (fun x3 x4 hB => hY5 _ _ (fun ls hl => ?_))) _ hl
  have hx := C.x
  have hb := C.b
  refine lv_iload hx hb dX10_numberOf_5 (lv_at hl 3 rfl) ?_
  refine lv_iload_n hx hb dX10_numberOf_7 rfl (lv_at hl 1 rfl) ?_
  refine lv_icmp_ge (tgt := 33) hx hb dX10_numberOf_8 (by decide) (fun q1 => ?_) (fun q1 => ?_)
  · have hB := hB.1 q1
    refine lv_iload_n hx hb dX10_numberOf_33 rfl (lv_at hl 2 rfl) ?_
    exact e_iR C.1 hr hlk dX10_numberOf_34 hB
  · have hB := hB.2 q1
    refine lv_iload_n hx hb dX10_numberOf_11 rfl (lv_at hl 2 rfl) ?_
    refine lv_bipush (v := 10) hx hb dX10_numberOf_12 (by decide) ?_
    refine lv_imul hx hb dX10_numberOf_14 ?_
    refine lv_aload_n hx hb dX10_numberOf_15 rfl (lv_at hl 0 rfl) ?_
    refine gf_X4_0 C hP f0 tw_1_41 dX10_numberOf_16 ?_
    refine lv_iload hx hb dX10_numberOf_19 (lv_at hl 3 rfl) ?_
    obtain ⟨q2, hB⟩ := hB
    refine a_ld C hP (aR f0) q2 dX10_numberOf_21 ?_
    refine lv_iadd hx hb dX10_numberOf_22 ?_
    refine lv_bipush (v := 48) hx hb dX10_numberOf_23 (by decide) ?_
    refine lv_isub hx hb dX10_numberOf_25 ?_
    refine lv_topi (fun x3_3 ex3_3 => ?_)
    have hB := hB x3_3 ex3_3
    refine lv_istore_n (lv' := [(3, .int x3_3), (0, .ref (ad r0)), (2, .int x2), (4, .int x4)]) hx hb dX10_numberOf_26 rfl hl (by decide) rfl (fun ls hl => ?_)
    obtain ⟨x4_4, ex4_4⟩ : ∃ y : Int32, y = x4 + 1 := ⟨_, rfl⟩
    have hB := hB x4_4 ex4_4
    refine lv_iinc (v := x4_4) (lv' := [(4, .int x4_4), (3, .int x3_3), (0, .ref (ad r0)), (2, .int x2)]) hx hb dX10_numberOf_27 hl (k := 3) rfl (by rw [ex4_4]; rfl) (by decide) rfl (fun ls hl => ?_)
    refine lv_goto (tgt := 5) hx hb dX10_numberOf_30 (by decide) ?_
    exact hX5 _ _ hB _ (lv_sub hl [2, 3, 1, 0] rfl)
set_option maxRecDepth 100000 in
set_option maxHeartbeats 4000000 in
theorem c_X10_numberOf {l : Launch} {T : Nat → ClassId} {D : va_G} {ad : Nat → Nat} {K : Nat} {M : Mem} {r0 : Nat} {x1 : Int32} {x2 : Int32} {Q1 : Int32 → Prop} (f0 : isR r0) (hB : P_X10_numberOf K M r0 x1 x2 Q1) : Met l yX10_numberOf (Cond.code yX10_numberOf cX10_numberOf 5 (some .int) :: TB) (RM 1) (va_Pc [.ref (ad r0), .int x1, .int x2] (RdP EC T D ad (69 + K) M)) (QcR Q1) 0 0 (fun _ => False) := by
  refine st_R (by decide) (Nat.le_of_ble_eq_true rfl) (fun p e s m args below meth c ls C hr hlk hP hl => ?_)
  have hl : lv_has ls 5 [(0, .ref (ad r0)), (1, .int x1), (2, .int x2)] := hl
  have hx := C.x
  have hb := C.b
  delta P_X10_numberOf at hB
  refine lv_iconst (v := 0) hx hb dX10_numberOf_0 (by decide) ?_
  refine lv_istore_n (lv' := [(3, .int 0), (0, .ref (ad r0)), (1, .int x1), (2, .int x2)]) hx hb dX10_numberOf_1 rfl hl (by decide) rfl (fun ls hl => ?_)
  refine lv_iload_n hx hb dX10_numberOf_2 rfl (lv_at hl 2 rfl) ?_
  refine lv_istore (lv' := [(4, .int x1), (3, .int 0), (0, .ref (ad r0)), (1, .int x1), (2, .int x2)]) hx hb dX10_numberOf_3 hl (by decide) rfl (fun ls hl => ?_)
  exact w_X10_numberOf_5 C hr hlk hP f0 (lv_sub hl [2, 4, 1, 0] rfl) hB
set_option maxRecDepth 100000 in
set_option maxHeartbeats 4000000 in
theorem v_X10_numberOf {K : Nat} {M : Mem} {r0 : Nat} {x1 : Int32} {x2 : Int32} {Q1 : Int32 → Prop} (C : Cx T D p s m args c cc nL own) (hls : ls.size = nL) (hP : Pw EC T D ad (69 + K) M H) (f0 : isR r0) (hlink : Cond.methodLink own index yX10_numberOf ∈ TB) (hR : 1 + 1 ≤ R.frames ∧ 8 + (5 + 11) + 48 * 1 ≤ R.locals) (hcs : cells ≤ R.cells ∧ slots ≤ R.slots) (hcat : (rest.map fun v => v.category).sum ≤ 8) (hdg : decode cc pc = .ok (.invokestatic index, 3)) (hB : P_X10_numberOf K M r0 x1 x2 Q1)
    (kk : ∀ r : Int32, Q1 r → W p l e R s m args below meth c H locs cells slots QQ (F0 m (pc + 3) ls (.int r :: rest))) : W p l e R s m args below meth c H locs cells slots QQ (F0 m pc ls (.int x2 :: .int x1 :: .ref (ad r0) :: rest)) :=
  k_SR (n := 3) (c_X10_numberOf f0 hB) tw_3_148 tw_3_147 tw_1_15 ⟨by decide, by decide, by decide +kernel⟩ rfl C hls hP hlink hR hcs hcat rfl hdg kk
def P_X10_addCode (K : Nat) (M : Mem) (g : Nat) (x1 : Int32) (Q1 : Mem → Prop) : Prop :=
  ((50 ≤ (M g 3) → Q1 M) ∧
    (¬ 50 ≤ (M g 3) → vp_in (M g 3) 50 ∧ ∀ M2 : Mem, M2 = sf M (g + 1) (M g 3).toNatClampNeg x1 → ∀ v4 : Int32, v4 = (M2 g 3) + 1 → ∀ M5 : Mem, M5 = sf M2 g 3 v4 → Q1 M5))
set_option maxRecDepth 100000 in
set_option maxHeartbeats 4000000 in
theorem c_X10_addCode {l : Launch} {T : Nat → ClassId} {D : va_G} {ad : Nat → Nat} {K : Nat} {M : Mem} {g : Nat} {x1 : Int32} {sz : Nat} {Q1 : Mem → Prop} (hg : isT K g) (hB : P_X10_addCode K M g x1 Q1) : Met l yX10_addCode (Cond.code yX10_addCode cX10_addCode 2 none :: TB) (RM 1) (va_Pc [.ref (ad g), .int x1] (WrP EC T D ad (69 + K) M sz)) (QcV EC T D ad (69 + K) (AA ad (69 + K) sz) Q1) 0 0 (AA ad (69 + K) sz) := by
  refine st_W (by decide) (Nat.le_of_ble_eq_true rfl) (fun p e s m args below meth c ls C hr hlk hsz Z hl => ?_)
  have hl : lv_has ls 2 [(0, .ref (ad g)), (1, .int x1)] := hl
  generalize AA ad (69 + K) sz = A at Z ⊢
  have hx := C.x
  have hb := C.b
  delta P_X10_addCode at hB
  refine lv_aload_n hx hb dX10_addCode_0 rfl (lv_at hl 0 rfl) ?_
  refine gf_X10_3 C Z.1 hg tw_3_87 dX10_addCode_1 ?_
  refine lv_aload_n hx hb dX10_addCode_4 rfl (lv_at hl 0 rfl) ?_
  refine gf_X10_2 C Z.1 hg tw_3_86 dX10_addCode_5 ?_
  refine a_len (v := 50) C Z.1 (aT_1 hg) rfl dX10_addCode_8 ?_
  refine lv_icmp_ge (tgt := 32) hx hb dX10_addCode_9 (by decide) (fun q1 => ?_) (fun q1 => ?_)
  · have hB := hB.1 q1
    exact e_vW C hr hlk Z dX10_addCode_32 hB
  · have hB := hB.2 q1
    refine lv_aload_n hx hb dX10_addCode_12 rfl (lv_at hl 0 rfl) ?_
    refine gf_X10_2 C Z.1 hg tw_3_86 dX10_addCode_13 ?_
    refine lv_aload_n hx hb dX10_addCode_16 rfl (lv_at hl 0 rfl) ?_
    refine gf_X10_3 C Z.1 hg tw_3_87 dX10_addCode_17 ?_
    refine lv_iload_n hx hb dX10_addCode_20 rfl (lv_at hl 1 rfl) ?_
    obtain ⟨q3, hB⟩ := hB
    refine a_st C Z (aT_1 hg) q3 dX10_addCode_21 (fun M2 H locs eM2 Z => ?_)
    have hB := hB M2 eM2
    refine lv_aload_n hx hb dX10_addCode_22 rfl (lv_at hl 0 rfl) ?_
    refine lv_dup hx hb dX10_addCode_23 rfl ?_
    refine gf_X10_3 C Z.1 hg tw_3_87 dX10_addCode_24 ?_
    refine lv_iconst (v := 1) hx hb dX10_addCode_27 (by decide) ?_
    refine lv_iadd hx hb dX10_addCode_28 ?_
    refine lv_topi (fun v4 ev4 => ?_)
    have hB := hB v4 ev4
    refine pf_X10_3 C Z hg tw_3_87 dX10_addCode_29 (fun M5 H locs eM5 Z => ?_)
    have hB := hB M5 eM5
    exact e_vW C hr hlk Z dX10_addCode_32 hB
set_option maxRecDepth 100000 in
set_option maxHeartbeats 4000000 in
theorem v_X10_addCode {K : Nat} {M : Mem} {g : Nat} {x1 : Int32} {Q1 : Mem → Prop} (C : Cx T D p s m args c cc nL own) (hls : ls.size = nL) (Z : Zz EC T D ad (69 + K) A H0 M H locs) (hg : isT K g) (hlink : Cond.methodLink own index yX10_addCode ∈ TB) (hR : 1 + 1 ≤ R.frames ∧ 8 + (2 + 11) + 48 * 1 ≤ R.locals) (hcs : cells ≤ R.cells ∧ slots ≤ R.slots) (hcat : (rest.map fun v => v.category).sum ≤ 8) (hdg : decode cc pc = .ok (.invokevirtual index, 3)) (hB : P_X10_addCode K M g x1 Q1)
    (kk : ∀ (M1 : Mem) (H1 : Heap) (locs1 : List Loc), Q1 M1 → Zz EC T D ad (69 + K) A H0 M1 H1 locs1 → W p l e R s m args below meth c H1 locs1 cells slots QQ (F0 m (pc + 3) ls rest)) : W p l e R s m args below meth c H locs cells slots QQ (F0 m pc ls (.int x1 :: .ref (ad g) :: rest)) :=
  k_VV (ci := 10) (n := 1) (c_X10_addCode hg hB) tw_3_126 tw_3_125 tw_s_5 tw_1_15 ⟨rfl, by decide, by decide, by decide +kernel⟩ rfl rfl C hls Z (oT hg) hlink hR hcs hcat rfl hdg kk
def B_X10_closeNots_0 (K : Nat) (g : Nat) (Q1 : Mem → Prop) (M : Mem) : Prop :=
  ∀ X0 : Mem → Prop, (∀ (M : Mem), ((((M g 5) ≤ 0 → Q1 M) ∧
    (¬ (M g 5) ≤ 0 → vp_in ((M g 5) - 1) 50 ∧ ((¬ (M (g + 2) ((M g 5) - 1).toNatClampNeg) = 33 → Q1 M) ∧
      ((M (g + 2) ((M g 5) - 1).toNatClampNeg) = 33 → ∀ v4 : Int32, v4 = (M g 5) - 1 → ∀ M5 : Mem, M5 = sf M g 5 v4 → ∀ v6 : Int32, v6 = (M5 g 6) - 1 → ∀ M7 : Mem, M7 = sf M5 g 6 v6 → P_X10_addCode K M7 g (-33) (fun M8 => X0 M8)))))) → X0 M) → X0 M
def P_X10_closeNots (K : Nat) (M : Mem) (g : Nat) (Q1 : Mem → Prop) : Prop :=
  B_X10_closeNots_0 K g Q1 M
set_option maxRecDepth 100000 in
set_option maxHeartbeats 4000000 in
theorem w_X10_closeNots_0 {K : Nat} {g : Nat} {M : Mem} {Q1 : Mem → Prop} (C : Cx T D p s m args c cX10_closeNots 1 "OneOfTwo$Text") (hr : meth.sig.returnType = none) (hlk : meth.locks = false) (Z : Zz EC T D ad (69 + K) A s.heap M H locs) (hg : isT K g) {ls : Array Slot} (hl : lv_has ls 1 [(0, .ref (ad g))]) (hB : B_X10_closeNots_0 K g Q1 M) : W p l e (RM 2) s m args below meth c H locs 0 0 (MQ below (QcV EC T D ad (69 + K) A Q1) args s 0 0 A) (F0 m 0 ls []) := by
  delta B_X10_closeNots_0 at hB
  obtain ⟨X0, hX0, hY0⟩ : ∃ X0 : Mem → Prop, (∀ (M : Mem), X0 M → ∀ (H : Heap) (locs : List Loc) (ls : Array Slot), Zz EC T D ad (69 + K) A s.heap M H locs → lv_has ls 1 [(0, .ref (ad g))] → W p l e (RM 2) s m args below meth c H locs 0 0 (MQ below (QcV EC T D ad (69 + K) A Q1) args s 0 0 A) (F0 m 0 ls [])) ∧ (∀ (M : Mem), (∀ (H : Heap) (locs : List Loc) (ls : Array Slot), Zz EC T D ad (69 + K) A s.heap M H locs → lv_has ls 1 [(0, .ref (ad g))] → W p l e (RM 2) s m args below meth c H locs 0 0 (MQ below (QcV EC T D ad (69 + K) A Q1) args s 0 0 A) (F0 m 0 ls [])) → X0 M) := ⟨fun (M : Mem) => ∀ (H : Heap) (locs : List Loc) (ls : Array Slot), Zz EC T D ad (69 + K) A s.heap M H locs → lv_has ls 1 [(0, .ref (ad g))] → W p l e (RM 2) s m args below meth c H locs 0 0 (MQ below (QcV EC T D ad (69 + K) A Q1) args s 0 0 A) (F0 m 0 ls []), fun _ h => h, fun _ h => h⟩
  refine hX0 _ (hB X0 (fun M hB => hY0 _ (fun H locs ls Z hl => ?_))) _ _ _ Z hl
  have hx := C.x
  have hb := C.b
  refine lv_aload_n hx hb dX10_closeNots_0 rfl (lv_at hl 0 rfl) ?_
  refine gf_X10_5 C Z.1 hg tw_3_89 dX10_closeNots_1 ?_
  refine lv_if_le (tgt := 52) hx hb dX10_closeNots_4 (by decide) (fun q1 => ?_) (fun q1 => ?_)
  · have hB := hB.1 q1
    exact e_vW C hr hlk Z dX10_closeNots_52 hB
  · have hB := hB.2 q1
    refine lv_aload_n hx hb dX10_closeNots_7 rfl (lv_at hl 0 rfl) ?_
    refine gf_X10_4 C Z.1 hg tw_3_88 dX10_closeNots_8 ?_
    refine lv_aload_n hx hb dX10_closeNots_11 rfl (lv_at hl 0 rfl) ?_
    refine gf_X10_5 C Z.1 hg tw_3_89 dX10_closeNots_12 ?_
    refine lv_iconst (v := 1) hx hb dX10_closeNots_15 (by decide) ?_
    refine lv_isub hx hb dX10_closeNots_16 ?_
    obtain ⟨q2, hB⟩ := hB
    refine a_ld C Z.1 (aT_2 hg) q2 dX10_closeNots_17 ?_
    refine lv_bipush (v := 33) hx hb dX10_closeNots_18 (by decide) ?_
    refine lv_icmp_ne (tgt := 52) hx hb dX10_closeNots_20 (by decide) (fun q3 => ?_) (fun q3 => ?_)
    · have hB := hB.1 q3
      exact e_vW C hr hlk Z dX10_closeNots_52 hB
    · have hB := hB.2 q3
      refine lv_aload_n hx hb dX10_closeNots_23 rfl (lv_at hl 0 rfl) ?_
      refine lv_dup hx hb dX10_closeNots_24 rfl ?_
      refine gf_X10_5 C Z.1 hg tw_3_89 dX10_closeNots_25 ?_
      refine lv_iconst (v := 1) hx hb dX10_closeNots_28 (by decide) ?_
      refine lv_isub hx hb dX10_closeNots_29 ?_
      refine lv_topi (fun v4 ev4 => ?_)
      have hB := hB v4 ev4
      refine pf_X10_5 C Z hg tw_3_89 dX10_closeNots_30 (fun M5 H locs eM5 Z => ?_)
      have hB := hB M5 eM5
      refine lv_aload_n hx hb dX10_closeNots_33 rfl (lv_at hl 0 rfl) ?_
      refine lv_dup hx hb dX10_closeNots_34 rfl ?_
      refine gf_X10_6 C Z.1 hg tw_3_90 dX10_closeNots_35 ?_
      refine lv_iconst (v := 1) hx hb dX10_closeNots_38 (by decide) ?_
      refine lv_isub hx hb dX10_closeNots_39 ?_
      refine lv_topi (fun v6 ev6 => ?_)
      have hB := hB v6 ev6
      refine pf_X10_6 C Z hg tw_3_90 dX10_closeNots_40 (fun M7 H locs eM7 Z => ?_)
      have hB := hB M7 eM7
      refine lv_aload_n hx hb dX10_closeNots_43 rfl (lv_at hl 0 rfl) ?_
      refine lv_bipush (v := (-33)) hx hb dX10_closeNots_44 (by decide) ?_
      refine v_X10_addCode C hl.1 Z hg tw_3_123 ⟨Nat.le_of_ble_eq_true rfl, Nat.le_of_ble_eq_true rfl⟩ ⟨Nat.le_refl _, Nat.le_refl _⟩ (Nat.le_of_ble_eq_true rfl) dX10_closeNots_46 hB (fun M8 H locs hB Z => ?_)
      refine lv_goto (tgt := 0) hx hb dX10_closeNots_49 (by decide) ?_
      exact hX0 _ hB _ _ _ Z (lv_sub hl [0] rfl)
set_option maxRecDepth 100000 in
set_option maxHeartbeats 4000000 in
theorem c_X10_closeNots {l : Launch} {T : Nat → ClassId} {D : va_G} {ad : Nat → Nat} {K : Nat} {M : Mem} {g : Nat} {sz : Nat} {Q1 : Mem → Prop} (hg : isT K g) (hB : P_X10_closeNots K M g Q1) : Met l yX10_closeNots (Cond.code yX10_closeNots cX10_closeNots 1 none :: TB) (RM 2) (va_Pc [.ref (ad g)] (WrP EC T D ad (69 + K) M sz)) (QcV EC T D ad (69 + K) (AA ad (69 + K) sz) Q1) 0 0 (AA ad (69 + K) sz) := by
  refine st_W (by decide) (Nat.le_of_ble_eq_true rfl) (fun p e s m args below meth c ls C hr hlk hsz Z hl => ?_)
  have hl : lv_has ls 1 [(0, .ref (ad g))] := hl
  generalize AA ad (69 + K) sz = A at Z ⊢
  have hx := C.x
  have hb := C.b
  delta P_X10_closeNots at hB
  exact w_X10_closeNots_0 C hr hlk Z hg (lv_sub hl [0] rfl) hB
set_option maxRecDepth 100000 in
set_option maxHeartbeats 4000000 in
theorem v_X10_closeNots {K : Nat} {M : Mem} {g : Nat} {Q1 : Mem → Prop} (C : Cx T D p s m args c cc nL own) (hls : ls.size = nL) (Z : Zz EC T D ad (69 + K) A H0 M H locs) (hg : isT K g) (hlink : Cond.methodLink own index yX10_closeNots ∈ TB) (hR : 2 + 1 ≤ R.frames ∧ 8 + (1 + 11) + 48 * 2 ≤ R.locals) (hcs : cells ≤ R.cells ∧ slots ≤ R.slots) (hcat : (rest.map fun v => v.category).sum ≤ 8) (hdg : decode cc pc = .ok (.invokevirtual index, 3)) (hB : P_X10_closeNots K M g Q1)
    (kk : ∀ (M1 : Mem) (H1 : Heap) (locs1 : List Loc), Q1 M1 → Zz EC T D ad (69 + K) A H0 M1 H1 locs1 → W p l e R s m args below meth c H1 locs1 cells slots QQ (F0 m (pc + 3) ls rest)) : W p l e R s m args below meth c H locs cells slots QQ (F0 m pc ls (.ref (ad g) :: rest)) :=
  k_VV (ci := 10) (n := 0) (c_X10_closeNots hg hB) tw_3_130 tw_3_129 tw_s_6 tw_1_15 ⟨rfl, by decide, by decide, by decide +kernel⟩ rfl rfl C hls Z (oT hg) hlink hR hcs hcat rfl hdg kk
def P_X10_addValue (K : Nat) (M : Mem) (g : Nat) (x1 : Int32) (Q1 : Mem → Prop) : Prop :=
  P_X10_addCode K M g x1 (fun M1 => P_X10_closeNots K M1 g (fun M2 => Q1 M2))
set_option maxRecDepth 100000 in
set_option maxHeartbeats 4000000 in
theorem c_X10_addValue {l : Launch} {T : Nat → ClassId} {D : va_G} {ad : Nat → Nat} {K : Nat} {M : Mem} {g : Nat} {x1 : Int32} {sz : Nat} {Q1 : Mem → Prop} (hg : isT K g) (hB : P_X10_addValue K M g x1 Q1) : Met l yX10_addValue (Cond.code yX10_addValue cX10_addValue 2 none :: TB) (RM 3) (va_Pc [.ref (ad g), .int x1] (WrP EC T D ad (69 + K) M sz)) (QcV EC T D ad (69 + K) (AA ad (69 + K) sz) Q1) 0 0 (AA ad (69 + K) sz) := by
  refine st_W (by decide) (Nat.le_of_ble_eq_true rfl) (fun p e s m args below meth c ls C hr hlk hsz Z hl => ?_)
  have hl : lv_has ls 2 [(0, .ref (ad g)), (1, .int x1)] := hl
  generalize AA ad (69 + K) sz = A at Z ⊢
  have hx := C.x
  have hb := C.b
  delta P_X10_addValue at hB
  refine lv_aload_n hx hb dX10_addValue_0 rfl (lv_at hl 0 rfl) ?_
  refine lv_iload_n hx hb dX10_addValue_1 rfl (lv_at hl 1 rfl) ?_
  refine v_X10_addCode C hl.1 Z hg tw_3_123 ⟨Nat.le_of_ble_eq_true rfl, Nat.le_of_ble_eq_true rfl⟩ ⟨Nat.le_refl _, Nat.le_refl _⟩ (Nat.le_of_ble_eq_true rfl) dX10_addValue_2 hB (fun M1 H locs hB Z => ?_)
  refine lv_aload_n hx hb dX10_addValue_5 rfl (lv_at hl 0 rfl) ?_
  refine v_X10_closeNots C hl.1 Z hg tw_3_127 ⟨Nat.le_of_ble_eq_true rfl, Nat.le_of_ble_eq_true rfl⟩ ⟨Nat.le_refl _, Nat.le_refl _⟩ (Nat.le_of_ble_eq_true rfl) dX10_addValue_6 hB (fun M2 H locs hB Z => ?_)
  exact e_vW C hr hlk Z dX10_addValue_9 hB
set_option maxRecDepth 100000 in
set_option maxHeartbeats 4000000 in
theorem v_X10_addValue {K : Nat} {M : Mem} {g : Nat} {x1 : Int32} {Q1 : Mem → Prop} (C : Cx T D p s m args c cc nL own) (hls : ls.size = nL) (Z : Zz EC T D ad (69 + K) A H0 M H locs) (hg : isT K g) (hlink : Cond.methodLink own index yX10_addValue ∈ TB) (hR : 3 + 1 ≤ R.frames ∧ 8 + (2 + 11) + 48 * 3 ≤ R.locals) (hcs : cells ≤ R.cells ∧ slots ≤ R.slots) (hcat : (rest.map fun v => v.category).sum ≤ 8) (hdg : decode cc pc = .ok (.invokevirtual index, 3)) (hB : P_X10_addValue K M g x1 Q1)
    (kk : ∀ (M1 : Mem) (H1 : Heap) (locs1 : List Loc), Q1 M1 → Zz EC T D ad (69 + K) A H0 M1 H1 locs1 → W p l e R s m args below meth c H1 locs1 cells slots QQ (F0 m (pc + 3) ls rest)) : W p l e R s m args below meth c H locs cells slots QQ (F0 m pc ls (.int x1 :: .ref (ad g) :: rest)) :=
  k_VV (ci := 10) (n := 1) (c_X10_addValue hg hB) tw_3_152 tw_3_151 tw_s_9 tw_1_15 ⟨rfl, by decide, by decide, by decide +kernel⟩ rfl rfl C hls Z (oT hg) hlink hR hcs hcat rfl hdg kk
def P_X10_push (K : Nat) (M : Mem) (g : Nat) (x1 : Int32) (Q1 : Int32 → Mem → Prop) : Prop :=
  (((M g 5) < 50 → vp_in (M g 5) 50 ∧ ∀ M2 : Mem, M2 = sf M (g + 2) (M g 5).toNatClampNeg x1 → ∀ v4 : Int32, v4 = (M2 g 5) + 1 → ∀ M5 : Mem, M5 = sf M2 g 5 v4 → Q1 1 M5) ∧
    (¬ (M g 5) < 50 → Q1 0 M))
set_option maxRecDepth 100000 in
set_option maxHeartbeats 4000000 in
theorem c_X10_push {l : Launch} {T : Nat → ClassId} {D : va_G} {ad : Nat → Nat} {K : Nat} {M : Mem} {g : Nat} {x1 : Int32} {sz : Nat} {Q1 : Int32 → Mem → Prop} (hg : isT K g) (hB : P_X10_push K M g x1 Q1) : Met l yX10_push (Cond.code yX10_push cX10_push 2 (some .boolean) :: TB) (RM 1) (va_Pc [.ref (ad g), .int x1] (WrP EC T D ad (69 + K) M sz)) (QcW EC T D ad (69 + K) (AA ad (69 + K) sz) Q1) 0 0 (AA ad (69 + K) sz) := by
  refine st_W (by decide) (Nat.le_of_ble_eq_true rfl) (fun p e s m args below meth c ls C hr hlk hsz Z hl => ?_)
  have hl : lv_has ls 2 [(0, .ref (ad g)), (1, .int x1)] := hl
  generalize AA ad (69 + K) sz = A at Z ⊢
  have hx := C.x
  have hb := C.b
  delta P_X10_push at hB
  refine lv_aload_n hx hb dX10_push_0 rfl (lv_at hl 0 rfl) ?_
  refine gf_X10_5 C Z.1 hg tw_3_89 dX10_push_1 ?_
  refine lv_aload_n hx hb dX10_push_4 rfl (lv_at hl 0 rfl) ?_
  refine gf_X10_4 C Z.1 hg tw_3_88 dX10_push_5 ?_
  refine a_len (v := 50) C Z.1 (aT_2 hg) rfl dX10_push_8 ?_
  refine lv_icmp_lt (tgt := 14) hx hb dX10_push_9 (by decide) (fun q1 => ?_) (fun q1 => ?_)
  · have hB := hB.1 q1
    refine lv_aload_n hx hb dX10_push_14 rfl (lv_at hl 0 rfl) ?_
    refine gf_X10_4 C Z.1 hg tw_3_88 dX10_push_15 ?_
    refine lv_aload_n hx hb dX10_push_18 rfl (lv_at hl 0 rfl) ?_
    refine gf_X10_5 C Z.1 hg tw_3_89 dX10_push_19 ?_
    refine lv_iload_n hx hb dX10_push_22 rfl (lv_at hl 1 rfl) ?_
    obtain ⟨q3, hB⟩ := hB
    refine a_st C Z (aT_2 hg) q3 dX10_push_23 (fun M2 H locs eM2 Z => ?_)
    have hB := hB M2 eM2
    refine lv_aload_n hx hb dX10_push_24 rfl (lv_at hl 0 rfl) ?_
    refine lv_dup hx hb dX10_push_25 rfl ?_
    refine gf_X10_5 C Z.1 hg tw_3_89 dX10_push_26 ?_
    refine lv_iconst (v := 1) hx hb dX10_push_29 (by decide) ?_
    refine lv_iadd hx hb dX10_push_30 ?_
    refine lv_topi (fun v4 ev4 => ?_)
    have hB := hB v4 ev4
    refine pf_X10_5 C Z hg tw_3_89 dX10_push_31 (fun M5 H locs eM5 Z => ?_)
    have hB := hB M5 eM5
    refine lv_iconst (v := 1) hx hb dX10_push_34 (by decide) ?_
    exact e_zW C hr hlk Z dX10_push_35 (Or.inr rfl) hB
  · have hB := hB.2 q1
    refine lv_iconst (v := 0) hx hb dX10_push_12 (by decide) ?_
    exact e_zW C hr hlk Z dX10_push_13 (Or.inl rfl) hB
set_option maxRecDepth 100000 in
set_option maxHeartbeats 4000000 in
theorem v_X10_push {K : Nat} {M : Mem} {g : Nat} {x1 : Int32} {Q1 : Int32 → Mem → Prop} (C : Cx T D p s m args c cc nL own) (hls : ls.size = nL) (Z : Zz EC T D ad (69 + K) A H0 M H locs) (hg : isT K g) (hlink : Cond.methodLink own index yX10_push ∈ TB) (hR : 1 + 1 ≤ R.frames ∧ 8 + (2 + 11) + 48 * 1 ≤ R.locals) (hcs : cells ≤ R.cells ∧ slots ≤ R.slots) (hcat : (rest.map fun v => v.category).sum ≤ 8) (hdg : decode cc pc = .ok (.invokevirtual index, 3)) (hB : P_X10_push K M g x1 Q1)
    (kk : ∀ (r : Int32) (M1 : Mem) (H1 : Heap) (locs1 : List Loc), Q1 r M1 → Zz EC T D ad (69 + K) A H0 M1 H1 locs1 → W p l e R s m args below meth c H1 locs1 cells slots QQ (F0 m (pc + 3) ls (.int r :: rest))) : W p l e R s m args below meth c H locs cells slots QQ (F0 m pc ls (.int x1 :: .ref (ad g) :: rest)) :=
  k_VW (ci := 10) (n := 1) (c_X10_push hg hB) tw_3_138 tw_3_137 tw_s_8 tw_1_15 ⟨rfl, by decide, by decide, by decide +kernel⟩ rfl rfl C hls Z (oT hg) hlink hR hcs hcat rfl hdg kk
def B_X10_opens_12 (K : Nat) (g : Nat) (Q1 : Int32 → Mem → Prop) (x1 : Int32) (M : Mem) : Prop :=
  (((M g 6) < 5 → ∀ v3 : Int32, v3 = (M g 6) + 1 → ∀ M4 : Mem, M4 = sf M g 6 v3 → P_X10_push K M4 g x1 (fun v5 M6 => (v5 = 0 ∨ v5 = 1) ∧ Q1 v5 M6)) ∧
    (¬ (M g 6) < 5 → Q1 0 M))
def P_X10_opens (K : Nat) (M : Mem) (g : Nat) (x1 : Int32) (Q1 : Int32 → Mem → Prop) : Prop :=
  ((x1 = 33 → B_X10_opens_12 K g Q1 x1 M) ∧
    (¬ x1 = 33 → ((¬ x1 = 40 → Q1 0 M) ∧
      (x1 = 40 → B_X10_opens_12 K g Q1 x1 M))))
set_option maxRecDepth 100000 in
set_option maxHeartbeats 4000000 in
theorem w_X10_opens_12 {K : Nat} {g : Nat} {M : Mem} {Q1 : Int32 → Mem → Prop} {x1 : Int32} (C : Cx T D p s m args c cX10_opens 2 "OneOfTwo$Text") (hr : meth.sig.returnType = (some .boolean)) (hlk : meth.locks = false) (Z : Zz EC T D ad (69 + K) A s.heap M H locs) (hg : isT K g) {ls : Array Slot} (hl : lv_has ls 2 [(0, .ref (ad g)), (1, .int x1)]) (hB : B_X10_opens_12 K g Q1 x1 M) : W p l e (RM 2) s m args below meth c H locs 0 0 (MQ below (QcW EC T D ad (69 + K) A Q1) args s 0 0 A) (F0 m 12 ls []) := by
  have hx := C.x
  have hb := C.b
  delta B_X10_opens_12 at hB
  refine lv_aload_n hx hb dX10_opens_12 rfl (lv_at hl 0 rfl) ?_
  refine gf_X10_6 C Z.1 hg tw_3_90 dX10_opens_13 ?_
  refine lv_iconst (v := 5) hx hb dX10_opens_16 (by decide) ?_
  refine lv_icmp_lt (tgt := 22) hx hb dX10_opens_17 (by decide) (fun q2 => ?_) (fun q2 => ?_)
  · have hB := hB.1 q2
    refine lv_aload_n hx hb dX10_opens_22 rfl (lv_at hl 0 rfl) ?_
    refine lv_dup hx hb dX10_opens_23 rfl ?_
    refine gf_X10_6 C Z.1 hg tw_3_90 dX10_opens_24 ?_
    refine lv_iconst (v := 1) hx hb dX10_opens_27 (by decide) ?_
    refine lv_iadd hx hb dX10_opens_28 ?_
    refine lv_topi (fun v3 ev3 => ?_)
    have hB := hB v3 ev3
    refine pf_X10_6 C Z hg tw_3_90 dX10_opens_29 (fun M4 H locs eM4 Z => ?_)
    have hB := hB M4 eM4
    refine lv_aload_n hx hb dX10_opens_32 rfl (lv_at hl 0 rfl) ?_
    refine lv_iload_n hx hb dX10_opens_33 rfl (lv_at hl 1 rfl) ?_
    refine v_X10_push C hl.1 Z hg tw_3_135 ⟨Nat.le_of_ble_eq_true rfl, Nat.le_of_ble_eq_true rfl⟩ ⟨Nat.le_refl _, Nat.le_refl _⟩ (Nat.le_of_ble_eq_true rfl) dX10_opens_34 hB (fun v5 M6 H locs hB Z => ?_)
    exact e_zW C hr hlk Z dX10_opens_37 hB.1 hB.2
  · have hB := hB.2 q2
    refine lv_iconst (v := 0) hx hb dX10_opens_20 (by decide) ?_
    exact e_zW C hr hlk Z dX10_opens_21 (Or.inl rfl) hB
set_option maxRecDepth 100000 in
set_option maxHeartbeats 4000000 in
theorem c_X10_opens {l : Launch} {T : Nat → ClassId} {D : va_G} {ad : Nat → Nat} {K : Nat} {M : Mem} {g : Nat} {x1 : Int32} {sz : Nat} {Q1 : Int32 → Mem → Prop} (hg : isT K g) (hB : P_X10_opens K M g x1 Q1) : Met l yX10_opens (Cond.code yX10_opens cX10_opens 2 (some .boolean) :: TB) (RM 2) (va_Pc [.ref (ad g), .int x1] (WrP EC T D ad (69 + K) M sz)) (QcW EC T D ad (69 + K) (AA ad (69 + K) sz) Q1) 0 0 (AA ad (69 + K) sz) := by
  refine st_W (by decide) (Nat.le_of_ble_eq_true rfl) (fun p e s m args below meth c ls C hr hlk hsz Z hl => ?_)
  have hl : lv_has ls 2 [(0, .ref (ad g)), (1, .int x1)] := hl
  generalize AA ad (69 + K) sz = A at Z ⊢
  have hx := C.x
  have hb := C.b
  delta P_X10_opens at hB
  refine lv_iload_n hx hb dX10_opens_0 rfl (lv_at hl 1 rfl) ?_
  refine lv_bipush (v := 33) hx hb dX10_opens_1 (by decide) ?_
  refine lv_icmp_eq (tgt := 12) hx hb dX10_opens_3 (by decide) (fun q1 => ?_) (fun q1 => ?_)
  · have hB := hB.1 q1
    exact w_X10_opens_12 C hr hlk Z hg (lv_sub hl [0, 1] rfl) hB
  · have hB := hB.2 q1
    refine lv_iload_n hx hb dX10_opens_6 rfl (lv_at hl 1 rfl) ?_
    refine lv_bipush (v := 40) hx hb dX10_opens_7 (by decide) ?_
    refine lv_icmp_ne (tgt := 20) hx hb dX10_opens_9 (by decide) (fun q7 => ?_) (fun q7 => ?_)
    · have hB := hB.1 q7
      refine lv_iconst (v := 0) hx hb dX10_opens_20 (by decide) ?_
      exact e_zW C hr hlk Z dX10_opens_21 (Or.inl rfl) hB
    · have hB := hB.2 q7
      exact w_X10_opens_12 C hr hlk Z hg (lv_sub hl [0, 1] rfl) hB
set_option maxRecDepth 100000 in
set_option maxHeartbeats 4000000 in
theorem v_X10_opens {K : Nat} {M : Mem} {g : Nat} {x1 : Int32} {Q1 : Int32 → Mem → Prop} (C : Cx T D p s m args c cc nL own) (hls : ls.size = nL) (Z : Zz EC T D ad (69 + K) A H0 M H locs) (hg : isT K g) (hlink : Cond.methodLink own index yX10_opens ∈ TB) (hR : 2 + 1 ≤ R.frames ∧ 8 + (2 + 11) + 48 * 2 ≤ R.locals) (hcs : cells ≤ R.cells ∧ slots ≤ R.slots) (hcat : (rest.map fun v => v.category).sum ≤ 8) (hdg : decode cc pc = .ok (.invokevirtual index, 3)) (hB : P_X10_opens K M g x1 Q1)
    (kk : ∀ (r : Int32) (M1 : Mem) (H1 : Heap) (locs1 : List Loc), Q1 r M1 → Zz EC T D ad (69 + K) A H0 M1 H1 locs1 → W p l e R s m args below meth c H1 locs1 cells slots QQ (F0 m (pc + 3) ls (.int r :: rest))) : W p l e R s m args below meth c H locs cells slots QQ (F0 m pc ls (.int x1 :: .ref (ad g) :: rest)) :=
  k_VW (ci := 10) (n := 1) (c_X10_opens hg hB) tw_4_1 tw_4_0 tw_s_10 tw_1_15 ⟨rfl, by decide, by decide, by decide +kernel⟩ rfl rfl C hls Z (oT hg) hlink hR hcs hcat rfl hdg kk
def P_X10_levelOf (x0 : Int32) (Q1 : Int32 → Prop) : Prop :=
  ((x0 = 37 → Q1 5) ∧
    (x0 = 38 → Q1 2) ∧
    (x0 = 42 → Q1 5) ∧
    (x0 = 43 → Q1 4) ∧
    (x0 = 45 → Q1 4) ∧
    (x0 = 47 → Q1 5) ∧
    (x0 = 60 → Q1 3) ∧
    (x0 = 61 → Q1 3) ∧
    (x0 = 62 → Q1 3) ∧
    (x0 = 124 → Q1 1) ∧
    (¬ x0 = 37 → ¬ x0 = 38 → ¬ x0 = 42 → ¬ x0 = 43 → ¬ x0 = 45 → ¬ x0 = 47 → ¬ x0 = 60 → ¬ x0 = 61 → ¬ x0 = 62 → ¬ x0 = 124 → Q1 0))
set_option maxRecDepth 100000 in
set_option maxHeartbeats 4000000 in
theorem c_X10_levelOf {l : Launch} {x0 : Int32} {Q1 : Int32 → Prop} (hB : P_X10_levelOf x0 Q1) : Met l yX10_levelOf (Cond.code yX10_levelOf cX10_levelOf 1 (some .int) :: TB) (RM 1) (va_Pc [.int x0] StP) (QcR Q1) 0 0 (fun _ => False) := by
  refine st_S (by decide) (Nat.le_of_ble_eq_true rfl) (fun p e s m args below meth c ls C hr hlk hl => ?_)
  have hl : lv_has ls 1 [(0, .int x0)] := hl
  have hx := C.1
  have hb := C.2.1
  delta P_X10_levelOf at hB
  refine lv_iload_n hx hb dX10_levelOf_0 rfl (lv_at hl 0 rfl) ?_
  by_cases q1_0 : x0 = 37
  · have hB := hB.1 q1_0
    refine lv_lookup (off := 99) (tgt := 100) hx hb dX10_levelOf_1 (by decide) (by rw [q1_0]; rfl) (by decide) ?_
    refine lv_iconst (v := 5) hx hb dX10_levelOf_100 (by decide) ?_
    exact e_iR C hr hlk dX10_levelOf_101 hB
  by_cases q1_1 : x0 = 38
  · have hB := hB.2.1 q1_1
    refine lv_lookup (off := 93) (tgt := 94) hx hb dX10_levelOf_1 (by decide) (by rw [q1_1]; rfl) (by decide) ?_
    refine lv_iconst (v := 2) hx hb dX10_levelOf_94 (by decide) ?_
    exact e_iR C hr hlk dX10_levelOf_95 hB
  by_cases q1_2 : x0 = 42
  · have hB := hB.2.2.1 q1_2
    refine lv_lookup (off := 99) (tgt := 100) hx hb dX10_levelOf_1 (by decide) (by rw [q1_2]; rfl) (by decide) ?_
    refine lv_iconst (v := 5) hx hb dX10_levelOf_100 (by decide) ?_
    exact e_iR C hr hlk dX10_levelOf_101 hB
  by_cases q1_3 : x0 = 43
  · have hB := hB.2.2.2.1 q1_3
    refine lv_lookup (off := 97) (tgt := 98) hx hb dX10_levelOf_1 (by decide) (by rw [q1_3]; rfl) (by decide) ?_
    refine lv_iconst (v := 4) hx hb dX10_levelOf_98 (by decide) ?_
    exact e_iR C hr hlk dX10_levelOf_99 hB
  by_cases q1_4 : x0 = 45
  · have hB := hB.2.2.2.2.1 q1_4
    refine lv_lookup (off := 97) (tgt := 98) hx hb dX10_levelOf_1 (by decide) (by rw [q1_4]; rfl) (by decide) ?_
    refine lv_iconst (v := 4) hx hb dX10_levelOf_98 (by decide) ?_
    exact e_iR C hr hlk dX10_levelOf_99 hB
  by_cases q1_5 : x0 = 47
  · have hB := hB.2.2.2.2.2.1 q1_5
    refine lv_lookup (off := 99) (tgt := 100) hx hb dX10_levelOf_1 (by decide) (by rw [q1_5]; rfl) (by decide) ?_
    refine lv_iconst (v := 5) hx hb dX10_levelOf_100 (by decide) ?_
    exact e_iR C hr hlk dX10_levelOf_101 hB
  by_cases q1_6 : x0 = 60
  · have hB := hB.2.2.2.2.2.2.1 q1_6
    refine lv_lookup (off := 95) (tgt := 96) hx hb dX10_levelOf_1 (by decide) (by rw [q1_6]; rfl) (by decide) ?_
    refine lv_iconst (v := 3) hx hb dX10_levelOf_96 (by decide) ?_
    exact e_iR C hr hlk dX10_levelOf_97 hB
  by_cases q1_7 : x0 = 61
  · have hB := hB.2.2.2.2.2.2.2.1 q1_7
    refine lv_lookup (off := 95) (tgt := 96) hx hb dX10_levelOf_1 (by decide) (by rw [q1_7]; rfl) (by decide) ?_
    refine lv_iconst (v := 3) hx hb dX10_levelOf_96 (by decide) ?_
    exact e_iR C hr hlk dX10_levelOf_97 hB
  by_cases q1_8 : x0 = 62
  · have hB := hB.2.2.2.2.2.2.2.2.1 q1_8
    refine lv_lookup (off := 95) (tgt := 96) hx hb dX10_levelOf_1 (by decide) (by rw [q1_8]; rfl) (by decide) ?_
    refine lv_iconst (v := 3) hx hb dX10_levelOf_96 (by decide) ?_
    exact e_iR C hr hlk dX10_levelOf_97 hB
  by_cases q1_9 : x0 = 124
  · have hB := hB.2.2.2.2.2.2.2.2.2.1 q1_9
    refine lv_lookup (off := 91) (tgt := 92) hx hb dX10_levelOf_1 (by decide) (by rw [q1_9]; rfl) (by decide) ?_
    refine lv_iconst (v := 1) hx hb dX10_levelOf_92 (by decide) ?_
    exact e_iR C hr hlk dX10_levelOf_93 hB
  have hB := hB.2.2.2.2.2.2.2.2.2.2 q1_0 q1_1 q1_2 q1_3 q1_4 q1_5 q1_6 q1_7 q1_8 q1_9
  refine lv_lookup (off := 101) (tgt := 102) hx hb dX10_levelOf_1 (by decide) ((lv_osw (k := 37) q1_0 rfl).trans ((lv_osw (k := 38) q1_1 rfl).trans ((lv_osw (k := 42) q1_2 rfl).trans ((lv_osw (k := 43) q1_3 rfl).trans ((lv_osw (k := 45) q1_4 rfl).trans ((lv_osw (k := 47) q1_5 rfl).trans ((lv_osw (k := 60) q1_6 rfl).trans ((lv_osw (k := 61) q1_7 rfl).trans ((lv_osw (k := 62) q1_8 rfl).trans ((lv_osw (k := 124) q1_9 rfl).trans rfl)))))))))) (by decide) ?_
  refine lv_iconst (v := 0) hx hb dX10_levelOf_102 (by decide) ?_
  exact e_iR C hr hlk dX10_levelOf_103 hB
set_option maxRecDepth 100000 in
set_option maxHeartbeats 4000000 in
theorem v_X10_levelOf {x0 : Int32} {Q1 : Int32 → Prop} (C : CallFix p m c cc nL s args TB own) (hls : ls.size = nL) (hlink : Cond.methodLink own index yX10_levelOf ∈ TB) (hR : 1 + 1 ≤ R.frames ∧ 8 + (1 + 11) + 48 * 1 ≤ R.locals) (hcs : cells ≤ R.cells ∧ slots ≤ R.slots) (hcat : (rest.map fun v => v.category).sum ≤ 8) (hdg : decode cc pc = .ok (.invokestatic index, 3)) (hB : P_X10_levelOf x0 Q1)
    (kk : ∀ r : Int32, Q1 r → W p l e R s m args below meth c H locs cells slots QQ (F0 m (pc + 3) ls (.int r :: rest))) : W p l e R s m args below meth c H locs cells slots QQ (F0 m pc ls (.int x0 :: rest)) :=
  k_S (n := 1) (c_X10_levelOf hB) tw_3_122 tw_3_121 tw_1_15 ⟨by decide, by decide, by decide +kernel⟩ rfl C hls  hlink hR hcs hcat rfl hdg kk
def B_X10_settleDownTo_0 (K : Nat) (g : Nat) (Q1 : Mem → Prop) (x1 : Int32) (M : Mem) : Prop :=
  ∀ X0 : Mem → Prop, (∀ (M : Mem), ((((M g 5) ≤ 0 → Q1 M) ∧
    (¬ (M g 5) ≤ 0 → vp_in ((M g 5) - 1) 50 ∧ P_X10_levelOf (M (g + 2) ((M g 5) - 1).toNatClampNeg) (fun v3 => ((v3 < x1 → Q1 M) ∧
      (¬ v3 < x1 → ∀ v5 : Int32, v5 = (M g 5) - 1 → ∀ M6 : Mem, M6 = sf M g 5 v5 → vp_in (M6 g 5) 50 ∧ P_X10_addCode K M6 g (-(M6 (g + 2) (M6 g 5).toNatClampNeg)) (fun M8 => X0 M8))))))) → X0 M) → X0 M
def P_X10_settleDownTo (K : Nat) (M : Mem) (g : Nat) (x1 : Int32) (Q1 : Mem → Prop) : Prop :=
  B_X10_settleDownTo_0 K g Q1 x1 M
set_option maxRecDepth 100000 in
set_option maxHeartbeats 4000000 in
theorem w_X10_settleDownTo_0 {K : Nat} {g : Nat} {M : Mem} {Q1 : Mem → Prop} {x1 : Int32} (C : Cx T D p s m args c cX10_settleDownTo 2 "OneOfTwo$Text") (hr : meth.sig.returnType = none) (hlk : meth.locks = false) (Z : Zz EC T D ad (69 + K) A s.heap M H locs) (hg : isT K g) {ls : Array Slot} (hl : lv_has ls 2 [(0, .ref (ad g)), (1, .int x1)]) (hB : B_X10_settleDownTo_0 K g Q1 x1 M) : W p l e (RM 2) s m args below meth c H locs 0 0 (MQ below (QcV EC T D ad (69 + K) A Q1) args s 0 0 A) (F0 m 0 ls []) := by
  delta B_X10_settleDownTo_0 at hB
  obtain ⟨X0, hX0, hY0⟩ : ∃ X0 : Mem → Prop, (∀ (M : Mem), X0 M → ∀ (H : Heap) (locs : List Loc) (ls : Array Slot), Zz EC T D ad (69 + K) A s.heap M H locs → lv_has ls 2 [(0, .ref (ad g)), (1, .int x1)] → W p l e (RM 2) s m args below meth c H locs 0 0 (MQ below (QcV EC T D ad (69 + K) A Q1) args s 0 0 A) (F0 m 0 ls [])) ∧ (∀ (M : Mem), (∀ (H : Heap) (locs : List Loc) (ls : Array Slot), Zz EC T D ad (69 + K) A s.heap M H locs → lv_has ls 2 [(0, .ref (ad g)), (1, .int x1)] → W p l e (RM 2) s m args below meth c H locs 0 0 (MQ below (QcV EC T D ad (69 + K) A Q1) args s 0 0 A) (F0 m 0 ls [])) → X0 M) := ⟨fun (M : Mem) => ∀ (H : Heap) (locs : List Loc) (ls : Array Slot), Zz EC T D ad (69 + K) A s.heap M H locs → lv_has ls 2 [(0, .ref (ad g)), (1, .int x1)] → W p l e (RM 2) s m args below meth c H locs 0 0 (MQ below (QcV EC T D ad (69 + K) A Q1) args s 0 0 A) (F0 m 0 ls []), fun _ h => h, fun _ h => h⟩
  refine hX0 _ (hB X0 (fun M hB => hY0 _ (fun H locs ls Z hl => ?_))) _ _ _ Z hl
  have hx := C.x
  have hb := C.b
  refine lv_aload_n hx hb dX10_settleDownTo_0 rfl (lv_at hl 0 rfl) ?_
  refine gf_X10_5 C Z.1 hg tw_3_89 dX10_settleDownTo_1 ?_
  refine lv_if_le (tgt := 52) hx hb dX10_settleDownTo_4 (by decide) (fun q1 => ?_) (fun q1 => ?_)
  · have hB := hB.1 q1
    exact e_vW C hr hlk Z dX10_settleDownTo_52 hB
  · have hB := hB.2 q1
    refine lv_aload_n hx hb dX10_settleDownTo_7 rfl (lv_at hl 0 rfl) ?_
    refine gf_X10_4 C Z.1 hg tw_3_88 dX10_settleDownTo_8 ?_
    refine lv_aload_n hx hb dX10_settleDownTo_11 rfl (lv_at hl 0 rfl) ?_
    refine gf_X10_5 C Z.1 hg tw_3_89 dX10_settleDownTo_12 ?_
    refine lv_iconst (v := 1) hx hb dX10_settleDownTo_15 (by decide) ?_
    refine lv_isub hx hb dX10_settleDownTo_16 ?_
    obtain ⟨q2, hB⟩ := hB
    refine a_ld C Z.1 (aT_2 hg) q2 dX10_settleDownTo_17 ?_
    refine v_X10_levelOf C.1 hl.1 tw_3_120 ⟨Nat.le_of_ble_eq_true rfl, Nat.le_of_ble_eq_true rfl⟩ ⟨Nat.le_refl _, Nat.le_refl _⟩ (Nat.le_of_ble_eq_true rfl) dX10_settleDownTo_18 hB (fun v3 hB => ?_)
    refine lv_iload_n hx hb dX10_settleDownTo_21 rfl (lv_at hl 1 rfl) ?_
    refine lv_icmp_lt (tgt := 52) hx hb dX10_settleDownTo_22 (by decide) (fun q4 => ?_) (fun q4 => ?_)
    · have hB := hB.1 q4
      exact e_vW C hr hlk Z dX10_settleDownTo_52 hB
    · have hB := hB.2 q4
      refine lv_aload_n hx hb dX10_settleDownTo_25 rfl (lv_at hl 0 rfl) ?_
      refine lv_dup hx hb dX10_settleDownTo_26 rfl ?_
      refine gf_X10_5 C Z.1 hg tw_3_89 dX10_settleDownTo_27 ?_
      refine lv_iconst (v := 1) hx hb dX10_settleDownTo_30 (by decide) ?_
      refine lv_isub hx hb dX10_settleDownTo_31 ?_
      refine lv_topi (fun v5 ev5 => ?_)
      have hB := hB v5 ev5
      refine pf_X10_5 C Z hg tw_3_89 dX10_settleDownTo_32 (fun M6 H locs eM6 Z => ?_)
      have hB := hB M6 eM6
      refine lv_aload_n hx hb dX10_settleDownTo_35 rfl (lv_at hl 0 rfl) ?_
      refine lv_aload_n hx hb dX10_settleDownTo_36 rfl (lv_at hl 0 rfl) ?_
      refine gf_X10_4 C Z.1 hg tw_3_88 dX10_settleDownTo_37 ?_
      refine lv_aload_n hx hb dX10_settleDownTo_40 rfl (lv_at hl 0 rfl) ?_
      refine gf_X10_5 C Z.1 hg tw_3_89 dX10_settleDownTo_41 ?_
      obtain ⟨q7, hB⟩ := hB
      refine a_ld C Z.1 (aT_2 hg) q7 dX10_settleDownTo_44 ?_
      refine lv_ineg hx hb dX10_settleDownTo_45 ?_
      refine v_X10_addCode C hl.1 Z hg tw_3_123 ⟨Nat.le_of_ble_eq_true rfl, Nat.le_of_ble_eq_true rfl⟩ ⟨Nat.le_refl _, Nat.le_refl _⟩ (Nat.le_of_ble_eq_true rfl) dX10_settleDownTo_46 hB (fun M8 H locs hB Z => ?_)
      refine lv_goto (tgt := 0) hx hb dX10_settleDownTo_49 (by decide) ?_
      exact hX0 _ hB _ _ _ Z (lv_sub hl [0, 1] rfl)
set_option maxRecDepth 100000 in
set_option maxHeartbeats 4000000 in
theorem c_X10_settleDownTo {l : Launch} {T : Nat → ClassId} {D : va_G} {ad : Nat → Nat} {K : Nat} {M : Mem} {g : Nat} {x1 : Int32} {sz : Nat} {Q1 : Mem → Prop} (hg : isT K g) (hB : P_X10_settleDownTo K M g x1 Q1) : Met l yX10_settleDownTo (Cond.code yX10_settleDownTo cX10_settleDownTo 2 none :: TB) (RM 2) (va_Pc [.ref (ad g), .int x1] (WrP EC T D ad (69 + K) M sz)) (QcV EC T D ad (69 + K) (AA ad (69 + K) sz) Q1) 0 0 (AA ad (69 + K) sz) := by
  refine st_W (by decide) (Nat.le_of_ble_eq_true rfl) (fun p e s m args below meth c ls C hr hlk hsz Z hl => ?_)
  have hl : lv_has ls 2 [(0, .ref (ad g)), (1, .int x1)] := hl
  generalize AA ad (69 + K) sz = A at Z ⊢
  have hx := C.x
  have hb := C.b
  delta P_X10_settleDownTo at hB
  exact w_X10_settleDownTo_0 C hr hlk Z hg (lv_sub hl [0, 1] rfl) hB
set_option maxRecDepth 100000 in
set_option maxHeartbeats 4000000 in
theorem v_X10_settleDownTo {K : Nat} {M : Mem} {g : Nat} {x1 : Int32} {Q1 : Mem → Prop} (C : Cx T D p s m args c cc nL own) (hls : ls.size = nL) (Z : Zz EC T D ad (69 + K) A H0 M H locs) (hg : isT K g) (hlink : Cond.methodLink own index yX10_settleDownTo ∈ TB) (hR : 2 + 1 ≤ R.frames ∧ 8 + (2 + 11) + 48 * 2 ≤ R.locals) (hcs : cells ≤ R.cells ∧ slots ≤ R.slots) (hcat : (rest.map fun v => v.category).sum ≤ 8) (hdg : decode cc pc = .ok (.invokevirtual index, 3)) (hB : P_X10_settleDownTo K M g x1 Q1)
    (kk : ∀ (M1 : Mem) (H1 : Heap) (locs1 : List Loc), Q1 M1 → Zz EC T D ad (69 + K) A H0 M1 H1 locs1 → W p l e R s m args below meth c H1 locs1 cells slots QQ (F0 m (pc + 3) ls rest)) : W p l e R s m args below meth c H locs cells slots QQ (F0 m pc ls (.int x1 :: .ref (ad g) :: rest)) :=
  k_VV (ci := 10) (n := 1) (c_X10_settleDownTo hg hB) tw_3_119 tw_3_118 tw_s_4 tw_1_15 ⟨rfl, by decide, by decide, by decide +kernel⟩ rfl rfl C hls Z (oT hg) hlink hR hcs hcat rfl hdg kk
def P_X10_closes (K : Nat) (M : Mem) (g : Nat) (Q1 : Int32 → Mem → Prop) : Prop :=
  P_X10_settleDownTo K M g 1 (fun M1 => ((0 < (M1 g 5) → ∀ v3 : Int32, v3 = (M1 g 5) - 1 → ∀ M4 : Mem, M4 = sf M1 g 5 v3 → ∀ v5 : Int32, v5 = (M4 g 6) - 1 → ∀ M6 : Mem, M6 = sf M4 g 6 v5 → P_X10_closeNots K M6 g (fun M7 => Q1 1 M7)) ∧
    (¬ 0 < (M1 g 5) → Q1 0 M1)))
set_option maxRecDepth 100000 in
set_option maxHeartbeats 4000000 in
theorem c_X10_closes {l : Launch} {T : Nat → ClassId} {D : va_G} {ad : Nat → Nat} {K : Nat} {M : Mem} {g : Nat} {sz : Nat} {Q1 : Int32 → Mem → Prop} (hg : isT K g) (hB : P_X10_closes K M g Q1) : Met l yX10_closes (Cond.code yX10_closes cX10_closes 1 (some .boolean) :: TB) (RM 3) (va_Pc [.ref (ad g)] (WrP EC T D ad (69 + K) M sz)) (QcW EC T D ad (69 + K) (AA ad (69 + K) sz) Q1) 0 0 (AA ad (69 + K) sz) := by
  refine st_W (by decide) (Nat.le_of_ble_eq_true rfl) (fun p e s m args below meth c ls C hr hlk hsz Z hl => ?_)
  have hl : lv_has ls 1 [(0, .ref (ad g))] := hl
  generalize AA ad (69 + K) sz = A at Z ⊢
  have hx := C.x
  have hb := C.b
  delta P_X10_closes at hB
  refine lv_aload_n hx hb dX10_closes_0 rfl (lv_at hl 0 rfl) ?_
  refine lv_iconst (v := 1) hx hb dX10_closes_1 (by decide) ?_
  refine v_X10_settleDownTo C hl.1 Z hg tw_3_116 ⟨Nat.le_of_ble_eq_true rfl, Nat.le_of_ble_eq_true rfl⟩ ⟨Nat.le_refl _, Nat.le_refl _⟩ (Nat.le_of_ble_eq_true rfl) dX10_closes_2 hB (fun M1 H locs hB Z => ?_)
  refine lv_aload_n hx hb dX10_closes_5 rfl (lv_at hl 0 rfl) ?_
  refine gf_X10_5 C Z.1 hg tw_3_89 dX10_closes_6 ?_
  refine lv_if_gt (tgt := 14) hx hb dX10_closes_9 (by decide) (fun q2 => ?_) (fun q2 => ?_)
  · have hB := hB.1 q2
    refine lv_aload_n hx hb dX10_closes_14 rfl (lv_at hl 0 rfl) ?_
    refine lv_dup hx hb dX10_closes_15 rfl ?_
    refine gf_X10_5 C Z.1 hg tw_3_89 dX10_closes_16 ?_
    refine lv_iconst (v := 1) hx hb dX10_closes_19 (by decide) ?_
    refine lv_isub hx hb dX10_closes_20 ?_
    refine lv_topi (fun v3 ev3 => ?_)
    have hB := hB v3 ev3
    refine pf_X10_5 C Z hg tw_3_89 dX10_closes_21 (fun M4 H locs eM4 Z => ?_)
    have hB := hB M4 eM4
    refine lv_aload_n hx hb dX10_closes_24 rfl (lv_at hl 0 rfl) ?_
    refine lv_dup hx hb dX10_closes_25 rfl ?_
    refine gf_X10_6 C Z.1 hg tw_3_90 dX10_closes_26 ?_
    refine lv_iconst (v := 1) hx hb dX10_closes_29 (by decide) ?_
    refine lv_isub hx hb dX10_closes_30 ?_
    refine lv_topi (fun v5 ev5 => ?_)
    have hB := hB v5 ev5
    refine pf_X10_6 C Z hg tw_3_90 dX10_closes_31 (fun M6 H locs eM6 Z => ?_)
    have hB := hB M6 eM6
    refine lv_aload_n hx hb dX10_closes_34 rfl (lv_at hl 0 rfl) ?_
    refine v_X10_closeNots C hl.1 Z hg tw_3_127 ⟨Nat.le_of_ble_eq_true rfl, Nat.le_of_ble_eq_true rfl⟩ ⟨Nat.le_refl _, Nat.le_refl _⟩ (Nat.le_of_ble_eq_true rfl) dX10_closes_35 hB (fun M7 H locs hB Z => ?_)
    refine lv_iconst (v := 1) hx hb dX10_closes_38 (by decide) ?_
    exact e_zW C hr hlk Z dX10_closes_39 (Or.inr rfl) hB
  · have hB := hB.2 q2
    refine lv_iconst (v := 0) hx hb dX10_closes_12 (by decide) ?_
    exact e_zW C hr hlk Z dX10_closes_13 (Or.inl rfl) hB
set_option maxRecDepth 100000 in
set_option maxHeartbeats 4000000 in
theorem v_X10_closes {K : Nat} {M : Mem} {g : Nat} {Q1 : Int32 → Mem → Prop} (C : Cx T D p s m args c cc nL own) (hls : ls.size = nL) (Z : Zz EC T D ad (69 + K) A H0 M H locs) (hg : isT K g) (hlink : Cond.methodLink own index yX10_closes ∈ TB) (hR : 3 + 1 ≤ R.frames ∧ 8 + (1 + 11) + 48 * 3 ≤ R.locals) (hcs : cells ≤ R.cells ∧ slots ≤ R.slots) (hcat : (rest.map fun v => v.category).sum ≤ 8) (hdg : decode cc pc = .ok (.invokevirtual index, 3)) (hB : P_X10_closes K M g Q1)
    (kk : ∀ (r : Int32) (M1 : Mem) (H1 : Heap) (locs1 : List Loc), Q1 r M1 → Zz EC T D ad (69 + K) A H0 M1 H1 locs1 → W p l e R s m args below meth c H1 locs1 cells slots QQ (F0 m (pc + 3) ls (.int r :: rest))) : W p l e R s m args below meth c H locs cells slots QQ (F0 m pc ls (.ref (ad g) :: rest)) :=
  k_VW (ci := 10) (n := 0) (c_X10_closes hg hB) tw_3_115 tw_3_114 tw_s_3 tw_1_15 ⟨rfl, by decide, by decide, by decide +kernel⟩ rfl rfl C hls Z (oT hg) hlink hR hcs hcat rfl hdg kk
def B_X10_joins_22 (K : Nat) (g : Nat) (Q1 : Int32 → Mem → Prop) (x1 : Int32) (x2 : Int32) (s1 : Int32) (M : Mem) : Prop :=
  P_X10_settleDownTo K M g s1 (fun M4 => ((¬ x2 = 3 → P_X10_push K M4 g x1 (fun v6 M7 => (v6 = 0 ∨ v6 = 1) ∧ Q1 v6 M7)) ∧
    (x2 = 3 → (((M4 g 5) ≤ 0 → P_X10_push K M4 g x1 (fun v9 M10 => (v9 = 0 ∨ v9 = 1) ∧ Q1 v9 M10)) ∧
      (¬ (M4 g 5) ≤ 0 → vp_in ((M4 g 5) - 1) 50 ∧ P_X10_levelOf (M4 (g + 2) ((M4 g 5) - 1).toNatClampNeg) (fun v12 => ((¬ v12 = 3 → P_X10_push K M4 g x1 (fun v14 M15 => (v14 = 0 ∨ v14 = 1) ∧ Q1 v14 M15)) ∧
        (v12 = 3 → Q1 0 M4))))))))
def P_X10_joins (K : Nat) (M : Mem) (g : Nat) (x1 : Int32) (Q1 : Int32 → Mem → Prop) : Prop :=
  P_X10_levelOf x1 (fun v1 => ((¬ v1 = 0 → ((¬ v1 = 3 → B_X10_joins_22 K g Q1 x1 v1 v1 M) ∧
      (v1 = 3 → B_X10_joins_22 K g Q1 x1 v1 4 M))) ∧
    (v1 = 0 → Q1 0 M)))
set_option maxRecDepth 100000 in
set_option maxHeartbeats 4000000 in
theorem w_X10_joins_22 {K : Nat} {g : Nat} {M : Mem} {Q1 : Int32 → Mem → Prop} {x1 : Int32} {x2 : Int32} {s1 : Int32} (C : Cx T D p s m args c cX10_joins 3 "OneOfTwo$Text") (hr : meth.sig.returnType = (some .boolean)) (hlk : meth.locks = false) (Z : Zz EC T D ad (69 + K) A s.heap M H locs) (hg : isT K g) {ls : Array Slot} (hl : lv_has ls 3 [(0, .ref (ad g)), (1, .int x1), (2, .int x2)]) (hB : B_X10_joins_22 K g Q1 x1 x2 s1 M) : W p l e (RM 3) s m args below meth c H locs 0 0 (MQ below (QcW EC T D ad (69 + K) A Q1) args s 0 0 A) (F0 m 22 ls [.int s1, .ref (ad g)]) := by
  have hx := C.x
  have hb := C.b
  delta B_X10_joins_22 at hB
  refine v_X10_settleDownTo C hl.1 Z hg tw_3_116 ⟨Nat.le_of_ble_eq_true rfl, Nat.le_of_ble_eq_true rfl⟩ ⟨Nat.le_refl _, Nat.le_refl _⟩ (Nat.le_of_ble_eq_true rfl) dX10_joins_22 hB (fun M4 H locs hB Z => ?_)
  refine lv_iload_n hx hb dX10_joins_25 rfl (lv_at hl 2 rfl) ?_
  refine lv_iconst (v := 3) hx hb dX10_joins_26 (by decide) ?_
  refine lv_icmp_ne (tgt := 57) hx hb dX10_joins_27 (by decide) (fun q5 => ?_) (fun q5 => ?_)
  · have hB := hB.1 q5
    refine lv_aload_n hx hb dX10_joins_57 rfl (lv_at hl 0 rfl) ?_
    refine lv_iload_n hx hb dX10_joins_58 rfl (lv_at hl 1 rfl) ?_
    refine v_X10_push C hl.1 Z hg tw_3_135 ⟨Nat.le_of_ble_eq_true rfl, Nat.le_of_ble_eq_true rfl⟩ ⟨Nat.le_refl _, Nat.le_refl _⟩ (Nat.le_of_ble_eq_true rfl) dX10_joins_59 hB (fun v6 M7 H locs hB Z => ?_)
    exact e_zW C hr hlk Z dX10_joins_62 hB.1 hB.2
  · have hB := hB.2 q5
    refine lv_aload_n hx hb dX10_joins_30 rfl (lv_at hl 0 rfl) ?_
    refine gf_X10_5 C Z.1 hg tw_3_89 dX10_joins_31 ?_
    refine lv_if_le (tgt := 57) hx hb dX10_joins_34 (by decide) (fun q8 => ?_) (fun q8 => ?_)
    · have hB := hB.1 q8
      refine lv_aload_n hx hb dX10_joins_57 rfl (lv_at hl 0 rfl) ?_
      refine lv_iload_n hx hb dX10_joins_58 rfl (lv_at hl 1 rfl) ?_
      refine v_X10_push C hl.1 Z hg tw_3_135 ⟨Nat.le_of_ble_eq_true rfl, Nat.le_of_ble_eq_true rfl⟩ ⟨Nat.le_refl _, Nat.le_refl _⟩ (Nat.le_of_ble_eq_true rfl) dX10_joins_59 hB (fun v9 M10 H locs hB Z => ?_)
      exact e_zW C hr hlk Z dX10_joins_62 hB.1 hB.2
    · have hB := hB.2 q8
      refine lv_aload_n hx hb dX10_joins_37 rfl (lv_at hl 0 rfl) ?_
      refine gf_X10_4 C Z.1 hg tw_3_88 dX10_joins_38 ?_
      refine lv_aload_n hx hb dX10_joins_41 rfl (lv_at hl 0 rfl) ?_
      refine gf_X10_5 C Z.1 hg tw_3_89 dX10_joins_42 ?_
      refine lv_iconst (v := 1) hx hb dX10_joins_45 (by decide) ?_
      refine lv_isub hx hb dX10_joins_46 ?_
      obtain ⟨q11, hB⟩ := hB
      refine a_ld C Z.1 (aT_2 hg) q11 dX10_joins_47 ?_
      refine v_X10_levelOf C.1 hl.1 tw_3_120 ⟨Nat.le_of_ble_eq_true rfl, Nat.le_of_ble_eq_true rfl⟩ ⟨Nat.le_refl _, Nat.le_refl _⟩ (Nat.le_of_ble_eq_true rfl) dX10_joins_48 hB (fun v12 hB => ?_)
      refine lv_iconst (v := 3) hx hb dX10_joins_51 (by decide) ?_
      refine lv_icmp_ne (tgt := 57) hx hb dX10_joins_52 (by decide) (fun q13 => ?_) (fun q13 => ?_)
      · have hB := hB.1 q13
        refine lv_aload_n hx hb dX10_joins_57 rfl (lv_at hl 0 rfl) ?_
        refine lv_iload_n hx hb dX10_joins_58 rfl (lv_at hl 1 rfl) ?_
        refine v_X10_push C hl.1 Z hg tw_3_135 ⟨Nat.le_of_ble_eq_true rfl, Nat.le_of_ble_eq_true rfl⟩ ⟨Nat.le_refl _, Nat.le_refl _⟩ (Nat.le_of_ble_eq_true rfl) dX10_joins_59 hB (fun v14 M15 H locs hB Z => ?_)
        exact e_zW C hr hlk Z dX10_joins_62 hB.1 hB.2
      · have hB := hB.2 q13
        refine lv_iconst (v := 0) hx hb dX10_joins_55 (by decide) ?_
        exact e_zW C hr hlk Z dX10_joins_56 (Or.inl rfl) hB
set_option maxRecDepth 100000 in
set_option maxHeartbeats 4000000 in
theorem c_X10_joins {l : Launch} {T : Nat → ClassId} {D : va_G} {ad : Nat → Nat} {K : Nat} {M : Mem} {g : Nat} {x1 : Int32} {sz : Nat} {Q1 : Int32 → Mem → Prop} (hg : isT K g) (hB : P_X10_joins K M g x1 Q1) : Met l yX10_joins (Cond.code yX10_joins cX10_joins 3 (some .boolean) :: TB) (RM 3) (va_Pc [.ref (ad g), .int x1] (WrP EC T D ad (69 + K) M sz)) (QcW EC T D ad (69 + K) (AA ad (69 + K) sz) Q1) 0 0 (AA ad (69 + K) sz) := by
  refine st_W (by decide) (Nat.le_of_ble_eq_true rfl) (fun p e s m args below meth c ls C hr hlk hsz Z hl => ?_)
  have hl : lv_has ls 3 [(0, .ref (ad g)), (1, .int x1)] := hl
  generalize AA ad (69 + K) sz = A at Z ⊢
  have hx := C.x
  have hb := C.b
  delta P_X10_joins at hB
  refine lv_iload_n hx hb dX10_joins_0 rfl (lv_at hl 1 rfl) ?_
  refine v_X10_levelOf C.1 hl.1 tw_3_120 ⟨Nat.le_of_ble_eq_true rfl, Nat.le_of_ble_eq_true rfl⟩ ⟨Nat.le_refl _, Nat.le_refl _⟩ (Nat.le_of_ble_eq_true rfl) dX10_joins_1 hB (fun v1 hB => ?_)
  refine lv_istore_n (lv' := [(2, .int v1), (0, .ref (ad g)), (1, .int x1)]) hx hb dX10_joins_4 rfl hl (by decide) rfl (fun ls hl => ?_)
  refine lv_iload_n hx hb dX10_joins_5 rfl (lv_at hl 0 rfl) ?_
  refine lv_if_ne (tgt := 11) hx hb dX10_joins_6 (by decide) (fun q2 => ?_) (fun q2 => ?_)
  · have hB := hB.1 q2
    refine lv_aload_n hx hb dX10_joins_11 rfl (lv_at hl 1 rfl) ?_
    refine lv_iload_n hx hb dX10_joins_12 rfl (lv_at hl 0 rfl) ?_
    refine lv_iconst (v := 3) hx hb dX10_joins_13 (by decide) ?_
    refine lv_icmp_ne (tgt := 21) hx hb dX10_joins_14 (by decide) (fun q3 => ?_) (fun q3 => ?_)
    · have hB := hB.1 q3
      refine lv_iload_n hx hb dX10_joins_21 rfl (lv_at hl 0 rfl) ?_
      exact w_X10_joins_22 C hr hlk Z hg (lv_sub hl [1, 2, 0] rfl) hB
    · have hB := hB.2 q3
      refine lv_iconst (v := 4) hx hb dX10_joins_17 (by decide) ?_
      refine lv_goto (tgt := 22) hx hb dX10_joins_18 (by decide) ?_
      exact w_X10_joins_22 C hr hlk Z hg (lv_sub hl [1, 2, 0] rfl) hB
  · have hB := hB.2 q2
    refine lv_iconst (v := 0) hx hb dX10_joins_9 (by decide) ?_
    exact e_zW C hr hlk Z dX10_joins_10 (Or.inl rfl) hB
set_option maxRecDepth 100000 in
set_option maxHeartbeats 4000000 in
theorem v_X10_joins {K : Nat} {M : Mem} {g : Nat} {x1 : Int32} {Q1 : Int32 → Mem → Prop} (C : Cx T D p s m args c cc nL own) (hls : ls.size = nL) (Z : Zz EC T D ad (69 + K) A H0 M H locs) (hg : isT K g) (hlink : Cond.methodLink own index yX10_joins ∈ TB) (hR : 3 + 1 ≤ R.frames ∧ 8 + (3 + 11) + 48 * 3 ≤ R.locals) (hcs : cells ≤ R.cells ∧ slots ≤ R.slots) (hcat : (rest.map fun v => v.category).sum ≤ 8) (hdg : decode cc pc = .ok (.invokevirtual index, 3)) (hB : P_X10_joins K M g x1 Q1)
    (kk : ∀ (r : Int32) (M1 : Mem) (H1 : Heap) (locs1 : List Loc), Q1 r M1 → Zz EC T D ad (69 + K) A H0 M1 H1 locs1 → W p l e R s m args below meth c H1 locs1 cells slots QQ (F0 m (pc + 3) ls (.int r :: rest))) : W p l e R s m args below meth c H locs cells slots QQ (F0 m pc ls (.int x1 :: .ref (ad g) :: rest)) :=
  k_VW (ci := 10) (n := 1) (c_X10_joins hg hB) tw_3_134 tw_3_133 tw_s_7 tw_1_15 ⟨rfl, by decide, by decide, by decide +kernel⟩ rfl rfl C hls Z (oT hg) hlink hR hcs hcat rfl hdg kk
end
