/-! ===== more rows ===== -/
theorem vin {i : Int32} {n : Nat} (h : (decide (i < 0) || decide (n ≤ i.toNatClampNeg)) = false) : vp_in i n := by
  simp only [Bool.or_eq_false_iff, decide_eq_false_iff_not] at h
  exact fun q => q.elim h.1 h.2
theorem sw_out {x : Int32} (lo hi : Int) (n : Nat) (hn : hi = lo + n - 1) (h : ∀ a, a < n → ¬ x = Int32.ofInt (lo + (a : Nat))) : x.toInt < lo ∨ hi < x.toInt := by
  by_cases q : x.toInt < lo
  · exact Or.inl q
  by_cases q2 : hi < x.toInt
  · exact Or.inr q2
  exfalso
  refine h (x.toInt - lo).toNat (by omega) ?_
  have e : lo + ((x.toInt - lo).toNat : Int) = x.toInt := by omega
  rw [e, Int32.ofInt_toInt]
theorem rmk {lv maxL n : Nat} (h : lv + 1 ≤ n) (h2 : 8 + (maxL + 11) + 48 * lv ≤ 48 * n) : lv + 1 ≤ (RM n).frames ∧ 8 + (maxL + 11) + 48 * lv ≤ (RM n).locals := ⟨h, h2⟩
section BASE2
variable {p : Program} {l : Launch} {e : Env} {R : Room} {s : State} {m : MethodId} {args : Array Value} {below : List Frame} {meth : Method} {c : Code} {H : Heap} {locs : List Loc} {cells slots : Nat} {Q : State → Prop}
variable {cc : ByteArray} {nL : Nat} {own : String} {pc index : Nat} {ls : Array Slot} {rest st0 : List Value} {a : Array Value} {E : ET} {T : Nat → ClassId} {D : va_G} {ad : Nat → Nat} {K : Nat} {A : Nat → Prop} {H0 : Heap} {M : Mem}
theorem a_ldc {i : Int32} {k n j : Nat} (C : Cx T D p s m args c cc nL own) (hP : Pw E T D ad K M H) (ha : IA E K k n) (hin : vp_in i n) (hj : i.toNatClampNeg = j) (hdg : decode cc pc = .ok (.iaload, 1))
    (kk : W p l e R s m args below meth c H locs cells slots Q (F0 m (pc + 1) ls (.int (M k j) :: rest))) : W p l e R s m args below meth c H locs cells slots Q (F0 m pc ls (.int i :: .ref (ad k) :: rest)) := by
  subst hj
  exact a_ld C hP ha hin hdg kk
theorem a_stc {i v : Int32} {k n j : Nat} (C : Cx T D p s m args c cc nL own) (Z : Zz E T D ad K A H0 M H locs) (ha : IA E K k n) (hin : vp_in i n) (hj : i.toNatClampNeg = j) (hdg : decode cc pc = .ok (.iastore, 1))
    (kk : ∀ (M1 : Mem) (H1 : Heap) (locs1 : List Loc), M1 = sf M k j v → Zz E T D ad K A H0 M1 H1 locs1 → W p l e R s m args below meth c H1 locs1 cells slots Q (F0 m (pc + 1) ls rest)) : W p l e R s m args below meth c H locs cells slots Q (F0 m pc ls (.int v :: .int i :: .ref (ad k) :: rest)) := by
  subst hj
  exact a_st C Z ha hin hdg kk
end BASE2
theorem in_X12 : ∀ w ∈ u_ws "OneOfTwoModel" TX12 29, w ∈ TB := List.forall_mem_cons.mpr ⟨tw_5_127, List.forall_mem_cons.mpr ⟨tw_5_129, List.forall_mem_cons.mpr ⟨tw_5_131, List.forall_mem_cons.mpr ⟨tw_5_133, List.forall_mem_cons.mpr ⟨tw_5_135, List.forall_mem_cons.mpr ⟨tw_5_137, List.forall_mem_cons.mpr ⟨tw_5_139, List.forall_mem_cons.mpr ⟨tw_5_141, List.forall_mem_cons.mpr ⟨tw_5_143, List.forall_mem_cons.mpr ⟨tw_5_145, List.forall_mem_cons.mpr ⟨tw_5_147, List.forall_mem_cons.mpr ⟨tw_5_149, List.forall_mem_cons.mpr ⟨tw_5_151, List.forall_mem_cons.mpr ⟨tw_5_153, List.forall_mem_cons.mpr ⟨tw_5_155, List.forall_mem_cons.mpr ⟨tw_5_157, List.forall_mem_cons.mpr ⟨tw_5_159, List.forall_mem_cons.mpr ⟨tw_5_161, List.forall_mem_cons.mpr ⟨tw_5_163, List.forall_mem_cons.mpr ⟨tw_5_165, List.forall_mem_cons.mpr ⟨tw_5_167, List.forall_mem_cons.mpr ⟨tw_5_169, List.forall_mem_cons.mpr ⟨tw_5_171, List.forall_mem_cons.mpr ⟨tw_5_173, List.forall_mem_cons.mpr ⟨tw_5_175, List.forall_mem_cons.mpr ⟨tw_5_177, List.forall_mem_cons.mpr ⟨tw_5_179, List.forall_mem_cons.mpr ⟨tw_5_181, List.forall_mem_cons.mpr ⟨tw_5_183, fun _ h => absurd h List.not_mem_nil⟩⟩⟩⟩⟩⟩⟩⟩⟩⟩⟩⟩⟩⟩⟩⟩⟩⟩⟩⟩⟩⟩⟩⟩⟩⟩⟩⟩⟩
def FM : (Nat → Nat) → (Nat → Int32) → List Value := fun ad f => [.ref (ad 1), .ref (ad 2), .ref (ad 3), .int (f 3), .ref (ad 4), .int (f 5), .int (f 6), .int (f 7), .int (f 8), .int (f 9), .int (f 10), .ref (ad 5), .ref (ad 6), .ref (ad 7), .ref (ad 8), .ref (ad 9), .int (f 16), .int (f 17), .int (f 18), .ref (ad 10), .int (f 20), .int (f 21), .ref (ad 11), .int (f 23), .int (f 24), .ref (ad 12), .ref (ad 13), .ref (ad 14), .ref (ad 15)]
def lenM : Nat → Nat := fun k => match k with
  | 1 => 264
  | 2 => 264
  | 3 => 90
  | 4 => 6
  | 5 => 3
  | 6 => 9
  | 7 => 8
  | 8 => 5
  | 9 => 5
  | 10 => 8
  | 11 => 40
  | 12 => 4
  | 13 => 4
  | 14 => 160
  | 15 => 40
  | _ => 0
def EM : ET := fun T ad k f => if k = 0 then .inr (12, FM ad f) else .inl (T 0, lenM k, .inl f)
theorem oM : OA EM 16 0 12 FM := ⟨by decide, fun _ _ _ => rfl⟩
theorem aM_1 : IA EM 16 1 264 := ⟨by decide, fun _ _ _ => rfl⟩
theorem aM_2 : IA EM 16 2 264 := ⟨by decide, fun _ _ _ => rfl⟩
theorem aM_3 : IA EM 16 3 90 := ⟨by decide, fun _ _ _ => rfl⟩
theorem aM_4 : IA EM 16 4 6 := ⟨by decide, fun _ _ _ => rfl⟩
theorem aM_5 : IA EM 16 5 3 := ⟨by decide, fun _ _ _ => rfl⟩
theorem aM_6 : IA EM 16 6 9 := ⟨by decide, fun _ _ _ => rfl⟩
theorem aM_7 : IA EM 16 7 8 := ⟨by decide, fun _ _ _ => rfl⟩
theorem aM_8 : IA EM 16 8 5 := ⟨by decide, fun _ _ _ => rfl⟩
theorem aM_9 : IA EM 16 9 5 := ⟨by decide, fun _ _ _ => rfl⟩
theorem aM_10 : IA EM 16 10 8 := ⟨by decide, fun _ _ _ => rfl⟩
theorem aM_11 : IA EM 16 11 40 := ⟨by decide, fun _ _ _ => rfl⟩
theorem aM_12 : IA EM 16 12 4 := ⟨by decide, fun _ _ _ => rfl⟩
theorem aM_13 : IA EM 16 13 4 := ⟨by decide, fun _ _ _ => rfl⟩
theorem aM_14 : IA EM 16 14 160 := ⟨by decide, fun _ _ _ => rfl⟩
theorem aM_15 : IA EM 16 15 40 := ⟨by decide, fun _ _ _ => rfl⟩
section
variable {p : Program} {l : Launch} {e : Env} {R : Room} {s : State} {m : MethodId} {args : Array Value} {below : List Frame} {meth : Method} {c : Code} {H : Heap} {locs : List Loc} {cells slots : Nat} {QQ : State → Prop}
variable {cc : ByteArray} {nL : Nat} {own : String} {pc index : Nat} {ls : Array Slot} {rest : List Value} {T : Nat → ClassId} {D : va_G} {ad : Nat → Nat} {A : Nat → Prop} {H0 : Heap}
theorem gf_X12_0 {M : Mem} (C : Cx T D p s m args c cc nL own) (hP : Pw EM T D ad 16 M H) (hlink : Cond.fieldLink own index "OneOfTwoModel" "d" "[I" ∈ TB) (hdg : decode cc pc = .ok (.getfield index, 3)) (kk : W p l e R s m args below meth c H locs cells slots QQ (F0 m (pc + 3) ls (.ref (ad 1) :: rest))) : W p l e R s m args below meth c H locs cells slots QQ (F0 m pc ls (.ref (ad 0) :: rest)) :=
  f_get in_X12 (ci := 12) rfl C hP oM 0 (by decide) rfl rfl hlink hdg kk
theorem gf_X12_1 {M : Mem} (C : Cx T D p s m args c cc nL own) (hP : Pw EM T D ad 16 M H) (hlink : Cond.fieldLink own index "OneOfTwoModel" "kept" "[I" ∈ TB) (hdg : decode cc pc = .ok (.getfield index, 3)) (kk : W p l e R s m args below meth c H locs cells slots QQ (F0 m (pc + 3) ls (.ref (ad 2) :: rest))) : W p l e R s m args below meth c H locs cells slots QQ (F0 m pc ls (.ref (ad 0) :: rest)) :=
  f_get in_X12 (ci := 12) rfl C hP oM 1 (by decide) rfl rfl hlink hdg kk
theorem gf_X12_2 {M : Mem} (C : Cx T D p s m args c cc nL own) (hP : Pw EM T D ad 16 M H) (hlink : Cond.fieldLink own index "OneOfTwoModel" "aside" "[I" ∈ TB) (hdg : decode cc pc = .ok (.getfield index, 3)) (kk : W p l e R s m args below meth c H locs cells slots QQ (F0 m (pc + 3) ls (.ref (ad 3) :: rest))) : W p l e R s m args below meth c H locs cells slots QQ (F0 m pc ls (.ref (ad 0) :: rest)) :=
  f_get in_X12 (ci := 12) rfl C hP oM 2 (by decide) rfl rfl hlink hdg kk
theorem gf_X12_3 {M : Mem} (C : Cx T D p s m args c cc nL own) (hP : Pw EM T D ad 16 M H) (hlink : Cond.fieldLink own index "OneOfTwoModel" "images" "I" ∈ TB) (hdg : decode cc pc = .ok (.getfield index, 3)) (kk : W p l e R s m args below meth c H locs cells slots QQ (F0 m (pc + 3) ls (.int (M 0 3) :: rest))) : W p l e R s m args below meth c H locs cells slots QQ (F0 m pc ls (.ref (ad 0) :: rest)) :=
  f_get in_X12 (ci := 12) rfl C hP oM 3 (by decide) rfl rfl hlink hdg kk
theorem pf_X12_3 {M : Mem} {v : Int32} (C : Cx T D p s m args c cc nL own) (Z : Zz EM T D ad 16 A H0 M H locs) (hlink : Cond.fieldLink own index "OneOfTwoModel" "images" "I" ∈ TB) (hdg : decode cc pc = .ok (.putfield index, 3)) (kk : ∀ (M1 : Mem) (H1 : Heap) (locs1 : List Loc), M1 = sf M 0 3 v → Zz EM T D ad 16 A H0 M1 H1 locs1 → W p l e R s m args below meth c H1 locs1 cells slots QQ (F0 m (pc + 3) ls rest)) : W p l e R s m args below meth c H locs cells slots QQ (F0 m pc ls (.int v :: .ref (ad 0) :: rest)) :=
  f_put in_X12 tyX12_ok nmX12 (ci := 12) rfl C Z oM 3 (by decide) rfl (Nat.le_of_ble_eq_true rfl) rfl rfl (ty := .int) rfl rfl rfl hlink hdg kk
theorem gf_X12_4 {M : Mem} (C : Cx T D p s m args c cc nL own) (hP : Pw EM T D ad 16 M H) (hlink : Cond.fieldLink own index "OneOfTwoModel" "found" "[I" ∈ TB) (hdg : decode cc pc = .ok (.getfield index, 3)) (kk : W p l e R s m args below meth c H locs cells slots QQ (F0 m (pc + 3) ls (.ref (ad 4) :: rest))) : W p l e R s m args below meth c H locs cells slots QQ (F0 m pc ls (.ref (ad 0) :: rest)) :=
  f_get in_X12 (ci := 12) rfl C hP oM 4 (by decide) rfl rfl hlink hdg kk
theorem gf_X12_5 {M : Mem} (C : Cx T D p s m args c cc nL own) (hP : Pw EM T D ad 16 M H) (hlink : Cond.fieldLink own index "OneOfTwoModel" "base" "I" ∈ TB) (hdg : decode cc pc = .ok (.getfield index, 3)) (kk : W p l e R s m args below meth c H locs cells slots QQ (F0 m (pc + 3) ls (.int (M 0 5) :: rest))) : W p l e R s m args below meth c H locs cells slots QQ (F0 m pc ls (.ref (ad 0) :: rest)) :=
  f_get in_X12 (ci := 12) rfl C hP oM 5 (by decide) rfl rfl hlink hdg kk
theorem pf_X12_5 {M : Mem} {v : Int32} (C : Cx T D p s m args c cc nL own) (Z : Zz EM T D ad 16 A H0 M H locs) (hlink : Cond.fieldLink own index "OneOfTwoModel" "base" "I" ∈ TB) (hdg : decode cc pc = .ok (.putfield index, 3)) (kk : ∀ (M1 : Mem) (H1 : Heap) (locs1 : List Loc), M1 = sf M 0 5 v → Zz EM T D ad 16 A H0 M1 H1 locs1 → W p l e R s m args below meth c H1 locs1 cells slots QQ (F0 m (pc + 3) ls rest)) : W p l e R s m args below meth c H locs cells slots QQ (F0 m pc ls (.int v :: .ref (ad 0) :: rest)) :=
  f_put in_X12 tyX12_ok nmX12 (ci := 12) rfl C Z oM 5 (by decide) rfl (Nat.le_of_ble_eq_true rfl) rfl rfl (ty := .int) rfl rfl rfl hlink hdg kk
theorem gf_X12_6 {M : Mem} (C : Cx T D p s m args c cc nL own) (hP : Pw EM T D ad 16 M H) (hlink : Cond.fieldLink own index "OneOfTwoModel" "at" "I" ∈ TB) (hdg : decode cc pc = .ok (.getfield index, 3)) (kk : W p l e R s m args below meth c H locs cells slots QQ (F0 m (pc + 3) ls (.int (M 0 6) :: rest))) : W p l e R s m args below meth c H locs cells slots QQ (F0 m pc ls (.ref (ad 0) :: rest)) :=
  f_get in_X12 (ci := 12) rfl C hP oM 6 (by decide) rfl rfl hlink hdg kk
theorem pf_X12_6 {M : Mem} {v : Int32} (C : Cx T D p s m args c cc nL own) (Z : Zz EM T D ad 16 A H0 M H locs) (hlink : Cond.fieldLink own index "OneOfTwoModel" "at" "I" ∈ TB) (hdg : decode cc pc = .ok (.putfield index, 3)) (kk : ∀ (M1 : Mem) (H1 : Heap) (locs1 : List Loc), M1 = sf M 0 6 v → Zz EM T D ad 16 A H0 M1 H1 locs1 → W p l e R s m args below meth c H1 locs1 cells slots QQ (F0 m (pc + 3) ls rest)) : W p l e R s m args below meth c H locs cells slots QQ (F0 m pc ls (.int v :: .ref (ad 0) :: rest)) :=
  f_put in_X12 tyX12_ok nmX12 (ci := 12) rfl C Z oM 6 (by decide) rfl (Nat.le_of_ble_eq_true rfl) rfl rfl (ty := .int) rfl rfl rfl hlink hdg kk
theorem gf_X12_7 {M : Mem} (C : Cx T D p s m args c cc nL own) (hP : Pw EM T D ad 16 M H) (hlink : Cond.fieldLink own index "OneOfTwoModel" "size" "I" ∈ TB) (hdg : decode cc pc = .ok (.getfield index, 3)) (kk : W p l e R s m args below meth c H locs cells slots QQ (F0 m (pc + 3) ls (.int (M 0 7) :: rest))) : W p l e R s m args below meth c H locs cells slots QQ (F0 m pc ls (.ref (ad 0) :: rest)) :=
  f_get in_X12 (ci := 12) rfl C hP oM 7 (by decide) rfl rfl hlink hdg kk
theorem pf_X12_7 {M : Mem} {v : Int32} (C : Cx T D p s m args c cc nL own) (Z : Zz EM T D ad 16 A H0 M H locs) (hlink : Cond.fieldLink own index "OneOfTwoModel" "size" "I" ∈ TB) (hdg : decode cc pc = .ok (.putfield index, 3)) (kk : ∀ (M1 : Mem) (H1 : Heap) (locs1 : List Loc), M1 = sf M 0 7 v → Zz EM T D ad 16 A H0 M1 H1 locs1 → W p l e R s m args below meth c H1 locs1 cells slots QQ (F0 m (pc + 3) ls rest)) : W p l e R s m args below meth c H locs cells slots QQ (F0 m pc ls (.int v :: .ref (ad 0) :: rest)) :=
  f_put in_X12 tyX12_ok nmX12 (ci := 12) rfl C Z oM 7 (by decide) rfl (Nat.le_of_ble_eq_true rfl) rfl rfl (ty := .int) rfl rfl rfl hlink hdg kk
theorem gf_X12_8 {M : Mem} (C : Cx T D p s m args c cc nL own) (hP : Pw EM T D ad 16 M H) (hlink : Cond.fieldLink own index "OneOfTwoModel" "fault" "I" ∈ TB) (hdg : decode cc pc = .ok (.getfield index, 3)) (kk : W p l e R s m args below meth c H locs cells slots QQ (F0 m (pc + 3) ls (.int (M 0 8) :: rest))) : W p l e R s m args below meth c H locs cells slots QQ (F0 m pc ls (.ref (ad 0) :: rest)) :=
  f_get in_X12 (ci := 12) rfl C hP oM 8 (by decide) rfl rfl hlink hdg kk
theorem pf_X12_8 {M : Mem} {v : Int32} (C : Cx T D p s m args c cc nL own) (Z : Zz EM T D ad 16 A H0 M H locs) (hlink : Cond.fieldLink own index "OneOfTwoModel" "fault" "I" ∈ TB) (hdg : decode cc pc = .ok (.putfield index, 3)) (kk : ∀ (M1 : Mem) (H1 : Heap) (locs1 : List Loc), M1 = sf M 0 8 v → Zz EM T D ad 16 A H0 M1 H1 locs1 → W p l e R s m args below meth c H1 locs1 cells slots QQ (F0 m (pc + 3) ls rest)) : W p l e R s m args below meth c H locs cells slots QQ (F0 m pc ls (.int v :: .ref (ad 0) :: rest)) :=
  f_put in_X12 tyX12_ok nmX12 (ci := 12) rfl C Z oM 8 (by decide) rfl (Nat.le_of_ble_eq_true rfl) rfl rfl (ty := .int) rfl rfl rfl hlink hdg kk
theorem gf_X12_9 {M : Mem} (C : Cx T D p s m args c cc nL own) (hP : Pw EM T D ad 16 M H) (hlink : Cond.fieldLink own index "OneOfTwoModel" "opened" "I" ∈ TB) (hdg : decode cc pc = .ok (.getfield index, 3)) (kk : W p l e R s m args below meth c H locs cells slots QQ (F0 m (pc + 3) ls (.int (M 0 9) :: rest))) : W p l e R s m args below meth c H locs cells slots QQ (F0 m pc ls (.ref (ad 0) :: rest)) :=
  f_get in_X12 (ci := 12) rfl C hP oM 9 (by decide) rfl rfl hlink hdg kk
theorem pf_X12_9 {M : Mem} {v : Int32} (C : Cx T D p s m args c cc nL own) (Z : Zz EM T D ad 16 A H0 M H locs) (hlink : Cond.fieldLink own index "OneOfTwoModel" "opened" "I" ∈ TB) (hdg : decode cc pc = .ok (.putfield index, 3)) (kk : ∀ (M1 : Mem) (H1 : Heap) (locs1 : List Loc), M1 = sf M 0 9 v → Zz EM T D ad 16 A H0 M1 H1 locs1 → W p l e R s m args below meth c H1 locs1 cells slots QQ (F0 m (pc + 3) ls rest)) : W p l e R s m args below meth c H locs cells slots QQ (F0 m pc ls (.int v :: .ref (ad 0) :: rest)) :=
  f_put in_X12 tyX12_ok nmX12 (ci := 12) rfl C Z oM 9 (by decide) rfl (Nat.le_of_ble_eq_true rfl) rfl rfl (ty := .int) rfl rfl rfl hlink hdg kk
theorem gf_X12_10 {M : Mem} (C : Cx T D p s m args c cc nL own) (hP : Pw EM T D ad 16 M H) (hlink : Cond.fieldLink own index "OneOfTwoModel" "isCalm" "Z" ∈ TB) (hdg : decode cc pc = .ok (.getfield index, 3)) (kk : W p l e R s m args below meth c H locs cells slots QQ (F0 m (pc + 3) ls (.int (M 0 10) :: rest))) : W p l e R s m args below meth c H locs cells slots QQ (F0 m pc ls (.ref (ad 0) :: rest)) :=
  f_get in_X12 (ci := 12) rfl C hP oM 10 (by decide) rfl rfl hlink hdg kk
theorem pf_X12_10 {M : Mem} {v : Int32} (C : Cx T D p s m args c cc nL own) (Z : Zz EM T D ad 16 A H0 M H locs) (hz : v = 0 ∨ v = 1) (hlink : Cond.fieldLink own index "OneOfTwoModel" "isCalm" "Z" ∈ TB) (hdg : decode cc pc = .ok (.putfield index, 3)) (kk : ∀ (M1 : Mem) (H1 : Heap) (locs1 : List Loc), M1 = sf M 0 10 v → Zz EM T D ad 16 A H0 M1 H1 locs1 → W p l e R s m args below meth c H1 locs1 cells slots QQ (F0 m (pc + 3) ls rest)) : W p l e R s m args below meth c H locs cells slots QQ (F0 m pc ls (.int v :: .ref (ad 0) :: rest)) :=
  f_put in_X12 tyX12_ok nmX12 (ci := 12) rfl C Z oM 10 (by decide) rfl (Nat.le_of_ble_eq_true rfl) rfl rfl (ty := .boolean) rfl (nz hz) (by rcases hz with rfl | rfl <;> rfl) hlink hdg kk
theorem gf_X12_11 {M : Mem} (C : Cx T D p s m args c cc nL own) (hP : Pw EM T D ad 16 M H) (hlink : Cond.fieldLink own index "OneOfTwoModel" "names" "[I" ∈ TB) (hdg : decode cc pc = .ok (.getfield index, 3)) (kk : W p l e R s m args below meth c H locs cells slots QQ (F0 m (pc + 3) ls (.ref (ad 5) :: rest))) : W p l e R s m args below meth c H locs cells slots QQ (F0 m pc ls (.ref (ad 0) :: rest)) :=
  f_get in_X12 (ci := 12) rfl C hP oM 11 (by decide) rfl rfl hlink hdg kk
theorem gf_X12_12 {M : Mem} (C : Cx T D p s m args c cc nL own) (hP : Pw EM T D ad 16 M H) (hlink : Cond.fieldLink own index "OneOfTwoModel" "opens" "[I" ∈ TB) (hdg : decode cc pc = .ok (.getfield index, 3)) (kk : W p l e R s m args below meth c H locs cells slots QQ (F0 m (pc + 3) ls (.ref (ad 6) :: rest))) : W p l e R s m args below meth c H locs cells slots QQ (F0 m pc ls (.ref (ad 0) :: rest)) :=
  f_get in_X12 (ci := 12) rfl C hP oM 12 (by decide) rfl rfl hlink hdg kk
theorem gf_X12_13 {M : Mem} (C : Cx T D p s m args c cc nL own) (hP : Pw EM T D ad 16 M H) (hlink : Cond.fieldLink own index "OneOfTwoModel" "wasOpen" "[I" ∈ TB) (hdg : decode cc pc = .ok (.getfield index, 3)) (kk : W p l e R s m args below meth c H locs cells slots QQ (F0 m (pc + 3) ls (.ref (ad 7) :: rest))) : W p l e R s m args below meth c H locs cells slots QQ (F0 m pc ls (.ref (ad 0) :: rest)) :=
  f_get in_X12 (ci := 12) rfl C hP oM 13 (by decide) rfl rfl hlink hdg kk
theorem gf_X12_14 {M : Mem} (C : Cx T D p s m args c cc nL own) (hP : Pw EM T D ad 16 M H) (hlink : Cond.fieldLink own index "OneOfTwoModel" "left" "[I" ∈ TB) (hdg : decode cc pc = .ok (.getfield index, 3)) (kk : W p l e R s m args below meth c H locs cells slots QQ (F0 m (pc + 3) ls (.ref (ad 8) :: rest))) : W p l e R s m args below meth c H locs cells slots QQ (F0 m pc ls (.ref (ad 0) :: rest)) :=
  f_get in_X12 (ci := 12) rfl C hP oM 14 (by decide) rfl rfl hlink hdg kk
theorem gf_X12_15 {M : Mem} (C : Cx T D p s m args c cc nL own) (hP : Pw EM T D ad 16 M H) (hlink : Cond.fieldLink own index "OneOfTwoModel" "lastOf" "[I" ∈ TB) (hdg : decode cc pc = .ok (.getfield index, 3)) (kk : W p l e R s m args below meth c H locs cells slots QQ (F0 m (pc + 3) ls (.ref (ad 9) :: rest))) : W p l e R s m args below meth c H locs cells slots QQ (F0 m pc ls (.ref (ad 0) :: rest)) :=
  f_get in_X12 (ci := 12) rfl C hP oM 15 (by decide) rfl rfl hlink hdg kk
theorem gf_X12_16 {M : Mem} (C : Cx T D p s m args c cc nL own) (hP : Pw EM T D ad 16 M H) (hlink : Cond.fieldLink own index "OneOfTwoModel" "standingsMany" "I" ∈ TB) (hdg : decode cc pc = .ok (.getfield index, 3)) (kk : W p l e R s m args below meth c H locs cells slots QQ (F0 m (pc + 3) ls (.int (M 0 16) :: rest))) : W p l e R s m args below meth c H locs cells slots QQ (F0 m pc ls (.ref (ad 0) :: rest)) :=
  f_get in_X12 (ci := 12) rfl C hP oM 16 (by decide) rfl rfl hlink hdg kk
theorem pf_X12_16 {M : Mem} {v : Int32} (C : Cx T D p s m args c cc nL own) (Z : Zz EM T D ad 16 A H0 M H locs) (hlink : Cond.fieldLink own index "OneOfTwoModel" "standingsMany" "I" ∈ TB) (hdg : decode cc pc = .ok (.putfield index, 3)) (kk : ∀ (M1 : Mem) (H1 : Heap) (locs1 : List Loc), M1 = sf M 0 16 v → Zz EM T D ad 16 A H0 M1 H1 locs1 → W p l e R s m args below meth c H1 locs1 cells slots QQ (F0 m (pc + 3) ls rest)) : W p l e R s m args below meth c H locs cells slots QQ (F0 m pc ls (.int v :: .ref (ad 0) :: rest)) :=
  f_put in_X12 tyX12_ok nmX12 (ci := 12) rfl C Z oM 16 (by decide) rfl (Nat.le_of_ble_eq_true rfl) rfl rfl (ty := .int) rfl rfl rfl hlink hdg kk
theorem gf_X12_17 {M : Mem} (C : Cx T D p s m args c cc nL own) (hP : Pw EM T D ad 16 M H) (hlink : Cond.fieldLink own index "OneOfTwoModel" "bestContent" "I" ∈ TB) (hdg : decode cc pc = .ok (.getfield index, 3)) (kk : W p l e R s m args below meth c H locs cells slots QQ (F0 m (pc + 3) ls (.int (M 0 17) :: rest))) : W p l e R s m args below meth c H locs cells slots QQ (F0 m pc ls (.ref (ad 0) :: rest)) :=
  f_get in_X12 (ci := 12) rfl C hP oM 17 (by decide) rfl rfl hlink hdg kk
theorem pf_X12_17 {M : Mem} {v : Int32} (C : Cx T D p s m args c cc nL own) (Z : Zz EM T D ad 16 A H0 M H locs) (hlink : Cond.fieldLink own index "OneOfTwoModel" "bestContent" "I" ∈ TB) (hdg : decode cc pc = .ok (.putfield index, 3)) (kk : ∀ (M1 : Mem) (H1 : Heap) (locs1 : List Loc), M1 = sf M 0 17 v → Zz EM T D ad 16 A H0 M1 H1 locs1 → W p l e R s m args below meth c H1 locs1 cells slots QQ (F0 m (pc + 3) ls rest)) : W p l e R s m args below meth c H locs cells slots QQ (F0 m pc ls (.int v :: .ref (ad 0) :: rest)) :=
  f_put in_X12 tyX12_ok nmX12 (ci := 12) rfl C Z oM 17 (by decide) rfl (Nat.le_of_ble_eq_true rfl) rfl rfl (ty := .int) rfl rfl rfl hlink hdg kk
theorem gf_X12_18 {M : Mem} (C : Cx T D p s m args c cc nL own) (hP : Pw EM T D ad 16 M H) (hlink : Cond.fieldLink own index "OneOfTwoModel" "bestPulls" "I" ∈ TB) (hdg : decode cc pc = .ok (.getfield index, 3)) (kk : W p l e R s m args below meth c H locs cells slots QQ (F0 m (pc + 3) ls (.int (M 0 18) :: rest))) : W p l e R s m args below meth c H locs cells slots QQ (F0 m pc ls (.ref (ad 0) :: rest)) :=
  f_get in_X12 (ci := 12) rfl C hP oM 18 (by decide) rfl rfl hlink hdg kk
theorem pf_X12_18 {M : Mem} {v : Int32} (C : Cx T D p s m args c cc nL own) (Z : Zz EM T D ad 16 A H0 M H locs) (hlink : Cond.fieldLink own index "OneOfTwoModel" "bestPulls" "I" ∈ TB) (hdg : decode cc pc = .ok (.putfield index, 3)) (kk : ∀ (M1 : Mem) (H1 : Heap) (locs1 : List Loc), M1 = sf M 0 18 v → Zz EM T D ad 16 A H0 M1 H1 locs1 → W p l e R s m args below meth c H1 locs1 cells slots QQ (F0 m (pc + 3) ls rest)) : W p l e R s m args below meth c H locs cells slots QQ (F0 m pc ls (.int v :: .ref (ad 0) :: rest)) :=
  f_put in_X12 tyX12_ok nmX12 (ci := 12) rfl C Z oM 18 (by decide) rfl (Nat.le_of_ble_eq_true rfl) rfl rfl (ty := .int) rfl rfl rfl hlink hdg kk
theorem gf_X12_19 {M : Mem} (C : Cx T D p s m args c cc nL own) (hP : Pw EM T D ad 16 M H) (hlink : Cond.fieldLink own index "OneOfTwoModel" "bestRow" "[I" ∈ TB) (hdg : decode cc pc = .ok (.getfield index, 3)) (kk : W p l e R s m args below meth c H locs cells slots QQ (F0 m (pc + 3) ls (.ref (ad 10) :: rest))) : W p l e R s m args below meth c H locs cells slots QQ (F0 m pc ls (.ref (ad 0) :: rest)) :=
  f_get in_X12 (ci := 12) rfl C hP oM 19 (by decide) rfl rfl hlink hdg kk
theorem gf_X12_20 {M : Mem} (C : Cx T D p s m args c cc nL own) (hP : Pw EM T D ad 16 M H) (hlink : Cond.fieldLink own index "OneOfTwoModel" "helpsTwo" "I" ∈ TB) (hdg : decode cc pc = .ok (.getfield index, 3)) (kk : W p l e R s m args below meth c H locs cells slots QQ (F0 m (pc + 3) ls (.int (M 0 20) :: rest))) : W p l e R s m args below meth c H locs cells slots QQ (F0 m pc ls (.ref (ad 0) :: rest)) :=
  f_get in_X12 (ci := 12) rfl C hP oM 20 (by decide) rfl rfl hlink hdg kk
theorem pf_X12_20 {M : Mem} {v : Int32} (C : Cx T D p s m args c cc nL own) (Z : Zz EM T D ad 16 A H0 M H locs) (hlink : Cond.fieldLink own index "OneOfTwoModel" "helpsTwo" "I" ∈ TB) (hdg : decode cc pc = .ok (.putfield index, 3)) (kk : ∀ (M1 : Mem) (H1 : Heap) (locs1 : List Loc), M1 = sf M 0 20 v → Zz EM T D ad 16 A H0 M1 H1 locs1 → W p l e R s m args below meth c H1 locs1 cells slots QQ (F0 m (pc + 3) ls rest)) : W p l e R s m args below meth c H locs cells slots QQ (F0 m pc ls (.int v :: .ref (ad 0) :: rest)) :=
  f_put in_X12 tyX12_ok nmX12 (ci := 12) rfl C Z oM 20 (by decide) rfl (Nat.le_of_ble_eq_true rfl) rfl rfl (ty := .int) rfl rfl rfl hlink hdg kk
theorem gf_X12_21 {M : Mem} (C : Cx T D p s m args c cc nL own) (hP : Pw EM T D ad 16 M H) (hlink : Cond.fieldLink own index "OneOfTwoModel" "helpsMany" "I" ∈ TB) (hdg : decode cc pc = .ok (.getfield index, 3)) (kk : W p l e R s m args below meth c H locs cells slots QQ (F0 m (pc + 3) ls (.int (M 0 21) :: rest))) : W p l e R s m args below meth c H locs cells slots QQ (F0 m pc ls (.ref (ad 0) :: rest)) :=
  f_get in_X12 (ci := 12) rfl C hP oM 21 (by decide) rfl rfl hlink hdg kk
theorem pf_X12_21 {M : Mem} {v : Int32} (C : Cx T D p s m args c cc nL own) (Z : Zz EM T D ad 16 A H0 M H locs) (hlink : Cond.fieldLink own index "OneOfTwoModel" "helpsMany" "I" ∈ TB) (hdg : decode cc pc = .ok (.putfield index, 3)) (kk : ∀ (M1 : Mem) (H1 : Heap) (locs1 : List Loc), M1 = sf M 0 21 v → Zz EM T D ad 16 A H0 M1 H1 locs1 → W p l e R s m args below meth c H1 locs1 cells slots QQ (F0 m (pc + 3) ls rest)) : W p l e R s m args below meth c H locs cells slots QQ (F0 m pc ls (.int v :: .ref (ad 0) :: rest)) :=
  f_put in_X12 tyX12_ok nmX12 (ci := 12) rfl C Z oM 21 (by decide) rfl (Nat.le_of_ble_eq_true rfl) rfl rfl (ty := .int) rfl rfl rfl hlink hdg kk
theorem gf_X12_22 {M : Mem} (C : Cx T D p s m args c cc nL own) (hP : Pw EM T D ad 16 M H) (hlink : Cond.fieldLink own index "OneOfTwoModel" "traced" "[I" ∈ TB) (hdg : decode cc pc = .ok (.getfield index, 3)) (kk : W p l e R s m args below meth c H locs cells slots QQ (F0 m (pc + 3) ls (.ref (ad 11) :: rest))) : W p l e R s m args below meth c H locs cells slots QQ (F0 m pc ls (.ref (ad 0) :: rest)) :=
  f_get in_X12 (ci := 12) rfl C hP oM 22 (by decide) rfl rfl hlink hdg kk
theorem gf_X12_23 {M : Mem} (C : Cx T D p s m args c cc nL own) (hP : Pw EM T D ad 16 M H) (hlink : Cond.fieldLink own index "OneOfTwoModel" "traceMany" "I" ∈ TB) (hdg : decode cc pc = .ok (.getfield index, 3)) (kk : W p l e R s m args below meth c H locs cells slots QQ (F0 m (pc + 3) ls (.int (M 0 23) :: rest))) : W p l e R s m args below meth c H locs cells slots QQ (F0 m pc ls (.ref (ad 0) :: rest)) :=
  f_get in_X12 (ci := 12) rfl C hP oM 23 (by decide) rfl rfl hlink hdg kk
theorem pf_X12_23 {M : Mem} {v : Int32} (C : Cx T D p s m args c cc nL own) (Z : Zz EM T D ad 16 A H0 M H locs) (hlink : Cond.fieldLink own index "OneOfTwoModel" "traceMany" "I" ∈ TB) (hdg : decode cc pc = .ok (.putfield index, 3)) (kk : ∀ (M1 : Mem) (H1 : Heap) (locs1 : List Loc), M1 = sf M 0 23 v → Zz EM T D ad 16 A H0 M1 H1 locs1 → W p l e R s m args below meth c H1 locs1 cells slots QQ (F0 m (pc + 3) ls rest)) : W p l e R s m args below meth c H locs cells slots QQ (F0 m pc ls (.int v :: .ref (ad 0) :: rest)) :=
  f_put in_X12 tyX12_ok nmX12 (ci := 12) rfl C Z oM 23 (by decide) rfl (Nat.le_of_ble_eq_true rfl) rfl rfl (ty := .int) rfl rfl rfl hlink hdg kk
theorem gf_X12_24 {M : Mem} (C : Cx T D p s m args c cc nL own) (hP : Pw EM T D ad 16 M H) (hlink : Cond.fieldLink own index "OneOfTwoModel" "who" "I" ∈ TB) (hdg : decode cc pc = .ok (.getfield index, 3)) (kk : W p l e R s m args below meth c H locs cells slots QQ (F0 m (pc + 3) ls (.int (M 0 24) :: rest))) : W p l e R s m args below meth c H locs cells slots QQ (F0 m pc ls (.ref (ad 0) :: rest)) :=
  f_get in_X12 (ci := 12) rfl C hP oM 24 (by decide) rfl rfl hlink hdg kk
theorem pf_X12_24 {M : Mem} {v : Int32} (C : Cx T D p s m args c cc nL own) (Z : Zz EM T D ad 16 A H0 M H locs) (hlink : Cond.fieldLink own index "OneOfTwoModel" "who" "I" ∈ TB) (hdg : decode cc pc = .ok (.putfield index, 3)) (kk : ∀ (M1 : Mem) (H1 : Heap) (locs1 : List Loc), M1 = sf M 0 24 v → Zz EM T D ad 16 A H0 M1 H1 locs1 → W p l e R s m args below meth c H1 locs1 cells slots QQ (F0 m (pc + 3) ls rest)) : W p l e R s m args below meth c H locs cells slots QQ (F0 m pc ls (.int v :: .ref (ad 0) :: rest)) :=
  f_put in_X12 tyX12_ok nmX12 (ci := 12) rfl C Z oM 24 (by decide) rfl (Nat.le_of_ble_eq_true rfl) rfl rfl (ty := .int) rfl rfl rfl hlink hdg kk
theorem gf_X12_25 {M : Mem} (C : Cx T D p s m args c cc nL own) (hP : Pw EM T D ad 16 M H) (hlink : Cond.fieldLink own index "OneOfTwoModel" "bitsOf" "[I" ∈ TB) (hdg : decode cc pc = .ok (.getfield index, 3)) (kk : W p l e R s m args below meth c H locs cells slots QQ (F0 m (pc + 3) ls (.ref (ad 12) :: rest))) : W p l e R s m args below meth c H locs cells slots QQ (F0 m pc ls (.ref (ad 0) :: rest)) :=
  f_get in_X12 (ci := 12) rfl C hP oM 25 (by decide) rfl rfl hlink hdg kk
theorem gf_X12_26 {M : Mem} (C : Cx T D p s m args c cc nL own) (hP : Pw EM T D ad 16 M H) (hlink : Cond.fieldLink own index "OneOfTwoModel" "sizeOf" "[I" ∈ TB) (hdg : decode cc pc = .ok (.getfield index, 3)) (kk : W p l e R s m args below meth c H locs cells slots QQ (F0 m (pc + 3) ls (.ref (ad 13) :: rest))) : W p l e R s m args below meth c H locs cells slots QQ (F0 m pc ls (.ref (ad 0) :: rest)) :=
  f_get in_X12 (ci := 12) rfl C hP oM 26 (by decide) rfl rfl hlink hdg kk
theorem gf_X12_27 {M : Mem} (C : Cx T D p s m args c cc nL own) (hP : Pw EM T D ad 16 M H) (hlink : Cond.fieldLink own index "OneOfTwoModel" "number" "[I" ∈ TB) (hdg : decode cc pc = .ok (.getfield index, 3)) (kk : W p l e R s m args below meth c H locs cells slots QQ (F0 m (pc + 3) ls (.ref (ad 14) :: rest))) : W p l e R s m args below meth c H locs cells slots QQ (F0 m pc ls (.ref (ad 0) :: rest)) :=
  f_get in_X12 (ci := 12) rfl C hP oM 27 (by decide) rfl rfl hlink hdg kk
theorem gf_X12_28 {M : Mem} (C : Cx T D p s m args c cc nL own) (hP : Pw EM T D ad 16 M H) (hlink : Cond.fieldLink own index "OneOfTwoModel" "lifted" "[I" ∈ TB) (hdg : decode cc pc = .ok (.getfield index, 3)) (kk : W p l e R s m args below meth c H locs cells slots QQ (F0 m (pc + 3) ls (.ref (ad 15) :: rest))) : W p l e R s m args below meth c H locs cells slots QQ (F0 m pc ls (.ref (ad 0) :: rest)) :=
  f_get in_X12 (ci := 12) rfl C hP oM 28 (by decide) rfl rfl hlink hdg kk
end
