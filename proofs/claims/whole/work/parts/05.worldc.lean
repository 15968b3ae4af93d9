theorem in_X0 : ∀ w ∈ u_ws "OneOfTwo$Cougher" TX0 1, w ∈ TB := List.forall_mem_cons.mpr ⟨tw_1_74, fun _ h => absurd h List.not_mem_nil⟩
theorem in_X1 : ∀ w ∈ u_ws "OneOfTwo$Fevered" TX1 1, w ∈ TB := List.forall_mem_cons.mpr ⟨tw_1_98, fun _ h => absurd h List.not_mem_nil⟩
theorem in_X2 : ∀ w ∈ u_ws "OneOfTwo$House" TX2 19, w ∈ TB := List.forall_mem_cons.mpr ⟨tw_1_173, List.forall_mem_cons.mpr ⟨tw_1_175, List.forall_mem_cons.mpr ⟨tw_1_177, List.forall_mem_cons.mpr ⟨tw_1_179, List.forall_mem_cons.mpr ⟨tw_1_181, List.forall_mem_cons.mpr ⟨tw_1_183, List.forall_mem_cons.mpr ⟨tw_1_185, List.forall_mem_cons.mpr ⟨tw_1_187, List.forall_mem_cons.mpr ⟨tw_1_189, List.forall_mem_cons.mpr ⟨tw_1_191, List.forall_mem_cons.mpr ⟨tw_1_193, List.forall_mem_cons.mpr ⟨tw_1_195, List.forall_mem_cons.mpr ⟨tw_1_197, List.forall_mem_cons.mpr ⟨tw_1_199, List.forall_mem_cons.mpr ⟨tw_1_201, List.forall_mem_cons.mpr ⟨tw_1_203, List.forall_mem_cons.mpr ⟨tw_1_205, List.forall_mem_cons.mpr ⟨tw_1_207, List.forall_mem_cons.mpr ⟨tw_1_209, fun _ h => absurd h List.not_mem_nil⟩⟩⟩⟩⟩⟩⟩⟩⟩⟩⟩⟩⟩⟩⟩⟩⟩⟩⟩
theorem in_X3 : ∀ w ∈ u_ws "OneOfTwo$Lodger" TX3 1, w ∈ TB := List.forall_mem_cons.mpr ⟨tw_1_65, fun _ h => absurd h List.not_mem_nil⟩
theorem in_X4 : ∀ w ∈ u_ws "OneOfTwo$Row" TX4 3, w ∈ TB := List.forall_mem_cons.mpr ⟨tw_1_50, List.forall_mem_cons.mpr ⟨tw_1_52, List.forall_mem_cons.mpr ⟨tw_1_54, fun _ h => absurd h List.not_mem_nil⟩⟩⟩
theorem in_X5 : ∀ w ∈ u_ws "OneOfTwo$Search" TX5 10, w ∈ TB := List.forall_mem_cons.mpr ⟨tw_1_231, List.forall_mem_cons.mpr ⟨tw_1_233, List.forall_mem_cons.mpr ⟨tw_1_235, List.forall_mem_cons.mpr ⟨tw_1_237, List.forall_mem_cons.mpr ⟨tw_1_239, List.forall_mem_cons.mpr ⟨tw_2_1, List.forall_mem_cons.mpr ⟨tw_2_3, List.forall_mem_cons.mpr ⟨tw_2_5, List.forall_mem_cons.mpr ⟨tw_2_7, List.forall_mem_cons.mpr ⟨tw_2_9, fun _ h => absurd h List.not_mem_nil⟩⟩⟩⟩⟩⟩⟩⟩⟩⟩
theorem in_X6 : ∀ w ∈ u_ws "OneOfTwo$Sleeper" TX6 1, w ∈ TB := List.forall_mem_cons.mpr ⟨tw_1_90, fun _ h => absurd h List.not_mem_nil⟩
theorem in_X7 : ∀ w ∈ u_ws "OneOfTwo$Smoker" TX7 1, w ∈ TB := List.forall_mem_cons.mpr ⟨tw_1_82, fun _ h => absurd h List.not_mem_nil⟩
theorem in_X8 : ∀ w ∈ u_ws "OneOfTwo$Spiteful" TX8 1, w ∈ TB := List.forall_mem_cons.mpr ⟨tw_1_114, fun _ h => absurd h List.not_mem_nil⟩
theorem in_X9 : ∀ w ∈ u_ws "OneOfTwo$Strong" TX9 1, w ∈ TB := List.forall_mem_cons.mpr ⟨tw_1_106, fun _ h => absurd h List.not_mem_nil⟩
theorem in_X10 : ∀ w ∈ u_ws "OneOfTwo$Text" TX10 7, w ∈ TB := List.forall_mem_cons.mpr ⟨tw_3_91, List.forall_mem_cons.mpr ⟨tw_3_93, List.forall_mem_cons.mpr ⟨tw_3_95, List.forall_mem_cons.mpr ⟨tw_3_97, List.forall_mem_cons.mpr ⟨tw_3_99, List.forall_mem_cons.mpr ⟨tw_3_101, List.forall_mem_cons.mpr ⟨tw_3_103, fun _ h => absurd h List.not_mem_nil⟩⟩⟩⟩⟩⟩⟩
theorem in_X11 : ∀ w ∈ u_ws "OneOfTwo" TX11 11, w ∈ TB := List.forall_mem_cons.mpr ⟨tw_2_23, List.forall_mem_cons.mpr ⟨tw_2_25, List.forall_mem_cons.mpr ⟨tw_2_27, List.forall_mem_cons.mpr ⟨tw_2_29, List.forall_mem_cons.mpr ⟨tw_2_31, List.forall_mem_cons.mpr ⟨tw_2_33, List.forall_mem_cons.mpr ⟨tw_2_35, List.forall_mem_cons.mpr ⟨tw_2_37, List.forall_mem_cons.mpr ⟨tw_2_39, List.forall_mem_cons.mpr ⟨tw_2_41, List.forall_mem_cons.mpr ⟨tw_2_43, fun _ h => absurd h List.not_mem_nil⟩⟩⟩⟩⟩⟩⟩⟩⟩⟩⟩
def cShL : List Nat := [0, 1, 2, 3, 2, 4, 2, 5, 2, 2, 2, 2, 2, 2, 2, 6, 6, 6, 6, 6, 6, 6, 4, 2, 4, 2, 4, 2, 4, 2, 7, 2, 2, 2, 2, 8, 2, 2, 4, 2, 4, 2, 9, 7, 2, 2, 2, 2, 8, 2, 2, 4, 2, 4, 2, 9, 7, 2, 2, 2, 2, 8, 2, 2, 4, 2, 4, 2, 9]
def cLenL : List Nat := [0, 0, 2701, 0, 6, 0, 40, 0, 8, 11, 4, 4, 4, 9, 8, 0, 0, 0, 0, 0, 0, 0, 0, 40, 0, 40, 0, 40, 0, 40, 0, 8, 8, 8, 8, 0, 6, 6, 0, 50, 0, 20, 0, 0, 8, 8, 8, 8, 0, 6, 6, 0, 50, 0, 20, 0, 0, 8, 8, 8, 8, 0, 6, 6, 0, 50, 0, 20, 0]
def cSh (k : Nat) : Nat := cShL.getD k 0
def cLen (k : Nat) : Nat := cLenL.getD k 0
def rLen (r : Nat) : Nat := cLen (r + 1)
def FO : (Nat → Nat) → (Nat → Int32) → List Value := fun ad f => [.ref (ad 1), .ref (ad 2), .ref (ad 3), .ref (ad 5), .ref (ad 4), .ref (ad 30), .ref (ad 43), .ref (ad 56), .ref (ad 7), .int (f 9), .int (f 10)]
def FS : (Nat → Nat) → (Nat → Int32) → List Value := fun ad f => [.ref (ad 30), .ref (ad 8), .ref (ad 9), .ref (ad 10), .ref (ad 11), .ref (ad 12), .ref (ad 13), .ref (ad 14), .int (f 8), .int (f 9)]
def FH (g : Nat) : (Nat → Nat) → (Nat → Int32) → List Value := fun ad f => [.int (f 0), .int (f 1), .int (f 2), .ref (ad (g + 1)), .ref (ad (g + 2)), .ref (ad (g + 3)), .ref (ad (g + 4)), .ref (ad (g + 5)), .ref (ad (g + 6)), .ref (ad (g + 7)), .int (f 10), .int (f 11), .int (f 12), .int (f 13), .int (f 14), .int (f 15), .ref (ad (g + 8)), .ref (ad (g + 10)), .ref (ad (g + 12))]
def FR (g : Nat) : (Nat → Nat) → (Nat → Int32) → List Value := fun ad f => [.ref (ad (g + 1)), .int (f 1), .int (f 2)]
def FT (g : Nat) : (Nat → Nat) → (Nat → Int32) → List Value := fun ad f => [.int (f 0), .ref (ad 2), .ref (ad (g + 1)), .int (f 3), .ref (ad (g + 2)), .int (f 5), .int (f 6)]
def kCl (j : Nat) : Nat := [3, 0, 7, 6, 1, 9, 8].getD j 0
def EC : ET := fun T ad k f =>
  if k < 69 then
    match cSh k with
    | 0 => .inr (11, FO ad f)
    | 1 => .inl (T 1, 7, .inr (.inr (.inr (.inr fun i => some (ad (15 + i))))))
    | 2 => .inl (T 0, cLen k, .inl f)
    | 3 => .inl (T 2, 4, .inr (.inr (.inr (.inr fun i => some (ad (22 + 2 * i))))))
    | 4 => .inr (4, FR k ad f)
    | 5 => .inr (5, FS ad f)
    | 6 => .inr (kCl (k - 15), [.int (nI (k - 15))])
    | 7 => .inr (2, FH k ad f)
    | 8 => .inl (T 1, 6, .inr (.inr (.inr (.inr fun i => rO ad (f i)))))
    | _ => .inl (T 3, 2, .inr (.inr (.inr (.inr fun i => rO ad (f i)))))
  else
    match (k - 69) % 3 with
    | 0 => .inr (10, FT k ad f)
    | _ => .inl (T 0, 50, .inl f)
def isH (g : Nat) : Prop := g = 30 ∨ g = 43 ∨ g = 56
def isR (r : Nat) : Prop := r + 1 < 69 ∧ cSh r = 4 ∧ cSh (r + 1) = 2
def isT (K t : Nat) : Prop := 69 ≤ t ∧ (t - 69) % 3 = 0 ∧ t + 3 ≤ 69 + K
theorem isH_0 : isH 30 := Or.inl rfl
theorem isH_1 : isH 43 := Or.inr (Or.inl rfl)
theorem isH_2 : isH 56 := Or.inr (Or.inr rfl)
theorem isR_5 : isR 5 := ⟨by decide, rfl, rfl⟩
theorem isR_t {g : Nat} (h : isH g) : isR (g + 8) := by rcases h with rfl | rfl | rfl <;> exact ⟨by decide, rfl, rfl⟩
theorem isR_w {g : Nat} (h : isH g) : isR (g + 10) := by rcases h with rfl | rfl | rfl <;> exact ⟨by decide, rfl, rfl⟩
theorem in4 {i : Int32} (h : vp_in i 4) : i = 0 ∨ i = 1 ∨ i = 2 ∨ i = 3 := by
  obtain ⟨j, hj, rfl⟩ := vp_in_of h (by decide)
  rcases (show j = 0 ∨ j = 1 ∨ j = 2 ∨ j = 3 by omega) with rfl | rfl | rfl | rfl
  · exact Or.inl rfl
  · exact Or.inr (Or.inl rfl)
  · exact Or.inr (Or.inr (Or.inl rfl))
  · exact Or.inr (Or.inr (Or.inr rfl))
theorem isR_s {i : Int32} (h : vp_in i 4) : isR (22 + 2 * i.toNatClampNeg) := by
  rcases in4 h with rfl | rfl | rfl | rfl <;> exact ⟨by decide +kernel, by decide +kernel, by decide +kernel⟩
section
variable {K : Nat}
theorem oO : OA EC (69 + K) 0 11 FO := ⟨by omega, fun _ _ _ => rfl⟩
theorem oS : OA EC (69 + K) 7 5 FS := ⟨by omega, fun _ _ _ => rfl⟩
theorem oH {g : Nat} (h : isH g) : OA EC (69 + K) g 2 (FH g) := by rcases h with rfl | rfl | rfl <;> exact ⟨by omega, fun _ _ _ => rfl⟩
theorem oR {r : Nat} (h : isR r) : OA EC (69 + K) r 4 (FR r) := by
  obtain ⟨h1, h2, h3⟩ := h
  refine ⟨by omega, fun T ad f => ?_⟩
  unfold EC
  rw [if_pos (by omega), h2]
  rfl
theorem aR {r : Nat} (h : isR r) : IA EC (69 + K) (r + 1) (rLen r) := by
  obtain ⟨h1, h2, h3⟩ := h
  refine ⟨by omega, fun T ad f => ?_⟩
  unfold EC
  rw [if_pos (by omega), h3]
  rfl
theorem oT {t : Nat} (h : isT K t) : OA EC (69 + K) t 10 (FT t) := by
  obtain ⟨h1, h2, h3⟩ := h
  refine ⟨by omega, fun T ad f => ?_⟩
  unfold EC
  rw [if_neg (by omega), h2]
  rfl
theorem aT_1 {t : Nat} (h : isT K t) : IA EC (69 + K) (t + 1) 50 := by
  obtain ⟨h1, h2, h3⟩ := h
  refine ⟨by omega, fun T ad f => ?_⟩
  unfold EC
  rw [if_neg (by omega), show (t + 1 - 69) % 3 = 1 by omega]
  rfl
theorem aT_2 {t : Nat} (h : isT K t) : IA EC (69 + K) (t + 2) 50 := by
  obtain ⟨h1, h2, h3⟩ := h
  refine ⟨by omega, fun T ad f => ?_⟩
  unfold EC
  rw [if_neg (by omega), show (t + 2 - 69) % 3 = 2 by omega]
  rfl
theorem aC_2 : IA EC (69 + K) 2 2701 := ⟨by omega, fun _ _ _ => rfl⟩
theorem aC_4 : IA EC (69 + K) 4 6 := ⟨by omega, fun _ _ _ => rfl⟩
theorem aC_8 : IA EC (69 + K) 8 8 := ⟨by omega, fun _ _ _ => rfl⟩
theorem aC_9 : IA EC (69 + K) 9 11 := ⟨by omega, fun _ _ _ => rfl⟩
theorem aC_10 : IA EC (69 + K) 10 4 := ⟨by omega, fun _ _ _ => rfl⟩
theorem aC_11 : IA EC (69 + K) 11 4 := ⟨by omega, fun _ _ _ => rfl⟩
theorem aC_12 : IA EC (69 + K) 12 4 := ⟨by omega, fun _ _ _ => rfl⟩
theorem aC_13 : IA EC (69 + K) 13 9 := ⟨by omega, fun _ _ _ => rfl⟩
theorem aC_14 : IA EC (69 + K) 14 8 := ⟨by omega, fun _ _ _ => rfl⟩
theorem aH_1 {g : Nat} (h : isH g) : IA EC (69 + K) (g + 1) 8 := by rcases h with rfl | rfl | rfl <;> exact ⟨by omega, fun _ _ _ => rfl⟩
theorem aH_2 {g : Nat} (h : isH g) : IA EC (69 + K) (g + 2) 8 := by rcases h with rfl | rfl | rfl <;> exact ⟨by omega, fun _ _ _ => rfl⟩
theorem aH_3 {g : Nat} (h : isH g) : IA EC (69 + K) (g + 3) 8 := by rcases h with rfl | rfl | rfl <;> exact ⟨by omega, fun _ _ _ => rfl⟩
theorem aH_4 {g : Nat} (h : isH g) : IA EC (69 + K) (g + 4) 8 := by rcases h with rfl | rfl | rfl <;> exact ⟨by omega, fun _ _ _ => rfl⟩
theorem aH_6 {g : Nat} (h : isH g) : IA EC (69 + K) (g + 6) 6 := by rcases h with rfl | rfl | rfl <;> exact ⟨by omega, fun _ _ _ => rfl⟩
theorem aH_7 {g : Nat} (h : isH g) : IA EC (69 + K) (g + 7) 6 := by rcases h with rfl | rfl | rfl <;> exact ⟨by omega, fun _ _ _ => rfl⟩
theorem rH_5 {g : Nat} (h : isH g) : RA EC (69 + K) (g + 5) 6 1 := by rcases h with rfl | rfl | rfl <;> exact ⟨by omega, fun _ _ _ => rfl⟩
theorem rH_12 {g : Nat} (h : isH g) : RA EC (69 + K) (g + 12) 2 3 := by rcases h with rfl | rfl | rfl <;> exact ⟨by omega, fun _ _ _ => rfl⟩
theorem oL_15 : OA EC (69 + K) (15 : Int32).toNatClampNeg 3 (fun _ _ => [.int 0]) := ⟨by show 15 < 69 + K; omega, fun _ _ _ => rfl⟩
theorem oL_16 : OA EC (69 + K) (16 : Int32).toNatClampNeg 0 (fun _ _ => [.int 1]) := ⟨by show 16 < 69 + K; omega, fun _ _ _ => rfl⟩
theorem oL_17 : OA EC (69 + K) (17 : Int32).toNatClampNeg 7 (fun _ _ => [.int 2]) := ⟨by show 17 < 69 + K; omega, fun _ _ _ => rfl⟩
theorem oL_18 : OA EC (69 + K) (18 : Int32).toNatClampNeg 6 (fun _ _ => [.int 3]) := ⟨by show 18 < 69 + K; omega, fun _ _ _ => rfl⟩
theorem oL_19 : OA EC (69 + K) (19 : Int32).toNatClampNeg 1 (fun _ _ => [.int 4]) := ⟨by show 19 < 69 + K; omega, fun _ _ _ => rfl⟩
theorem oL_20 : OA EC (69 + K) (20 : Int32).toNatClampNeg 9 (fun _ _ => [.int 5]) := ⟨by show 20 < 69 + K; omega, fun _ _ _ => rfl⟩
theorem oL_21 : OA EC (69 + K) (21 : Int32).toNatClampNeg 8 (fun _ _ => [.int 6]) := ⟨by show 21 < 69 + K; omega, fun _ _ _ => rfl⟩
end
def isKd_X3 (x : Int32) : Prop := x = 15 ∨ x = 16 ∨ x = 17 ∨ x = 18 ∨ x = 19 ∨ x = 20 ∨ x = 21
theorem kd_X3_15 : isKd_X3 15 := (Or.inl rfl)
theorem kd_X3_16 : isKd_X3 16 := (Or.inr (Or.inl rfl))
theorem kd_X3_17 : isKd_X3 17 := (Or.inr (Or.inr (Or.inl rfl)))
theorem kd_X3_18 : isKd_X3 18 := (Or.inr (Or.inr (Or.inr (Or.inl rfl))))
theorem kd_X3_19 : isKd_X3 19 := (Or.inr (Or.inr (Or.inr (Or.inr (Or.inl rfl)))))
theorem kd_X3_20 : isKd_X3 20 := (Or.inr (Or.inr (Or.inr (Or.inr (Or.inr (Or.inl rfl))))))
theorem kd_X3_21 : isKd_X3 21 := (Or.inr (Or.inr (Or.inr (Or.inr (Or.inr (Or.inr rfl))))))
def isKd_X0 (x : Int32) : Prop := x = 16 ∨ x = 19
theorem kd_X0_16 : isKd_X0 16 := (Or.inl rfl)
theorem kd_X0_19 : isKd_X0 19 := (Or.inr rfl)
def isKd_X7 (x : Int32) : Prop := x = 17 ∨ x = 20
theorem kd_X7_17 : isKd_X7 17 := (Or.inl rfl)
theorem kd_X7_20 : isKd_X7 20 := (Or.inr rfl)
def isKd_X6 (x : Int32) : Prop := x = 18 ∨ x = 21
theorem kd_X6_18 : isKd_X6 18 := (Or.inl rfl)
theorem kd_X6_21 : isKd_X6 21 := (Or.inr rfl)
def isKd_X1 (x : Int32) : Prop := x = 19
theorem kd_X1_19 : isKd_X1 19 := rfl
def isKd_X9 (x : Int32) : Prop := x = 20
theorem kd_X9_20 : isKd_X9 20 := rfl
def isKd_X8 (x : Int32) : Prop := x = 21
theorem kd_X8_21 : isKd_X8 21 := rfl
theorem in7 {i : Int32} (h : vp_in i 7) : i = 0 ∨ i = 1 ∨ i = 2 ∨ i = 3 ∨ i = 4 ∨ i = 5 ∨ i = 6 := by
  obtain ⟨j, hj, rfl⟩ := vp_in_of h (by decide)
  rcases (show j = 0 ∨ j = 1 ∨ j = 2 ∨ j = 3 ∨ j = 4 ∨ j = 5 ∨ j = 6 by omega) with rfl | rfl | rfl | rfl | rfl | rfl | rfl
  · exact Or.inl rfl
  · exact Or.inr (Or.inl rfl)
  · exact Or.inr (Or.inr (Or.inl rfl))
  · exact Or.inr (Or.inr (Or.inr (Or.inl rfl)))
  · exact Or.inr (Or.inr (Or.inr (Or.inr (Or.inl rfl))))
  · exact Or.inr (Or.inr (Or.inr (Or.inr (Or.inr (Or.inl rfl)))))
  · exact Or.inr (Or.inr (Or.inr (Or.inr (Or.inr (Or.inr rfl)))))
theorem kd_in {i : Int32} (h : vp_in i 7) : isKd_X3 (15 + i) := by
  rcases in7 h with rfl | rfl | rfl | rfl | rfl | rfl | rfl
  · exact kd_X3_15
  · exact kd_X3_16
  · exact kd_X3_17
  · exact kd_X3_18
  · exact kd_X3_19
  · exact kd_X3_20
  · exact kd_X3_21
theorem kd_ne {x : Int32} (h : isKd_X3 x) : ¬ x = 0 := by
  rcases h with rfl | rfl | rfl | rfl | rfl | rfl | rfl <;> decide
def kAbove (j : Nat) : Int32 := [-1, 0, 0, 0, 1, 2, 3].getD j 0
section
variable {p : Program} {l : Launch} {e : Env} {R : Room} {s : State} {m : MethodId} {args : Array Value} {below : List Frame} {meth : Method} {c : Code} {H : Heap} {locs : List Loc} {cells slots : Nat} {QQ : State → Prop}
variable {cc : ByteArray} {nL : Nat} {own : String} {pc index : Nat} {ls : Array Slot} {rest : List Value} {T : Nat → ClassId} {D : va_G} {ad : Nat → Nat} {A : Nat → Prop} {H0 : Heap}
theorem gf_X11_0 {K : Nat} {M : Mem} (C : Cx T D p s m args c cc nL own) (hP : Pw EC T D ad (69 + K) M H) (hlink : Cond.fieldLink own index "OneOfTwo" "kinds" "[LOneOfTwo$Lodger;" ∈ TB) (hdg : decode cc pc = .ok (.getfield index, 3)) (kk : W p l e R s m args below meth c H locs cells slots QQ (F0 m (pc + 3) ls (.ref (ad 1) :: rest))) : W p l e R s m args below meth c H locs cells slots QQ (F0 m pc ls (.ref (ad 0) :: rest)) :=
  f_get in_X11 (ci := 11) rfl C hP oO 0 (by decide) rfl rfl hlink hdg kk
theorem gf_X11_1 {K : Nat} {M : Mem} (C : Cx T D p s m args c cc nL own) (hP : Pw EC T D ad (69 + K) M H) (hlink : Cond.fieldLink own index "OneOfTwo" "airMemo" "[I" ∈ TB) (hdg : decode cc pc = .ok (.getfield index, 3)) (kk : W p l e R s m args below meth c H locs cells slots QQ (F0 m (pc + 3) ls (.ref (ad 2) :: rest))) : W p l e R s m args below meth c H locs cells slots QQ (F0 m pc ls (.ref (ad 0) :: rest)) :=
  f_get in_X11 (ci := 11) rfl C hP oO 1 (by decide) rfl rfl hlink hdg kk
theorem gf_X11_2 {K : Nat} {M : Mem} (C : Cx T D p s m args c cc nL own) (hP : Pw EC T D ad (69 + K) M H) (hlink : Cond.fieldLink own index "OneOfTwo" "sheets" "[LOneOfTwo$Row;" ∈ TB) (hdg : decode cc pc = .ok (.getfield index, 3)) (kk : W p l e R s m args below meth c H locs cells slots QQ (F0 m (pc + 3) ls (.ref (ad 3) :: rest))) : W p l e R s m args below meth c H locs cells slots QQ (F0 m pc ls (.ref (ad 0) :: rest)) :=
  f_get in_X11 (ci := 11) rfl C hP oO 2 (by decide) rfl rfl hlink hdg kk
theorem gf_X11_3 {K : Nat} {M : Mem} (C : Cx T D p s m args c cc nL own) (hP : Pw EC T D ad (69 + K) M H) (hlink : Cond.fieldLink own index "OneOfTwo" "trace" "LOneOfTwo$Row;" ∈ TB) (hdg : decode cc pc = .ok (.getfield index, 3)) (kk : W p l e R s m args below meth c H locs cells slots QQ (F0 m (pc + 3) ls (.ref (ad 5) :: rest))) : W p l e R s m args below meth c H locs cells slots QQ (F0 m pc ls (.ref (ad 0) :: rest)) :=
  f_get in_X11 (ci := 11) rfl C hP oO 3 (by decide) rfl rfl hlink hdg kk
theorem gf_X11_4 {K : Nat} {M : Mem} (C : Cx T D p s m args c cc nL own) (hP : Pw EC T D ad (69 + K) M H) (hlink : Cond.fieldLink own index "OneOfTwo" "answered" "[I" ∈ TB) (hdg : decode cc pc = .ok (.getfield index, 3)) (kk : W p l e R s m args below meth c H locs cells slots QQ (F0 m (pc + 3) ls (.ref (ad 4) :: rest))) : W p l e R s m args below meth c H locs cells slots QQ (F0 m pc ls (.ref (ad 0) :: rest)) :=
  f_get in_X11 (ci := 11) rfl C hP oO 4 (by decide) rfl rfl hlink hdg kk
theorem gf_X11_5 {K : Nat} {M : Mem} (C : Cx T D p s m args c cc nL own) (hP : Pw EC T D ad (69 + K) M H) (hlink : Cond.fieldLink own index "OneOfTwo" "house" "LOneOfTwo$House;" ∈ TB) (hdg : decode cc pc = .ok (.getfield index, 3)) (kk : W p l e R s m args below meth c H locs cells slots QQ (F0 m (pc + 3) ls (.ref (ad 30) :: rest))) : W p l e R s m args below meth c H locs cells slots QQ (F0 m pc ls (.ref (ad 0) :: rest)) :=
  f_get in_X11 (ci := 11) rfl C hP oO 5 (by decide) rfl rfl hlink hdg kk
theorem gf_X11_6 {K : Nat} {M : Mem} (C : Cx T D p s m args c cc nL own) (hP : Pw EC T D ad (69 + K) M H) (hlink : Cond.fieldLink own index "OneOfTwo" "aside" "LOneOfTwo$House;" ∈ TB) (hdg : decode cc pc = .ok (.getfield index, 3)) (kk : W p l e R s m args below meth c H locs cells slots QQ (F0 m (pc + 3) ls (.ref (ad 43) :: rest))) : W p l e R s m args below meth c H locs cells slots QQ (F0 m pc ls (.ref (ad 0) :: rest)) :=
  f_get in_X11 (ci := 11) rfl C hP oO 6 (by decide) rfl rfl hlink hdg kk
theorem gf_X11_7 {K : Nat} {M : Mem} (C : Cx T D p s m args c cc nL own) (hP : Pw EC T D ad (69 + K) M H) (hlink : Cond.fieldLink own index "OneOfTwo" "kept" "LOneOfTwo$House;" ∈ TB) (hdg : decode cc pc = .ok (.getfield index, 3)) (kk : W p l e R s m args below meth c H locs cells slots QQ (F0 m (pc + 3) ls (.ref (ad 56) :: rest))) : W p l e R s m args below meth c H locs cells slots QQ (F0 m pc ls (.ref (ad 0) :: rest)) :=
  f_get in_X11 (ci := 11) rfl C hP oO 7 (by decide) rfl rfl hlink hdg kk
theorem gf_X11_8 {K : Nat} {M : Mem} (C : Cx T D p s m args c cc nL own) (hP : Pw EC T D ad (69 + K) M H) (hlink : Cond.fieldLink own index "OneOfTwo" "search" "LOneOfTwo$Search;" ∈ TB) (hdg : decode cc pc = .ok (.getfield index, 3)) (kk : W p l e R s m args below meth c H locs cells slots QQ (F0 m (pc + 3) ls (.ref (ad 7) :: rest))) : W p l e R s m args below meth c H locs cells slots QQ (F0 m pc ls (.ref (ad 0) :: rest)) :=
  f_get in_X11 (ci := 11) rfl C hP oO 8 (by decide) rfl rfl hlink hdg kk
theorem gf_X11_9 {K : Nat} {M : Mem} (C : Cx T D p s m args c cc nL own) (hP : Pw EC T D ad (69 + K) M H) (hlink : Cond.fieldLink own index "OneOfTwo" "images" "I" ∈ TB) (hdg : decode cc pc = .ok (.getfield index, 3)) (kk : W p l e R s m args below meth c H locs cells slots QQ (F0 m (pc + 3) ls (.int (M 0 9) :: rest))) : W p l e R s m args below meth c H locs cells slots QQ (F0 m pc ls (.ref (ad 0) :: rest)) :=
  f_get in_X11 (ci := 11) rfl C hP oO 9 (by decide) rfl rfl hlink hdg kk
theorem pf_X11_9 {K : Nat} {M : Mem} {v : Int32} (C : Cx T D p s m args c cc nL own) (Z : Zz EC T D ad (69 + K) A H0 M H locs) (hlink : Cond.fieldLink own index "OneOfTwo" "images" "I" ∈ TB) (hdg : decode cc pc = .ok (.putfield index, 3)) (kk : ∀ (M1 : Mem) (H1 : Heap) (locs1 : List Loc), M1 = sf M 0 9 v → Zz EC T D ad (69 + K) A H0 M1 H1 locs1 → W p l e R s m args below meth c H1 locs1 cells slots QQ (F0 m (pc + 3) ls rest)) : W p l e R s m args below meth c H locs cells slots QQ (F0 m pc ls (.int v :: .ref (ad 0) :: rest)) :=
  f_put in_X11 tyX11_ok nmX11 (ci := 11) rfl C Z oO 9 (by decide) rfl (Nat.le_of_ble_eq_true rfl) rfl rfl (ty := .int) rfl rfl rfl hlink hdg kk
theorem gf_X11_10 {K : Nat} {M : Mem} (C : Cx T D p s m args c cc nL own) (hP : Pw EC T D ad (69 + K) M H) (hlink : Cond.fieldLink own index "OneOfTwo" "texts" "I" ∈ TB) (hdg : decode cc pc = .ok (.getfield index, 3)) (kk : W p l e R s m args below meth c H locs cells slots QQ (F0 m (pc + 3) ls (.int (M 0 10) :: rest))) : W p l e R s m args below meth c H locs cells slots QQ (F0 m pc ls (.ref (ad 0) :: rest)) :=
  f_get in_X11 (ci := 11) rfl C hP oO 10 (by decide) rfl rfl hlink hdg kk
theorem pf_X11_10 {K : Nat} {M : Mem} {v : Int32} (C : Cx T D p s m args c cc nL own) (Z : Zz EC T D ad (69 + K) A H0 M H locs) (hlink : Cond.fieldLink own index "OneOfTwo" "texts" "I" ∈ TB) (hdg : decode cc pc = .ok (.putfield index, 3)) (kk : ∀ (M1 : Mem) (H1 : Heap) (locs1 : List Loc), M1 = sf M 0 10 v → Zz EC T D ad (69 + K) A H0 M1 H1 locs1 → W p l e R s m args below meth c H1 locs1 cells slots QQ (F0 m (pc + 3) ls rest)) : W p l e R s m args below meth c H locs cells slots QQ (F0 m pc ls (.int v :: .ref (ad 0) :: rest)) :=
  f_put in_X11 tyX11_ok nmX11 (ci := 11) rfl C Z oO 10 (by decide) rfl (Nat.le_of_ble_eq_true rfl) rfl rfl (ty := .int) rfl rfl rfl hlink hdg kk
theorem gf_X5_0 {K : Nat} {M : Mem} (C : Cx T D p s m args c cc nL own) (hP : Pw EC T D ad (69 + K) M H) (hlink : Cond.fieldLink own index "OneOfTwo$Search" "house" "LOneOfTwo$House;" ∈ TB) (hdg : decode cc pc = .ok (.getfield index, 3)) (kk : W p l e R s m args below meth c H locs cells slots QQ (F0 m (pc + 3) ls (.ref (ad 30) :: rest))) : W p l e R s m args below meth c H locs cells slots QQ (F0 m pc ls (.ref (ad 7) :: rest)) :=
  f_get in_X5 (ci := 5) rfl C hP oS 0 (by decide) rfl rfl hlink hdg kk
theorem gf_X5_1 {K : Nat} {M : Mem} (C : Cx T D p s m args c cc nL own) (hP : Pw EC T D ad (69 + K) M H) (hlink : Cond.fieldLink own index "OneOfTwo$Search" "row" "[I" ∈ TB) (hdg : decode cc pc = .ok (.getfield index, 3)) (kk : W p l e R s m args below meth c H locs cells slots QQ (F0 m (pc + 3) ls (.ref (ad 8) :: rest))) : W p l e R s m args below meth c H locs cells slots QQ (F0 m pc ls (.ref (ad 7) :: rest)) :=
  f_get in_X5 (ci := 5) rfl C hP oS 1 (by decide) rfl rfl hlink hdg kk
theorem gf_X5_2 {K : Nat} {M : Mem} (C : Cx T D p s m args c cc nL own) (hP : Pw EC T D ad (69 + K) M H) (hlink : Cond.fieldLink own index "OneOfTwo$Search" "roomOpen" "[I" ∈ TB) (hdg : decode cc pc = .ok (.getfield index, 3)) (kk : W p l e R s m args below meth c H locs cells slots QQ (F0 m (pc + 3) ls (.ref (ad 9) :: rest))) : W p l e R s m args below meth c H locs cells slots QQ (F0 m pc ls (.ref (ad 7) :: rest)) :=
  f_get in_X5 (ci := 5) rfl C hP oS 2 (by decide) rfl rfl hlink hdg kk
theorem gf_X5_3 {K : Nat} {M : Mem} (C : Cx T D p s m args c cc nL own) (hP : Pw EC T D ad (69 + K) M H) (hlink : Cond.fieldLink own index "OneOfTwo$Search" "cordRest" "[I" ∈ TB) (hdg : decode cc pc = .ok (.getfield index, 3)) (kk : W p l e R s m args below meth c H locs cells slots QQ (F0 m (pc + 3) ls (.ref (ad 10) :: rest))) : W p l e R s m args below meth c H locs cells slots QQ (F0 m pc ls (.ref (ad 7) :: rest)) :=
  f_get in_X5 (ci := 5) rfl C hP oS 3 (by decide) rfl rfl hlink hdg kk
theorem gf_X5_4 {K : Nat} {M : Mem} (C : Cx T D p s m args c cc nL own) (hP : Pw EC T D ad (69 + K) M H) (hlink : Cond.fieldLink own index "OneOfTwo$Search" "cordLeft" "[I" ∈ TB) (hdg : decode cc pc = .ok (.getfield index, 3)) (kk : W p l e R s m args below meth c H locs cells slots QQ (F0 m (pc + 3) ls (.ref (ad 11) :: rest))) : W p l e R s m args below meth c H locs cells slots QQ (F0 m pc ls (.ref (ad 7) :: rest)) :=
  f_get in_X5 (ci := 5) rfl C hP oS 4 (by decide) rfl rfl hlink hdg kk
theorem gf_X5_5 {K : Nat} {M : Mem} (C : Cx T D p s m args c cc nL own) (hP : Pw EC T D ad (69 + K) M H) (hlink : Cond.fieldLink own index "OneOfTwo$Search" "cordLast" "[I" ∈ TB) (hdg : decode cc pc = .ok (.getfield index, 3)) (kk : W p l e R s m args below meth c H locs cells slots QQ (F0 m (pc + 3) ls (.ref (ad 12) :: rest))) : W p l e R s m args below meth c H locs cells slots QQ (F0 m pc ls (.ref (ad 7) :: rest)) :=
  f_get in_X5 (ci := 5) rfl C hP oS 5 (by decide) rfl rfl hlink hdg kk
theorem gf_X5_6 {K : Nat} {M : Mem} (C : Cx T D p s m args c cc nL own) (hP : Pw EC T D ad (69 + K) M H) (hlink : Cond.fieldLink own index "OneOfTwo$Search" "settled" "[I" ∈ TB) (hdg : decode cc pc = .ok (.getfield index, 3)) (kk : W p l e R s m args below meth c H locs cells slots QQ (F0 m (pc + 3) ls (.ref (ad 13) :: rest))) : W p l e R s m args below meth c H locs cells slots QQ (F0 m pc ls (.ref (ad 7) :: rest)) :=
  f_get in_X5 (ci := 5) rfl C hP oS 6 (by decide) rfl rfl hlink hdg kk
theorem gf_X5_7 {K : Nat} {M : Mem} (C : Cx T D p s m args c cc nL own) (hP : Pw EC T D ad (69 + K) M H) (hlink : Cond.fieldLink own index "OneOfTwo$Search" "best" "[I" ∈ TB) (hdg : decode cc pc = .ok (.getfield index, 3)) (kk : W p l e R s m args below meth c H locs cells slots QQ (F0 m (pc + 3) ls (.ref (ad 14) :: rest))) : W p l e R s m args below meth c H locs cells slots QQ (F0 m pc ls (.ref (ad 7) :: rest)) :=
  f_get in_X5 (ci := 5) rfl C hP oS 7 (by decide) rfl rfl hlink hdg kk
theorem gf_X5_8 {K : Nat} {M : Mem} (C : Cx T D p s m args c cc nL own) (hP : Pw EC T D ad (69 + K) M H) (hlink : Cond.fieldLink own index "OneOfTwo$Search" "bestContent" "I" ∈ TB) (hdg : decode cc pc = .ok (.getfield index, 3)) (kk : W p l e R s m args below meth c H locs cells slots QQ (F0 m (pc + 3) ls (.int (M 7 8) :: rest))) : W p l e R s m args below meth c H locs cells slots QQ (F0 m pc ls (.ref (ad 7) :: rest)) :=
  f_get in_X5 (ci := 5) rfl C hP oS 8 (by decide) rfl rfl hlink hdg kk
theorem pf_X5_8 {K : Nat} {M : Mem} {v : Int32} (C : Cx T D p s m args c cc nL own) (Z : Zz EC T D ad (69 + K) A H0 M H locs) (hlink : Cond.fieldLink own index "OneOfTwo$Search" "bestContent" "I" ∈ TB) (hdg : decode cc pc = .ok (.putfield index, 3)) (kk : ∀ (M1 : Mem) (H1 : Heap) (locs1 : List Loc), M1 = sf M 7 8 v → Zz EC T D ad (69 + K) A H0 M1 H1 locs1 → W p l e R s m args below meth c H1 locs1 cells slots QQ (F0 m (pc + 3) ls rest)) : W p l e R s m args below meth c H locs cells slots QQ (F0 m pc ls (.int v :: .ref (ad 7) :: rest)) :=
  f_put in_X5 tyX5_ok nmX5 (ci := 5) rfl C Z oS 8 (by decide) rfl (Nat.le_of_ble_eq_true rfl) rfl rfl (ty := .int) rfl rfl rfl hlink hdg kk
theorem gf_X5_9 {K : Nat} {M : Mem} (C : Cx T D p s m args c cc nL own) (hP : Pw EC T D ad (69 + K) M H) (hlink : Cond.fieldLink own index "OneOfTwo$Search" "bestPulls" "I" ∈ TB) (hdg : decode cc pc = .ok (.getfield index, 3)) (kk : W p l e R s m args below meth c H locs cells slots QQ (F0 m (pc + 3) ls (.int (M 7 9) :: rest))) : W p l e R s m args below meth c H locs cells slots QQ (F0 m pc ls (.ref (ad 7) :: rest)) :=
  f_get in_X5 (ci := 5) rfl C hP oS 9 (by decide) rfl rfl hlink hdg kk
theorem pf_X5_9 {K : Nat} {M : Mem} {v : Int32} (C : Cx T D p s m args c cc nL own) (Z : Zz EC T D ad (69 + K) A H0 M H locs) (hlink : Cond.fieldLink own index "OneOfTwo$Search" "bestPulls" "I" ∈ TB) (hdg : decode cc pc = .ok (.putfield index, 3)) (kk : ∀ (M1 : Mem) (H1 : Heap) (locs1 : List Loc), M1 = sf M 7 9 v → Zz EC T D ad (69 + K) A H0 M1 H1 locs1 → W p l e R s m args below meth c H1 locs1 cells slots QQ (F0 m (pc + 3) ls rest)) : W p l e R s m args below meth c H locs cells slots QQ (F0 m pc ls (.int v :: .ref (ad 7) :: rest)) :=
  f_put in_X5 tyX5_ok nmX5 (ci := 5) rfl C Z oS 9 (by decide) rfl (Nat.le_of_ble_eq_true rfl) rfl rfl (ty := .int) rfl rfl rfl hlink hdg kk
theorem gf_X2_0 {K g : Nat} {M : Mem} (C : Cx T D p s m args c cc nL own) (hP : Pw EC T D ad (69 + K) M H) (hg : isH g) (hlink : Cond.fieldLink own index "OneOfTwo$House" "windows" "I" ∈ TB) (hdg : decode cc pc = .ok (.getfield index, 3)) (kk : W p l e R s m args below meth c H locs cells slots QQ (F0 m (pc + 3) ls (.int (M g 0) :: rest))) : W p l e R s m args below meth c H locs cells slots QQ (F0 m pc ls (.ref (ad g) :: rest)) :=
  f_get in_X2 (ci := 2) rfl C hP (oH hg) 0 (by decide) rfl rfl hlink hdg kk
theorem pf_X2_0 {K g : Nat} {M : Mem} {v : Int32} (C : Cx T D p s m args c cc nL own) (Z : Zz EC T D ad (69 + K) A H0 M H locs) (hg : isH g) (hlink : Cond.fieldLink own index "OneOfTwo$House" "windows" "I" ∈ TB) (hdg : decode cc pc = .ok (.putfield index, 3)) (kk : ∀ (M1 : Mem) (H1 : Heap) (locs1 : List Loc), M1 = sf M g 0 v → Zz EC T D ad (69 + K) A H0 M1 H1 locs1 → W p l e R s m args below meth c H1 locs1 cells slots QQ (F0 m (pc + 3) ls rest)) : W p l e R s m args below meth c H locs cells slots QQ (F0 m pc ls (.int v :: .ref (ad g) :: rest)) :=
  f_put in_X2 tyX2_ok nmX2 (ci := 2) rfl C Z (oH hg) 0 (by decide) rfl (Nat.le_of_ble_eq_true rfl) rfl rfl (ty := .int) rfl rfl rfl hlink hdg kk
theorem gf_X2_1 {K g : Nat} {M : Mem} (C : Cx T D p s m args c cc nL own) (hP : Pw EC T D ad (69 + K) M H) (hg : isH g) (hlink : Cond.fieldLink own index "OneOfTwo$House" "cords" "I" ∈ TB) (hdg : decode cc pc = .ok (.getfield index, 3)) (kk : W p l e R s m args below meth c H locs cells slots QQ (F0 m (pc + 3) ls (.int (M g 1) :: rest))) : W p l e R s m args below meth c H locs cells slots QQ (F0 m pc ls (.ref (ad g) :: rest)) :=
  f_get in_X2 (ci := 2) rfl C hP (oH hg) 1 (by decide) rfl rfl hlink hdg kk
theorem pf_X2_1 {K g : Nat} {M : Mem} {v : Int32} (C : Cx T D p s m args c cc nL own) (Z : Zz EC T D ad (69 + K) A H0 M H locs) (hg : isH g) (hlink : Cond.fieldLink own index "OneOfTwo$House" "cords" "I" ∈ TB) (hdg : decode cc pc = .ok (.putfield index, 3)) (kk : ∀ (M1 : Mem) (H1 : Heap) (locs1 : List Loc), M1 = sf M g 1 v → Zz EC T D ad (69 + K) A H0 M1 H1 locs1 → W p l e R s m args below meth c H1 locs1 cells slots QQ (F0 m (pc + 3) ls rest)) : W p l e R s m args below meth c H locs cells slots QQ (F0 m pc ls (.int v :: .ref (ad g) :: rest)) :=
  f_put in_X2 tyX2_ok nmX2 (ci := 2) rfl C Z (oH hg) 1 (by decide) rfl (Nat.le_of_ble_eq_true rfl) rfl rfl (ty := .int) rfl rfl rfl hlink hdg kk
theorem gf_X2_2 {K g : Nat} {M : Mem} (C : Cx T D p s m args c cc nL own) (hP : Pw EC T D ad (69 + K) M H) (hg : isH g) (hlink : Cond.fieldLink own index "OneOfTwo$House" "lodgers" "I" ∈ TB) (hdg : decode cc pc = .ok (.getfield index, 3)) (kk : W p l e R s m args below meth c H locs cells slots QQ (F0 m (pc + 3) ls (.int (M g 2) :: rest))) : W p l e R s m args below meth c H locs cells slots QQ (F0 m pc ls (.ref (ad g) :: rest)) :=
  f_get in_X2 (ci := 2) rfl C hP (oH hg) 2 (by decide) rfl rfl hlink hdg kk
theorem pf_X2_2 {K g : Nat} {M : Mem} {v : Int32} (C : Cx T D p s m args c cc nL own) (Z : Zz EC T D ad (69 + K) A H0 M H locs) (hg : isH g) (hlink : Cond.fieldLink own index "OneOfTwo$House" "lodgers" "I" ∈ TB) (hdg : decode cc pc = .ok (.putfield index, 3)) (kk : ∀ (M1 : Mem) (H1 : Heap) (locs1 : List Loc), M1 = sf M g 2 v → Zz EC T D ad (69 + K) A H0 M1 H1 locs1 → W p l e R s m args below meth c H1 locs1 cells slots QQ (F0 m (pc + 3) ls rest)) : W p l e R s m args below meth c H locs cells slots QQ (F0 m pc ls (.int v :: .ref (ad g) :: rest)) :=
  f_put in_X2 tyX2_ok nmX2 (ci := 2) rfl C Z (oH hg) 2 (by decide) rfl (Nat.le_of_ble_eq_true rfl) rfl rfl (ty := .int) rfl rfl rfl hlink hdg kk
theorem gf_X2_3 {K g : Nat} {M : Mem} (C : Cx T D p s m args c cc nL own) (hP : Pw EC T D ad (69 + K) M H) (hg : isH g) (hlink : Cond.fieldLink own index "OneOfTwo$House" "room" "[I" ∈ TB) (hdg : decode cc pc = .ok (.getfield index, 3)) (kk : W p l e R s m args below meth c H locs cells slots QQ (F0 m (pc + 3) ls (.ref (ad (g + 1)) :: rest))) : W p l e R s m args below meth c H locs cells slots QQ (F0 m pc ls (.ref (ad g) :: rest)) :=
  f_get in_X2 (ci := 2) rfl C hP (oH hg) 3 (by decide) rfl rfl hlink hdg kk
theorem gf_X2_4 {K g : Nat} {M : Mem} (C : Cx T D p s m args c cc nL own) (hP : Pw EC T D ad (69 + K) M H) (hg : isH g) (hlink : Cond.fieldLink own index "OneOfTwo$House" "open" "[I" ∈ TB) (hdg : decode cc pc = .ok (.getfield index, 3)) (kk : W p l e R s m args below meth c H locs cells slots QQ (F0 m (pc + 3) ls (.ref (ad (g + 2)) :: rest))) : W p l e R s m args below meth c H locs cells slots QQ (F0 m pc ls (.ref (ad g) :: rest)) :=
  f_get in_X2 (ci := 2) rfl C hP (oH hg) 4 (by decide) rfl rfl hlink hdg kk
theorem gf_X2_5 {K g : Nat} {M : Mem} (C : Cx T D p s m args c cc nL own) (hP : Pw EC T D ad (69 + K) M H) (hg : isH g) (hlink : Cond.fieldLink own index "OneOfTwo$House" "cordOf" "[I" ∈ TB) (hdg : decode cc pc = .ok (.getfield index, 3)) (kk : W p l e R s m args below meth c H locs cells slots QQ (F0 m (pc + 3) ls (.ref (ad (g + 3)) :: rest))) : W p l e R s m args below meth c H locs cells slots QQ (F0 m pc ls (.ref (ad g) :: rest)) :=
  f_get in_X2 (ci := 2) rfl C hP (oH hg) 5 (by decide) rfl rfl hlink hdg kk
theorem gf_X2_6 {K g : Nat} {M : Mem} (C : Cx T D p s m args c cc nL own) (hP : Pw EC T D ad (69 + K) M H) (hg : isH g) (hlink : Cond.fieldLink own index "OneOfTwo$House" "swollen" "[I" ∈ TB) (hdg : decode cc pc = .ok (.getfield index, 3)) (kk : W p l e R s m args below meth c H locs cells slots QQ (F0 m (pc + 3) ls (.ref (ad (g + 4)) :: rest))) : W p l e R s m args below meth c H locs cells slots QQ (F0 m pc ls (.ref (ad g) :: rest)) :=
  f_get in_X2 (ci := 2) rfl C hP (oH hg) 6 (by decide) rfl rfl hlink hdg kk
theorem gf_X2_7 {K g : Nat} {M : Mem} (C : Cx T D p s m args c cc nL own) (hP : Pw EC T D ad (69 + K) M H) (hg : isH g) (hlink : Cond.fieldLink own index "OneOfTwo$House" "kind" "[LOneOfTwo$Lodger;" ∈ TB) (hdg : decode cc pc = .ok (.getfield index, 3)) (kk : W p l e R s m args below meth c H locs cells slots QQ (F0 m (pc + 3) ls (.ref (ad (g + 5)) :: rest))) : W p l e R s m args below meth c H locs cells slots QQ (F0 m pc ls (.ref (ad g) :: rest)) :=
  f_get in_X2 (ci := 2) rfl C hP (oH hg) 7 (by decide) rfl rfl hlink hdg kk
theorem gf_X2_8 {K g : Nat} {M : Mem} (C : Cx T D p s m args c cc nL own) (hP : Pw EC T D ad (69 + K) M H) (hg : isH g) (hlink : Cond.fieldLink own index "OneOfTwo$House" "m" "[I" ∈ TB) (hdg : decode cc pc = .ok (.getfield index, 3)) (kk : W p l e R s m args below meth c H locs cells slots QQ (F0 m (pc + 3) ls (.ref (ad (g + 6)) :: rest))) : W p l e R s m args below meth c H locs cells slots QQ (F0 m pc ls (.ref (ad g) :: rest)) :=
  f_get in_X2 (ci := 2) rfl C hP (oH hg) 8 (by decide) rfl rfl hlink hdg kk
theorem gf_X2_9 {K g : Nat} {M : Mem} (C : Cx T D p s m args c cc nL own) (hP : Pw EC T D ad (69 + K) M H) (hg : isH g) (hlink : Cond.fieldLink own index "OneOfTwo$House" "at" "[I" ∈ TB) (hdg : decode cc pc = .ok (.getfield index, 3)) (kk : W p l e R s m args below meth c H locs cells slots QQ (F0 m (pc + 3) ls (.ref (ad (g + 7)) :: rest))) : W p l e R s m args below meth c H locs cells slots QQ (F0 m pc ls (.ref (ad g) :: rest)) :=
  f_get in_X2 (ci := 2) rfl C hP (oH hg) 9 (by decide) rfl rfl hlink hdg kk
theorem gf_X2_10 {K g : Nat} {M : Mem} (C : Cx T D p s m args c cc nL own) (hP : Pw EC T D ad (69 + K) M H) (hg : isH g) (hlink : Cond.fieldLink own index "OneOfTwo$House" "hour" "I" ∈ TB) (hdg : decode cc pc = .ok (.getfield index, 3)) (kk : W p l e R s m args below meth c H locs cells slots QQ (F0 m (pc + 3) ls (.int (M g 10) :: rest))) : W p l e R s m args below meth c H locs cells slots QQ (F0 m pc ls (.ref (ad g) :: rest)) :=
  f_get in_X2 (ci := 2) rfl C hP (oH hg) 10 (by decide) rfl rfl hlink hdg kk
theorem pf_X2_10 {K g : Nat} {M : Mem} {v : Int32} (C : Cx T D p s m args c cc nL own) (Z : Zz EC T D ad (69 + K) A H0 M H locs) (hg : isH g) (hlink : Cond.fieldLink own index "OneOfTwo$House" "hour" "I" ∈ TB) (hdg : decode cc pc = .ok (.putfield index, 3)) (kk : ∀ (M1 : Mem) (H1 : Heap) (locs1 : List Loc), M1 = sf M g 10 v → Zz EC T D ad (69 + K) A H0 M1 H1 locs1 → W p l e R s m args below meth c H1 locs1 cells slots QQ (F0 m (pc + 3) ls rest)) : W p l e R s m args below meth c H locs cells slots QQ (F0 m pc ls (.int v :: .ref (ad g) :: rest)) :=
  f_put in_X2 tyX2_ok nmX2 (ci := 2) rfl C Z (oH hg) 10 (by decide) rfl (Nat.le_of_ble_eq_true rfl) rfl rfl (ty := .int) rfl rfl rfl hlink hdg kk
theorem gf_X2_11 {K g : Nat} {M : Mem} (C : Cx T D p s m args c cc nL own) (hP : Pw EC T D ad (69 + K) M H) (hg : isH g) (hlink : Cond.fieldLink own index "OneOfTwo$House" "day" "I" ∈ TB) (hdg : decode cc pc = .ok (.getfield index, 3)) (kk : W p l e R s m args below meth c H locs cells slots QQ (F0 m (pc + 3) ls (.int (M g 11) :: rest))) : W p l e R s m args below meth c H locs cells slots QQ (F0 m pc ls (.ref (ad g) :: rest)) :=
  f_get in_X2 (ci := 2) rfl C hP (oH hg) 11 (by decide) rfl rfl hlink hdg kk
theorem pf_X2_11 {K g : Nat} {M : Mem} {v : Int32} (C : Cx T D p s m args c cc nL own) (Z : Zz EC T D ad (69 + K) A H0 M H locs) (hg : isH g) (hlink : Cond.fieldLink own index "OneOfTwo$House" "day" "I" ∈ TB) (hdg : decode cc pc = .ok (.putfield index, 3)) (kk : ∀ (M1 : Mem) (H1 : Heap) (locs1 : List Loc), M1 = sf M g 11 v → Zz EC T D ad (69 + K) A H0 M1 H1 locs1 → W p l e R s m args below meth c H1 locs1 cells slots QQ (F0 m (pc + 3) ls rest)) : W p l e R s m args below meth c H locs cells slots QQ (F0 m pc ls (.int v :: .ref (ad g) :: rest)) :=
  f_put in_X2 tyX2_ok nmX2 (ci := 2) rfl C Z (oH hg) 11 (by decide) rfl (Nat.le_of_ble_eq_true rfl) rfl rfl (ty := .int) rfl rfl rfl hlink hdg kk
theorem gf_X2_12 {K g : Nat} {M : Mem} (C : Cx T D p s m args c cc nL own) (hP : Pw EC T D ad (69 + K) M H) (hg : isH g) (hlink : Cond.fieldLink own index "OneOfTwo$House" "quiet" "I" ∈ TB) (hdg : decode cc pc = .ok (.getfield index, 3)) (kk : W p l e R s m args below meth c H locs cells slots QQ (F0 m (pc + 3) ls (.int (M g 12) :: rest))) : W p l e R s m args below meth c H locs cells slots QQ (F0 m pc ls (.ref (ad g) :: rest)) :=
  f_get in_X2 (ci := 2) rfl C hP (oH hg) 12 (by decide) rfl rfl hlink hdg kk
theorem pf_X2_12 {K g : Nat} {M : Mem} {v : Int32} (C : Cx T D p s m args c cc nL own) (Z : Zz EC T D ad (69 + K) A H0 M H locs) (hg : isH g) (hlink : Cond.fieldLink own index "OneOfTwo$House" "quiet" "I" ∈ TB) (hdg : decode cc pc = .ok (.putfield index, 3)) (kk : ∀ (M1 : Mem) (H1 : Heap) (locs1 : List Loc), M1 = sf M g 12 v → Zz EC T D ad (69 + K) A H0 M1 H1 locs1 → W p l e R s m args below meth c H1 locs1 cells slots QQ (F0 m (pc + 3) ls rest)) : W p l e R s m args below meth c H locs cells slots QQ (F0 m pc ls (.int v :: .ref (ad g) :: rest)) :=
  f_put in_X2 tyX2_ok nmX2 (ci := 2) rfl C Z (oH hg) 12 (by decide) rfl (Nat.le_of_ble_eq_true rfl) rfl rfl (ty := .int) rfl rfl rfl hlink hdg kk
theorem gf_X2_13 {K g : Nat} {M : Mem} (C : Cx T D p s m args c cc nL own) (hP : Pw EC T D ad (69 + K) M H) (hg : isH g) (hlink : Cond.fieldLink own index "OneOfTwo$House" "lockFrom" "I" ∈ TB) (hdg : decode cc pc = .ok (.getfield index, 3)) (kk : W p l e R s m args below meth c H locs cells slots QQ (F0 m (pc + 3) ls (.int (M g 13) :: rest))) : W p l e R s m args below meth c H locs cells slots QQ (F0 m pc ls (.ref (ad g) :: rest)) :=
  f_get in_X2 (ci := 2) rfl C hP (oH hg) 13 (by decide) rfl rfl hlink hdg kk
theorem pf_X2_13 {K g : Nat} {M : Mem} {v : Int32} (C : Cx T D p s m args c cc nL own) (Z : Zz EC T D ad (69 + K) A H0 M H locs) (hg : isH g) (hlink : Cond.fieldLink own index "OneOfTwo$House" "lockFrom" "I" ∈ TB) (hdg : decode cc pc = .ok (.putfield index, 3)) (kk : ∀ (M1 : Mem) (H1 : Heap) (locs1 : List Loc), M1 = sf M g 13 v → Zz EC T D ad (69 + K) A H0 M1 H1 locs1 → W p l e R s m args below meth c H1 locs1 cells slots QQ (F0 m (pc + 3) ls rest)) : W p l e R s m args below meth c H locs cells slots QQ (F0 m pc ls (.int v :: .ref (ad g) :: rest)) :=
  f_put in_X2 tyX2_ok nmX2 (ci := 2) rfl C Z (oH hg) 13 (by decide) rfl (Nat.le_of_ble_eq_true rfl) rfl rfl (ty := .int) rfl rfl rfl hlink hdg kk
theorem gf_X2_14 {K g : Nat} {M : Mem} (C : Cx T D p s m args c cc nL own) (hP : Pw EC T D ad (69 + K) M H) (hg : isH g) (hlink : Cond.fieldLink own index "OneOfTwo$House" "lockTo" "I" ∈ TB) (hdg : decode cc pc = .ok (.getfield index, 3)) (kk : W p l e R s m args below meth c H locs cells slots QQ (F0 m (pc + 3) ls (.int (M g 14) :: rest))) : W p l e R s m args below meth c H locs cells slots QQ (F0 m pc ls (.ref (ad g) :: rest)) :=
  f_get in_X2 (ci := 2) rfl C hP (oH hg) 14 (by decide) rfl rfl hlink hdg kk
theorem pf_X2_14 {K g : Nat} {M : Mem} {v : Int32} (C : Cx T D p s m args c cc nL own) (Z : Zz EC T D ad (69 + K) A H0 M H locs) (hg : isH g) (hlink : Cond.fieldLink own index "OneOfTwo$House" "lockTo" "I" ∈ TB) (hdg : decode cc pc = .ok (.putfield index, 3)) (kk : ∀ (M1 : Mem) (H1 : Heap) (locs1 : List Loc), M1 = sf M g 14 v → Zz EC T D ad (69 + K) A H0 M1 H1 locs1 → W p l e R s m args below meth c H1 locs1 cells slots QQ (F0 m (pc + 3) ls rest)) : W p l e R s m args below meth c H locs cells slots QQ (F0 m pc ls (.int v :: .ref (ad g) :: rest)) :=
  f_put in_X2 tyX2_ok nmX2 (ci := 2) rfl C Z (oH hg) 14 (by decide) rfl (Nat.le_of_ble_eq_true rfl) rfl rfl (ty := .int) rfl rfl rfl hlink hdg kk
theorem gf_X2_15 {K g : Nat} {M : Mem} (C : Cx T D p s m args c cc nL own) (hP : Pw EC T D ad (69 + K) M H) (hg : isH g) (hlink : Cond.fieldLink own index "OneOfTwo$House" "z" "I" ∈ TB) (hdg : decode cc pc = .ok (.getfield index, 3)) (kk : W p l e R s m args below meth c H locs cells slots QQ (F0 m (pc + 3) ls (.int (M g 15) :: rest))) : W p l e R s m args below meth c H locs cells slots QQ (F0 m pc ls (.ref (ad g) :: rest)) :=
  f_get in_X2 (ci := 2) rfl C hP (oH hg) 15 (by decide) rfl rfl hlink hdg kk
theorem pf_X2_15 {K g : Nat} {M : Mem} {v : Int32} (C : Cx T D p s m args c cc nL own) (Z : Zz EC T D ad (69 + K) A H0 M H locs) (hg : isH g) (hlink : Cond.fieldLink own index "OneOfTwo$House" "z" "I" ∈ TB) (hdg : decode cc pc = .ok (.putfield index, 3)) (kk : ∀ (M1 : Mem) (H1 : Heap) (locs1 : List Loc), M1 = sf M g 15 v → Zz EC T D ad (69 + K) A H0 M1 H1 locs1 → W p l e R s m args below meth c H1 locs1 cells slots QQ (F0 m (pc + 3) ls rest)) : W p l e R s m args below meth c H locs cells slots QQ (F0 m pc ls (.int v :: .ref (ad g) :: rest)) :=
  f_put in_X2 tyX2_ok nmX2 (ci := 2) rfl C Z (oH hg) 15 (by decide) rfl (Nat.le_of_ble_eq_true rfl) rfl rfl (ty := .int) rfl rfl rfl hlink hdg kk
theorem gf_X2_16 {K g : Nat} {M : Mem} (C : Cx T D p s m args c cc nL own) (hP : Pw EC T D ad (69 + K) M H) (hg : isH g) (hlink : Cond.fieldLink own index "OneOfTwo$House" "tape" "LOneOfTwo$Row;" ∈ TB) (hdg : decode cc pc = .ok (.getfield index, 3)) (kk : W p l e R s m args below meth c H locs cells slots QQ (F0 m (pc + 3) ls (.ref (ad (g + 8)) :: rest))) : W p l e R s m args below meth c H locs cells slots QQ (F0 m pc ls (.ref (ad g) :: rest)) :=
  f_get in_X2 (ci := 2) rfl C hP (oH hg) 16 (by decide) rfl rfl hlink hdg kk
theorem gf_X2_17 {K g : Nat} {M : Mem} (C : Cx T D p s m args c cc nL own) (hP : Pw EC T D ad (69 + K) M H) (hg : isH g) (hlink : Cond.fieldLink own index "OneOfTwo$House" "waiting" "LOneOfTwo$Row;" ∈ TB) (hdg : decode cc pc = .ok (.getfield index, 3)) (kk : W p l e R s m args below meth c H locs cells slots QQ (F0 m (pc + 3) ls (.ref (ad (g + 10)) :: rest))) : W p l e R s m args below meth c H locs cells slots QQ (F0 m pc ls (.ref (ad g) :: rest)) :=
  f_get in_X2 (ci := 2) rfl C hP (oH hg) 17 (by decide) rfl rfl hlink hdg kk
theorem gf_X2_18 {K g : Nat} {M : Mem} (C : Cx T D p s m args c cc nL own) (hP : Pw EC T D ad (69 + K) M H) (hg : isH g) (hlink : Cond.fieldLink own index "OneOfTwo$House" "laws" "[LOneOfTwo$Text;" ∈ TB) (hdg : decode cc pc = .ok (.getfield index, 3)) (kk : W p l e R s m args below meth c H locs cells slots QQ (F0 m (pc + 3) ls (.ref (ad (g + 12)) :: rest))) : W p l e R s m args below meth c H locs cells slots QQ (F0 m pc ls (.ref (ad g) :: rest)) :=
  f_get in_X2 (ci := 2) rfl C hP (oH hg) 18 (by decide) rfl rfl hlink hdg kk
theorem gf_X4_0 {K g : Nat} {M : Mem} (C : Cx T D p s m args c cc nL own) (hP : Pw EC T D ad (69 + K) M H) (hg : isR g) (hlink : Cond.fieldLink own index "OneOfTwo$Row" "cells" "[I" ∈ TB) (hdg : decode cc pc = .ok (.getfield index, 3)) (kk : W p l e R s m args below meth c H locs cells slots QQ (F0 m (pc + 3) ls (.ref (ad (g + 1)) :: rest))) : W p l e R s m args below meth c H locs cells slots QQ (F0 m pc ls (.ref (ad g) :: rest)) :=
  f_get in_X4 (ci := 4) rfl C hP (oR hg) 0 (by decide) rfl rfl hlink hdg kk
theorem gf_X4_1 {K g : Nat} {M : Mem} (C : Cx T D p s m args c cc nL own) (hP : Pw EC T D ad (69 + K) M H) (hg : isR g) (hlink : Cond.fieldLink own index "OneOfTwo$Row" "length" "I" ∈ TB) (hdg : decode cc pc = .ok (.getfield index, 3)) (kk : W p l e R s m args below meth c H locs cells slots QQ (F0 m (pc + 3) ls (.int (M g 1) :: rest))) : W p l e R s m args below meth c H locs cells slots QQ (F0 m pc ls (.ref (ad g) :: rest)) :=
  f_get in_X4 (ci := 4) rfl C hP (oR hg) 1 (by decide) rfl rfl hlink hdg kk
theorem pf_X4_1 {K g : Nat} {M : Mem} {v : Int32} (C : Cx T D p s m args c cc nL own) (Z : Zz EC T D ad (69 + K) A H0 M H locs) (hg : isR g) (hlink : Cond.fieldLink own index "OneOfTwo$Row" "length" "I" ∈ TB) (hdg : decode cc pc = .ok (.putfield index, 3)) (kk : ∀ (M1 : Mem) (H1 : Heap) (locs1 : List Loc), M1 = sf M g 1 v → Zz EC T D ad (69 + K) A H0 M1 H1 locs1 → W p l e R s m args below meth c H1 locs1 cells slots QQ (F0 m (pc + 3) ls rest)) : W p l e R s m args below meth c H locs cells slots QQ (F0 m pc ls (.int v :: .ref (ad g) :: rest)) :=
  f_put in_X4 tyX4_ok nmX4 (ci := 4) rfl C Z (oR hg) 1 (by decide) rfl (Nat.le_of_ble_eq_true rfl) rfl rfl (ty := .int) rfl rfl rfl hlink hdg kk
theorem gf_X4_2 {K g : Nat} {M : Mem} (C : Cx T D p s m args c cc nL own) (hP : Pw EC T D ad (69 + K) M H) (hg : isR g) (hlink : Cond.fieldLink own index "OneOfTwo$Row" "bits" "I" ∈ TB) (hdg : decode cc pc = .ok (.getfield index, 3)) (kk : W p l e R s m args below meth c H locs cells slots QQ (F0 m (pc + 3) ls (.int (M g 2) :: rest))) : W p l e R s m args below meth c H locs cells slots QQ (F0 m pc ls (.ref (ad g) :: rest)) :=
  f_get in_X4 (ci := 4) rfl C hP (oR hg) 2 (by decide) rfl rfl hlink hdg kk
theorem pf_X4_2 {K g : Nat} {M : Mem} {v : Int32} (C : Cx T D p s m args c cc nL own) (Z : Zz EC T D ad (69 + K) A H0 M H locs) (hg : isR g) (hlink : Cond.fieldLink own index "OneOfTwo$Row" "bits" "I" ∈ TB) (hdg : decode cc pc = .ok (.putfield index, 3)) (kk : ∀ (M1 : Mem) (H1 : Heap) (locs1 : List Loc), M1 = sf M g 2 v → Zz EC T D ad (69 + K) A H0 M1 H1 locs1 → W p l e R s m args below meth c H1 locs1 cells slots QQ (F0 m (pc + 3) ls rest)) : W p l e R s m args below meth c H locs cells slots QQ (F0 m pc ls (.int v :: .ref (ad g) :: rest)) :=
  f_put in_X4 tyX4_ok nmX4 (ci := 4) rfl C Z (oR hg) 2 (by decide) rfl (Nat.le_of_ble_eq_true rfl) rfl rfl (ty := .int) rfl rfl rfl hlink hdg kk
theorem gf_X10_0 {K g : Nat} {M : Mem} (C : Cx T D p s m args c cc nL own) (hP : Pw EC T D ad (69 + K) M H) (hg : isT K g) (hlink : Cond.fieldLink own index "OneOfTwo$Text" "id" "I" ∈ TB) (hdg : decode cc pc = .ok (.getfield index, 3)) (kk : W p l e R s m args below meth c H locs cells slots QQ (F0 m (pc + 3) ls (.int (M g 0) :: rest))) : W p l e R s m args below meth c H locs cells slots QQ (F0 m pc ls (.ref (ad g) :: rest)) :=
  f_get in_X10 (ci := 10) rfl C hP (oT hg) 0 (by decide) rfl rfl hlink hdg kk
theorem gf_X10_1 {K g : Nat} {M : Mem} (C : Cx T D p s m args c cc nL own) (hP : Pw EC T D ad (69 + K) M H) (hg : isT K g) (hlink : Cond.fieldLink own index "OneOfTwo$Text" "memo" "[I" ∈ TB) (hdg : decode cc pc = .ok (.getfield index, 3)) (kk : W p l e R s m args below meth c H locs cells slots QQ (F0 m (pc + 3) ls (.ref (ad 2) :: rest))) : W p l e R s m args below meth c H locs cells slots QQ (F0 m pc ls (.ref (ad g) :: rest)) :=
  f_get in_X10 (ci := 10) rfl C hP (oT hg) 1 (by decide) rfl rfl hlink hdg kk
theorem gf_X10_2 {K g : Nat} {M : Mem} (C : Cx T D p s m args c cc nL own) (hP : Pw EC T D ad (69 + K) M H) (hg : isT K g) (hlink : Cond.fieldLink own index "OneOfTwo$Text" "code" "[I" ∈ TB) (hdg : decode cc pc = .ok (.getfield index, 3)) (kk : W p l e R s m args below meth c H locs cells slots QQ (F0 m (pc + 3) ls (.ref (ad (g + 1)) :: rest))) : W p l e R s m args below meth c H locs cells slots QQ (F0 m pc ls (.ref (ad g) :: rest)) :=
  f_get in_X10 (ci := 10) rfl C hP (oT hg) 2 (by decide) rfl rfl hlink hdg kk
theorem gf_X10_3 {K g : Nat} {M : Mem} (C : Cx T D p s m args c cc nL own) (hP : Pw EC T D ad (69 + K) M H) (hg : isT K g) (hlink : Cond.fieldLink own index "OneOfTwo$Text" "length" "I" ∈ TB) (hdg : decode cc pc = .ok (.getfield index, 3)) (kk : W p l e R s m args below meth c H locs cells slots QQ (F0 m (pc + 3) ls (.int (M g 3) :: rest))) : W p l e R s m args below meth c H locs cells slots QQ (F0 m pc ls (.ref (ad g) :: rest)) :=
  f_get in_X10 (ci := 10) rfl C hP (oT hg) 3 (by decide) rfl rfl hlink hdg kk
theorem pf_X10_3 {K g : Nat} {M : Mem} {v : Int32} (C : Cx T D p s m args c cc nL own) (Z : Zz EC T D ad (69 + K) A H0 M H locs) (hg : isT K g) (hlink : Cond.fieldLink own index "OneOfTwo$Text" "length" "I" ∈ TB) (hdg : decode cc pc = .ok (.putfield index, 3)) (kk : ∀ (M1 : Mem) (H1 : Heap) (locs1 : List Loc), M1 = sf M g 3 v → Zz EC T D ad (69 + K) A H0 M1 H1 locs1 → W p l e R s m args below meth c H1 locs1 cells slots QQ (F0 m (pc + 3) ls rest)) : W p l e R s m args below meth c H locs cells slots QQ (F0 m pc ls (.int v :: .ref (ad g) :: rest)) :=
  f_put in_X10 tyX10_ok nmX10 (ci := 10) rfl C Z (oT hg) 3 (by decide) rfl (Nat.le_of_ble_eq_true rfl) rfl rfl (ty := .int) rfl rfl rfl hlink hdg kk
theorem gf_X10_4 {K g : Nat} {M : Mem} (C : Cx T D p s m args c cc nL own) (hP : Pw EC T D ad (69 + K) M H) (hg : isT K g) (hlink : Cond.fieldLink own index "OneOfTwo$Text" "stack" "[I" ∈ TB) (hdg : decode cc pc = .ok (.getfield index, 3)) (kk : W p l e R s m args below meth c H locs cells slots QQ (F0 m (pc + 3) ls (.ref (ad (g + 2)) :: rest))) : W p l e R s m args below meth c H locs cells slots QQ (F0 m pc ls (.ref (ad g) :: rest)) :=
  f_get in_X10 (ci := 10) rfl C hP (oT hg) 4 (by decide) rfl rfl hlink hdg kk
theorem gf_X10_5 {K g : Nat} {M : Mem} (C : Cx T D p s m args c cc nL own) (hP : Pw EC T D ad (69 + K) M H) (hg : isT K g) (hlink : Cond.fieldLink own index "OneOfTwo$Text" "top" "I" ∈ TB) (hdg : decode cc pc = .ok (.getfield index, 3)) (kk : W p l e R s m args below meth c H locs cells slots QQ (F0 m (pc + 3) ls (.int (M g 5) :: rest))) : W p l e R s m args below meth c H locs cells slots QQ (F0 m pc ls (.ref (ad g) :: rest)) :=
  f_get in_X10 (ci := 10) rfl C hP (oT hg) 5 (by decide) rfl rfl hlink hdg kk
theorem pf_X10_5 {K g : Nat} {M : Mem} {v : Int32} (C : Cx T D p s m args c cc nL own) (Z : Zz EC T D ad (69 + K) A H0 M H locs) (hg : isT K g) (hlink : Cond.fieldLink own index "OneOfTwo$Text" "top" "I" ∈ TB) (hdg : decode cc pc = .ok (.putfield index, 3)) (kk : ∀ (M1 : Mem) (H1 : Heap) (locs1 : List Loc), M1 = sf M g 5 v → Zz EC T D ad (69 + K) A H0 M1 H1 locs1 → W p l e R s m args below meth c H1 locs1 cells slots QQ (F0 m (pc + 3) ls rest)) : W p l e R s m args below meth c H locs cells slots QQ (F0 m pc ls (.int v :: .ref (ad g) :: rest)) :=
  f_put in_X10 tyX10_ok nmX10 (ci := 10) rfl C Z (oT hg) 5 (by decide) rfl (Nat.le_of_ble_eq_true rfl) rfl rfl (ty := .int) rfl rfl rfl hlink hdg kk
theorem gf_X10_6 {K g : Nat} {M : Mem} (C : Cx T D p s m args c cc nL own) (hP : Pw EC T D ad (69 + K) M H) (hg : isT K g) (hlink : Cond.fieldLink own index "OneOfTwo$Text" "nowOpen" "I" ∈ TB) (hdg : decode cc pc = .ok (.getfield index, 3)) (kk : W p l e R s m args below meth c H locs cells slots QQ (F0 m (pc + 3) ls (.int (M g 6) :: rest))) : W p l e R s m args below meth c H locs cells slots QQ (F0 m pc ls (.ref (ad g) :: rest)) :=
  f_get in_X10 (ci := 10) rfl C hP (oT hg) 6 (by decide) rfl rfl hlink hdg kk
theorem pf_X10_6 {K g : Nat} {M : Mem} {v : Int32} (C : Cx T D p s m args c cc nL own) (Z : Zz EC T D ad (69 + K) A H0 M H locs) (hg : isT K g) (hlink : Cond.fieldLink own index "OneOfTwo$Text" "nowOpen" "I" ∈ TB) (hdg : decode cc pc = .ok (.putfield index, 3)) (kk : ∀ (M1 : Mem) (H1 : Heap) (locs1 : List Loc), M1 = sf M g 6 v → Zz EC T D ad (69 + K) A H0 M1 H1 locs1 → W p l e R s m args below meth c H1 locs1 cells slots QQ (F0 m (pc + 3) ls rest)) : W p l e R s m args below meth c H locs cells slots QQ (F0 m pc ls (.int v :: .ref (ad g) :: rest)) :=
  f_put in_X10 tyX10_ok nmX10 (ci := 10) rfl C Z (oT hg) 6 (by decide) rfl (Nat.le_of_ble_eq_true rfl) rfl rfl (ty := .int) rfl rfl rfl hlink hdg kk
theorem gf_number {K : Nat} {M : Mem} {x : Int32} (C : Cx T D p s m args c cc nL own) (hP : Pw EC T D ad (69 + K) M H) (hx : isKd_X3 x) (hlink : Cond.fieldLink own index "OneOfTwo$Lodger" "number" "I" ∈ TB) (hdg : decode cc pc = .ok (.getfield index, 3)) (kk : W p l e R s m args below meth c H locs cells slots QQ (F0 m (pc + 3) ls (.int (x - 15) :: rest))) : W p l e R s m args below meth c H locs cells slots QQ (F0 m pc ls (.ref (ad x.toNatClampNeg) :: rest)) := by
  rcases hx with rfl | rfl | rfl | rfl | rfl | rfl | rfl
  · exact f_get in_X3 (ci := 3) rfl C hP oL_15 0 (by decide) rfl rfl hlink hdg kk
  · exact f_get in_X0 (ci := 0) rfl C hP oL_16 0 (by decide) rfl rfl hlink hdg kk
  · exact f_get in_X7 (ci := 7) rfl C hP oL_17 0 (by decide) rfl rfl hlink hdg kk
  · exact f_get in_X6 (ci := 6) rfl C hP oL_18 0 (by decide) rfl rfl hlink hdg kk
  · exact f_get in_X1 (ci := 1) rfl C hP oL_19 0 (by decide) rfl rfl hlink hdg kk
  · exact f_get in_X9 (ci := 9) rfl C hP oL_20 0 (by decide) rfl rfl hlink hdg kk
  · exact f_get in_X8 (ci := 8) rfl C hP oL_21 0 (by decide) rfl rfl hlink hdg kk
end
/-! ===== the class's own rows: references, kinds, calls by the receiver's kind, the library ===== -/
theorem rmr {R : Room} {lv maxL LV NL : Nat} (h : LV + 1 ≤ R.frames ∧ 8 + (NL + 11) + 48 * LV ≤ R.locals) (h1 : lv ≤ LV) (h2 : maxL + 48 * lv ≤ NL + 48 * LV) : (RM lv).frames + 1 ≤ R.frames ∧ 8 + (maxL + 11) + (RM lv).locals ≤ R.locals := by
  constructor
  · show lv + 1 ≤ _; omega
  · show 8 + (maxL + 11) + 48 * lv ≤ _; omega
section BASE3
variable {p : Program} {l : Launch} {e : Env} {R : Room} {s : State} {m : MethodId} {args : Array Value} {below : List Frame} {meth : Method} {c : Code} {H : Heap} {locs : List Loc} {cells slots : Nat} {Q : State → Prop}
variable {cc : ByteArray} {nL : Nat} {own : String} {pc index : Nat} {ls : Array Slot} {rest st0 : List Value} {a : Array Value} {E : ET} {T : Nat → ClassId} {D : va_G} {ad : Nat → Nat} {K : Nat} {A : Nat → Prop} {H0 : Heap} {M : Mem}
theorem ka_ld {i : Int32} (C : Cx T D p s m args c cc nL own) (hP : Pw EC T D ad (69 + K) M H) (hin : vp_in i 7) (hdg : decode cc pc = .ok (.aaload, 1))
    (kk : W p l e R s m args below meth c H locs cells slots Q (F0 m (pc + 1) ls (.ref (ad (15 + i).toNatClampNeg) :: rest))) : W p l e R s m args below meth c H locs cells slots Q (F0 m pc ls (.int i :: .ref (ad 1) :: rest)) := by
  refine va_aldq C.x C.b C.2.1 hP 1 1 (C := "OneOfTwo$Lodger") (cA := T 1) (n := 7) (f := fun i => some (ad (15 + i))) (by rw [ws_at (by omega)]; rfl) rfl hin hdg ?_
  rcases in7 hin with rfl | rfl | rfl | rfl | rfl | rfl | rfl <;> exact kk
theorem sa_ld {i : Int32} (C : Cx T D p s m args c cc nL own) (hP : Pw EC T D ad (69 + K) M H) (hin : vp_in i 4) (hdg : decode cc pc = .ok (.aaload, 1))
    (kk : W p l e R s m args below meth c H locs cells slots Q (F0 m (pc + 1) ls (.ref (ad (22 + 2 * i.toNatClampNeg)) :: rest))) : W p l e R s m args below meth c H locs cells slots Q (F0 m pc ls (.int i :: .ref (ad 3) :: rest)) :=
  va_aldq C.x C.b C.2.1 hP 3 2 (C := "OneOfTwo$Row") (cA := T 2) (n := 4) (f := fun i => some (ad (22 + 2 * i))) (by rw [ws_at (by omega)]; rfl) rfl hin hdg kk
theorem hk_ld {i x : Int32} {g : Nat} (C : Cx T D p s m args c cc nL own) (hP : Pw EC T D ad (69 + K) M H) (hg : isH g) (hin : vp_in i 6) (hx : x = M (g + 5) i.toNatClampNeg) (hk : isKd_X3 x) (hdg : decode cc pc = .ok (.aaload, 1))
    (kk : W p l e R s m args below meth c H locs cells slots Q (F0 m (pc + 1) ls (.ref (ad x.toNatClampNeg) :: rest))) : W p l e R s m args below meth c H locs cells slots Q (F0 m pc ls (.int i :: .ref (ad (g + 5)) :: rest)) := by
  refine r_ld (t := 1) rfl C hP (rH_5 hg) hin hdg ?_
  rw [← hx, rO_some (kd_ne hk)]
  exact kk
theorem la_ld {i x : Int32} {g j : Nat} (C : Cx T D p s m args c cc nL own) (hP : Pw EC T D ad (69 + K) M H) (hg : isH g) (hin : vp_in i 2) (hx : x = M (g + 12) j) (hk : ¬ x = 0) (hj : i.toNatClampNeg = j) (hdg : decode cc pc = .ok (.aaload, 1))
    (kk : W p l e R s m args below meth c H locs cells slots Q (F0 m (pc + 1) ls (.ref (ad x.toNatClampNeg) :: rest))) : W p l e R s m args below meth c H locs cells slots Q (F0 m pc ls (.int i :: .ref (ad (g + 12)) :: rest)) := by
  subst hj
  refine r_ld (t := 3) rfl C hP (rH_12 hg) hin hdg ?_
  rw [← hx, rO_some hk]
  exact kk
theorem la_ldN {i x : Int32} {g j : Nat} (C : Cx T D p s m args c cc nL own) (hP : Pw EC T D ad (69 + K) M H) (hg : isH g) (hin : vp_in i 2) (hx : x = M (g + 12) j) (hk : x = 0) (hj : i.toNatClampNeg = j) (hdg : decode cc pc = .ok (.aaload, 1))
    (kk : W p l e R s m args below meth c H locs cells slots Q (F0 m (pc + 1) ls (.null :: rest))) : W p l e R s m args below meth c H locs cells slots Q (F0 m pc ls (.int i :: .ref (ad (g + 12)) :: rest)) := by
  subst hj
  refine r_ld (t := 3) rfl C hP (rH_12 hg) hin hdg ?_
  rw [← hx, rO_none hk]
  exact kk
theorem rf_up {f : Nat → Int32} {j : Nat} {v : Int32} (h : ¬ v = 0) : va_up (fun i => rO ad (f i)) j (some (ad v.toNatClampNeg)) = fun i => rO ad (upd f j v i) := by
  funext i
  unfold va_up upd
  by_cases hi : i = j
  · rw [if_pos hi, if_pos hi]; unfold rO; rw [if_neg h]
  · rw [if_neg hi, if_neg hi]
theorem rf_upN {f : Nat → Int32} {j : Nat} : va_up (fun i => rO ad (f i)) j none = fun i => rO ad (upd f j 0 i) := by
  funext i
  unfold va_up upd
  by_cases hi : i = j
  · rw [if_pos hi, if_pos hi]; rfl
  · rw [if_neg hi, if_neg hi]
theorem hk_st {i v : Int32} {g : Nat} (C : Cx T D p s m args c cc nL own) (Z : Zz EC T D ad (69 + K) A H0 M H locs) (hg : isH g) (hin : vp_in i 6) (hv : isKd_X3 v) (hdg : decode cc pc = .ok (.aastore, 1))
    (kk : ∀ (M1 : Mem) (H1 : Heap) (locs1 : List Loc), M1 = sf M (g + 5) i.toNatClampNeg v → Zz EC T D ad (69 + K) A H0 M1 H1 locs1 → W p l e R s m args below meth c H1 locs1 cells slots Q (F0 m (pc + 1) ls rest)) : W p l e R s m args below meth c H locs cells slots Q (F0 m pc ls (.ref (ad v.toNatClampNeg) :: .int i :: .ref (ad (g + 5)) :: rest)) := by
  have ha := rH_5 (K := K) hg
  have hne := kd_ne hv
  have fin : ∀ (H1 : Heap) (locs1 : List Loc), va_P D vwCl ((wsE EC T ad (69 + K) M).set (g + 5) (ad (g + 5), .inl (T 1, 6, .inr (.inr (.inr (.inr (va_up (fun i => rO ad (M (g + 5) i)) i.toNatClampNeg (some (ad v.toNatClampNeg))))))))) H1 → va_S A H0 H1 locs1 → W p l e R s m args below meth c H1 locs1 cells slots Q (F0 m (pc + 1) ls rest) := by
    intro H1 locs1 hP hS
    rw [rf_up hne, ws_set ha.1 (ha.2 T ad (upd (M (g + 5)) i.toNatClampNeg v))] at hP
    exact kk _ H1 locs1 rfl ⟨hP, Z.2.1, Z.2.2.1, Z.2.2.2.1, hS⟩
  have hw : (wsE EC T ad (69 + K) M)[g + 5]? = some (ad (g + 5), .inl (T 1, 6, .inr (.inr (.inr (.inr fun i => rO ad (M (g + 5) i)))))) := by rw [ws_at ha.1, ha.2]
  rcases hv with rfl | rfl | rfl | rfl | rfl | rfl | rfl
  · exact va_astq C.x C.b C.2.1 Z.1 Z.D Z.2.2.2.2 (g + 5) 1 15 3 (r := (RX3, TX3, 1)) hw rfl (by rw [ws_at (by omega)]; rfl) rfl hin hdg (fun H1 locs1 hP hD hS => fin H1 locs1 hP hS)
  · exact va_astqO C.x C.b C.2.1 Z.1 Z.D Z.2.2.2.2 (g + 5) 1 16 0 (r := (RX0, TX0, 1)) hw rfl C.2.2.1 (by rw [ws_at (by omega)]; rfl) rfl hin hdg (fun H1 locs1 hP hD hS => fin H1 locs1 hP hS)
  · exact va_astqO C.x C.b C.2.1 Z.1 Z.D Z.2.2.2.2 (g + 5) 1 17 7 (r := (RX7, TX7, 1)) hw rfl C.2.2.2.1 (by rw [ws_at (by omega)]; rfl) rfl hin hdg (fun H1 locs1 hP hD hS => fin H1 locs1 hP hS)
  · exact va_astqO C.x C.b C.2.1 Z.1 Z.D Z.2.2.2.2 (g + 5) 1 18 6 (r := (RX6, TX6, 1)) hw rfl C.2.2.2.2.1 (by rw [ws_at (by omega)]; rfl) rfl hin hdg (fun H1 locs1 hP hD hS => fin H1 locs1 hP hS)
  · exact va_astqO C.x C.b C.2.1 Z.1 Z.D Z.2.2.2.2 (g + 5) 1 19 1 (r := (RX1, TX1, 1)) hw rfl C.2.2.2.2.2.1 (by rw [ws_at (by omega)]; rfl) rfl hin hdg (fun H1 locs1 hP hD hS => fin H1 locs1 hP hS)
  · exact va_astqO C.x C.b C.2.1 Z.1 Z.D Z.2.2.2.2 (g + 5) 1 20 9 (r := (RX9, TX9, 1)) hw rfl C.2.2.2.2.2.2.1 (by rw [ws_at (by omega)]; rfl) rfl hin hdg (fun H1 locs1 hP hD hS => fin H1 locs1 hP hS)
  · exact va_astqO C.x C.b C.2.1 Z.1 Z.D Z.2.2.2.2 (g + 5) 1 21 8 (r := (RX8, TX8, 1)) hw rfl C.2.2.2.2.2.2.2 (by rw [ws_at (by omega)]; rfl) rfl hin hdg (fun H1 locs1 hP hD hS => fin H1 locs1 hP hS)
theorem la_stN {i : Int32} {g j : Nat} (C : Cx T D p s m args c cc nL own) (Z : Zz EC T D ad (69 + K) A H0 M H locs) (hg : isH g) (hin : vp_in i 2) (hj : i.toNatClampNeg = j) (hdg : decode cc pc = .ok (.aastore, 1))
    (kk : ∀ (M1 : Mem) (H1 : Heap) (locs1 : List Loc), M1 = sf M (g + 12) j 0 → Zz EC T D ad (69 + K) A H0 M1 H1 locs1 → W p l e R s m args below meth c H1 locs1 cells slots Q (F0 m (pc + 1) ls rest)) : W p l e R s m args below meth c H locs cells slots Q (F0 m pc ls (.null :: .int i :: .ref (ad (g + 12)) :: rest)) := by
  subst hj
  have ha := rH_12 (K := K) hg
  have hw : (wsE EC T ad (69 + K) M)[g + 12]? = some (ad (g + 12), .inl (T 3, 2, .inr (.inr (.inr (.inr fun i => rO ad (M (g + 12) i)))))) := by rw [ws_at ha.1, ha.2]
  refine va_astqN (C := "OneOfTwo$Text") C.x C.b C.2.1 Z.1 Z.D Z.2.2.2.2 (g + 12) 3 hw rfl hin hdg (fun H1 locs1 hP hD hS => ?_)
  rw [rf_upN, ws_set ha.1 (ha.2 T ad (upd (M (g + 12)) i.toNatClampNeg 0))] at hP
  exact kk _ H1 locs1 rfl ⟨hP, Z.2.1, Z.2.2.1, Z.2.2.2.1, hS⟩
theorem la_st {i v : Int32} {g j : Nat} (C : Cx T D p s m args c cc nL own) (Z : Zz EC T D ad (69 + K) A H0 M H locs) (hg : isH g) (hin : vp_in i 2) (ht : isT K v.toNatClampNeg) (hj : i.toNatClampNeg = j) (hdg : decode cc pc = .ok (.aastore, 1))
    (kk : ∀ (M1 : Mem) (H1 : Heap) (locs1 : List Loc), M1 = sf M (g + 12) j v → Zz EC T D ad (69 + K) A H0 M1 H1 locs1 → W p l e R s m args below meth c H1 locs1 cells slots Q (F0 m (pc + 1) ls rest)) : W p l e R s m args below meth c H locs cells slots Q (F0 m pc ls (.ref (ad v.toNatClampNeg) :: .int i :: .ref (ad (g + 12)) :: rest)) := by
  subst hj
  have ha := rH_12 (K := K) hg
  have hne : ¬ v = 0 := fun h => by subst h; exact absurd ht.1 (by decide)
  have hw : (wsE EC T ad (69 + K) M)[g + 12]? = some (ad (g + 12), .inl (T 3, 2, .inr (.inr (.inr (.inr fun i => rO ad (M (g + 12) i)))))) := by rw [ws_at ha.1, ha.2]
  have ho := oT ht
  refine va_astq C.x C.b C.2.1 Z.1 Z.D Z.2.2.2.2 (g + 12) 3 v.toNatClampNeg 10 (r := (RX10, TX10, 7)) (vs := FT v.toNatClampNeg ad (M v.toNatClampNeg)) hw rfl (by rw [ws_at ho.1, ho.2]) rfl hin hdg (fun H1 locs1 hP hD hS => ?_)
  rw [rf_up hne, ws_set ha.1 (ha.2 T ad (upd (M (g + 12)) i.toNatClampNeg v))] at hP
  exact kk _ H1 locs1 rfl ⟨hP, Z.2.1, Z.2.2.1, Z.2.2.2.1, hS⟩
/-! calls by the receiver's kind -/
theorem gdU {own C owner : String} {index : Nat} {x y : MethodName} {b : ByteArray} {n : Nat} {ret : Option FieldType} (hcode : Cond.code y b n ret ∈ TB) (hlink : Cond.methodLink own index x ∈ TB) (hsame : Cond.sameMethod x.cls owner x.name x.desc ∈ TB) (hsel : Cond.selects C x y ∈ TB) (hins : Cond.instanceMethod y ∈ TB) (hini : Cond.initialized y.cls ∈ TB) : GoodIn TB (va_wsU own index C owner x y (Cond.code y b n ret :: TB)) := by
  intro w hw
  unfold va_wsU at hw
  rcases List.mem_append.mp hw with hw | hw
  · simp only [List.mem_cons, List.not_mem_nil, or_false] at hw
    rcases hw with rfl | rfl | rfl | rfl | rfl
    · exact tb_good hlink
    · exact tb_good hsame
    · exact tb_good hsel
    · exact tb_good hins
    · exact tb_good hini
  · exact gdT hcode w hw
theorem gdO {own C owner : String} {index : Nat} {x y : MethodName} {b : ByteArray} {n : Nat} {ret : Option FieldType} (hcode : Cond.code y b n ret ∈ TB) (hlink : Cond.methodLink own index x ∈ TB) (hsame : Cond.sameMethod x.cls owner x.name x.desc ∈ TB) (hio : Cond.instanceMethod ⟨owner, x.name, x.desc⟩ ∈ TB) (hsel : Cond.selects C x y ∈ TB) (hins : Cond.instanceMethod y ∈ TB) (hini : Cond.initialized y.cls ∈ TB) : GoodIn TB (va_wsO own index C owner x y (Cond.code y b n ret :: TB)) := by
  intro w hw
  unfold va_wsO at hw
  rcases List.mem_append.mp hw with hw | hw
  · simp only [List.mem_cons, List.not_mem_nil, or_false] at hw
    rcases hw with rfl | rfl | rfl | rfl | rfl | rfl
    · exact tb_good hlink
    · exact tb_good hsame
    · exact tb_good hio
    · exact tb_good hsel
    · exact tb_good hins
    · exact tb_good hini
  · exact gdT hcode w hw
theorem gdSU {own : String} {index : Nat} {y : MethodName} {b : ByteArray} {n : Nat} {ret : Option FieldType} (hcode : Cond.code y b n ret ∈ TB) (hlink : Cond.methodLink own index y ∈ TB) (hsame : Cond.sameMethod y.cls y.cls y.name y.desc ∈ TB) (hsup : Cond.superclass own y.cls ∈ TB) (hins : Cond.instanceMethod y ∈ TB) (hini : Cond.initialized y.cls ∈ TB) : GoodIn TB (va_wsSU own index y (Cond.code y b n ret :: TB)) := by
  intro w hw
  unfold va_wsSU at hw
  rcases List.mem_append.mp hw with hw | hw
  · simp only [List.mem_cons, List.not_mem_nil, or_false] at hw
    rcases hw with rfl | rfl | rfl | rfl | rfl
    · exact tb_good hlink
    · exact tb_good hsame
    · exact tb_good hsup
    · exact tb_good hins
    · exact tb_good hini
  · exact gdT hcode w hw
theorem k_UR {Q1 : Int32 → Prop} {x y : MethodName} {bytes : ByteArray} {maxL lv n index : Nat} {ret : Option FieldType} {Cy owner : String} {As : List Value} {F : (Nat → Nat) → (Nat → Int32) → List Value} {ci k : Nat} {Tn : u_T} {N : Nat}
    (hM : Met l y (Cond.code y bytes maxL ret :: TB) (RM lv) (va_Pc (.ref (ad k) :: As) (RdP E T D ad K M)) (QcR Q1) 0 0 (fun _ => False))
    (cw : va_CU R s args own Cy owner index x y bytes maxL ret (Cond.code y bytes maxL ret :: TB) (RM lv) 0 0 n) (hc : vwCl[ci]? = some (Cy, Tn, N)) (hn : As.length = n)
    (C : Cx T D p s m args c cc nL own) (hls : ls.size = nL) (hP : Pw E T D ad K M H) (ho : OA E K k ci F) (hcs : cells ≤ R.cells ∧ slots ≤ R.slots) (hcat : (rest.map fun v => v.category).sum ≤ 8) (hst : st0 = As.reverse ++ .ref (ad k) :: rest) (hdg : decode cc pc = .ok (.invokevirtual index, 3))
    (kk : ∀ r : Int32, Q1 r → W p l e R s m args below meth c H locs cells slots Q (F0 m (pc + 3) ls (.int r :: rest))) : W p l e R s m args below meth c H locs cells slots Q (F0 m pc ls st0) :=
  cl_R (va_runU C.1 hM cw ⟨blR, va_recv C.2.1 hP (q0 := k) hc (by rw [ws_at ho.1, ho.2]), fun U hU hW => ⟨rfl, by rw [hU]; exact hP, C.2.warm hW⟩⟩ rfl hn hls hst (lv_room hcat) hdg ⟨hcs.1, hcs.2⟩) kk
theorem k_UW {Q1 : Int32 → Mem → Prop} {x y : MethodName} {bytes : ByteArray} {maxL lv n index : Nat} {ret : Option FieldType} {Cy owner : String} {As : List Value} {F : (Nat → Nat) → (Nat → Int32) → List Value} {ci k : Nat} {Tn : u_T} {N : Nat}
    (hM : Met l y (Cond.code y bytes maxL ret :: TB) (RM lv) (va_Pc (.ref (ad k) :: As) (WrP E T D ad K M H.size)) (QcW E T D ad K (AA ad K H.size) Q1) 0 0 (AA ad K H.size))
    (cw : va_CU R s args own Cy owner index x y bytes maxL ret (Cond.code y bytes maxL ret :: TB) (RM lv) 0 0 n) (hc : vwCl[ci]? = some (Cy, Tn, N)) (hn : As.length = n)
    (C : Cx T D p s m args c cc nL own) (hls : ls.size = nL) (Z : Zz E T D ad K A H0 M H locs) (ho : OA E K k ci F) (hcs : cells ≤ R.cells ∧ slots ≤ R.slots) (hcat : (rest.map fun v => v.category).sum ≤ 8) (hst : st0 = As.reverse ++ .ref (ad k) :: rest) (hdg : decode cc pc = .ok (.invokevirtual index, 3))
    (kk : ∀ (r : Int32) (M1 : Mem) (H1 : Heap) (locs1 : List Loc), Q1 r M1 → Zz E T D ad K A H0 M1 H1 locs1 → W p l e R s m args below meth c H1 locs1 cells slots Q (F0 m (pc + 3) ls (.int r :: rest))) : W p l e R s m args below meth c H locs cells slots Q (F0 m pc ls st0) :=
  cl_W (va_runU C.1 hM cw ⟨blW, va_recv C.2.1 Z.1 (q0 := k) hc (by rw [ws_at ho.1, ho.2]), fun U hU hW => ⟨rfl, by rw [hU], by rw [hU]; exact Z.1, C.2.warm hW, Z.2.1⟩⟩ rfl hn hls hst (lv_room hcat) hdg ⟨hcs.1, hcs.2⟩) Z kk
theorem k_SUR {Q1 : Int32 → Prop} {y : MethodName} {bytes : ByteArray} {maxL lv n index : Nat} {ret : Option FieldType} {Cy : String} {As : List Value} {F : (Nat → Nat) → (Nat → Int32) → List Value} {ci k : Nat} {Tn : u_T} {N : Nat}
    (hM : Met l y (Cond.code y bytes maxL ret :: TB) (RM lv) (va_Pc (.ref (ad k) :: As) (RdP E T D ad K M)) (QcR Q1) 0 0 (fun _ => False))
    (cw : va_CS R s args own index y bytes maxL ret (Cond.code y bytes maxL ret :: TB) (RM lv) 0 0 n) (hc : vwCl[ci]? = some (Cy, Tn, N)) (hn : As.length = n)
    (C : Cx T D p s m args c cc nL own) (hls : ls.size = nL) (hP : Pw E T D ad K M H) (ho : OA E K k ci F) (hcs : cells ≤ R.cells ∧ slots ≤ R.slots) (hcat : (rest.map fun v => v.category).sum ≤ 8) (hst : st0 = As.reverse ++ .ref (ad k) :: rest) (hdg : decode cc pc = .ok (.invokespecial index, 3))
    (kk : ∀ r : Int32, Q1 r → W p l e R s m args below meth c H locs cells slots Q (F0 m (pc + 3) ls (.int r :: rest))) : W p l e R s m args below meth c H locs cells slots Q (F0 m pc ls st0) :=
  cl_R (va_runSU (C.2.1.1 ci _ hc).2 C.1 hM cw ⟨blR, va_recv C.2.1 hP (q0 := k) hc (by rw [ws_at ho.1, ho.2]), fun U hU hW => ⟨rfl, by rw [hU]; exact hP, C.2.warm hW⟩⟩ rfl hn hls hst (lv_room hcat) hdg ⟨hcs.1, hcs.2⟩) kk
theorem k_SUW {Q1 : Int32 → Mem → Prop} {y : MethodName} {bytes : ByteArray} {maxL lv n index : Nat} {ret : Option FieldType} {Cy : String} {As : List Value} {F : (Nat → Nat) → (Nat → Int32) → List Value} {ci k : Nat} {Tn : u_T} {N : Nat}
    (hM : Met l y (Cond.code y bytes maxL ret :: TB) (RM lv) (va_Pc (.ref (ad k) :: As) (WrP E T D ad K M H.size)) (QcW E T D ad K (AA ad K H.size) Q1) 0 0 (AA ad K H.size))
    (cw : va_CS R s args own index y bytes maxL ret (Cond.code y bytes maxL ret :: TB) (RM lv) 0 0 n) (hc : vwCl[ci]? = some (Cy, Tn, N)) (hn : As.length = n)
    (C : Cx T D p s m args c cc nL own) (hls : ls.size = nL) (Z : Zz E T D ad K A H0 M H locs) (ho : OA E K k ci F) (hcs : cells ≤ R.cells ∧ slots ≤ R.slots) (hcat : (rest.map fun v => v.category).sum ≤ 8) (hst : st0 = As.reverse ++ .ref (ad k) :: rest) (hdg : decode cc pc = .ok (.invokespecial index, 3))
    (kk : ∀ (r : Int32) (M1 : Mem) (H1 : Heap) (locs1 : List Loc), Q1 r M1 → Zz E T D ad K A H0 M1 H1 locs1 → W p l e R s m args below meth c H1 locs1 cells slots Q (F0 m (pc + 3) ls (.int r :: rest))) : W p l e R s m args below meth c H locs cells slots Q (F0 m pc ls st0) :=
  cl_W (va_runSU (C.2.1.1 ci _ hc).2 C.1 hM cw ⟨blW, va_recv C.2.1 Z.1 (q0 := k) hc (by rw [ws_at ho.1, ho.2]), fun U hU hW => ⟨rfl, by rw [hU], by rw [hU]; exact Z.1, C.2.warm hW, Z.2.1⟩⟩ rfl hn hls hst (lv_room hcat) hdg ⟨hcs.1, hcs.2⟩) Z kk
/-! static methods that know of the heap -/
theorem k_SR {Q1 : Int32 → Prop} {y : MethodName} {bytes : ByteArray} {maxL lv n index : Nat} {ret : Option FieldType} {As : List Value}
    (hM : Met l y (Cond.code y bytes maxL ret :: TB) (RM lv) (va_Pc As (RdP E T D ad K M)) (QcR Q1) 0 0 (fun _ => False))
    (hcode : Cond.code y bytes maxL ret ∈ TB) (hstt : Cond.static y ∈ TB) (hini : Cond.initialized y.cls ∈ TB) (hy : y.cls ≠ "java/lang/invoke/MethodHandle" ∧ y.cls ≠ "java/lang/invoke/VarHandle" ∧ (parseMethodDescriptor y.desc).map (fun d => d.parameters.length) = some n) (hn : As.length = n)
    (C : Cx T D p s m args c cc nL own) (hls : ls.size = nL) (hP : Pw E T D ad K M H) (hlink : Cond.methodLink own index y ∈ TB) (hR : lv + 1 ≤ R.frames ∧ 8 + (maxL + 11) + 48 * lv ≤ R.locals) (hcs : cells ≤ R.cells ∧ slots ≤ R.slots) (hcat : (rest.map fun v => v.category).sum ≤ 8) (hst : st0 = As.reverse ++ rest) (hdg : decode cc pc = .ok (.invokestatic index, 3))
    (kk : ∀ r : Int32, Q1 r → W p l e R s m args below meth c H locs cells slots Q (F0 m (pc + 3) ls (.int r :: rest))) : W p l e R s m args below meth c H locs cells slots Q (F0 m pc ls st0) :=
  cl_R (va_runS C.1 hM (va_cwS n C.1.2.2.2.2 (gdS hcode hlink hstt hini) rfl rfl rfl hy ⟨hR.1, hR.2⟩) ⟨blR, fun U hU hW => ⟨rfl, by rw [hU]; exact hP, C.2.warm hW⟩⟩ rfl hn hls hst (lv_room hcat) hdg ⟨hcs.1, hcs.2⟩) kk
theorem k_SV {Q1 : Mem → Prop} {y : MethodName} {bytes : ByteArray} {maxL lv n index : Nat} {ret : Option FieldType} {As : List Value}
    (hM : Met l y (Cond.code y bytes maxL ret :: TB) (RM lv) (va_Pc As (WrP E T D ad K M H.size)) (QcV E T D ad K (AA ad K H.size) Q1) 0 0 (AA ad K H.size))
    (hcode : Cond.code y bytes maxL ret ∈ TB) (hstt : Cond.static y ∈ TB) (hini : Cond.initialized y.cls ∈ TB) (hy : y.cls ≠ "java/lang/invoke/MethodHandle" ∧ y.cls ≠ "java/lang/invoke/VarHandle" ∧ (parseMethodDescriptor y.desc).map (fun d => d.parameters.length) = some n) (hn : As.length = n)
    (C : Cx T D p s m args c cc nL own) (hls : ls.size = nL) (Z : Zz E T D ad K A H0 M H locs) (hlink : Cond.methodLink own index y ∈ TB) (hR : lv + 1 ≤ R.frames ∧ 8 + (maxL + 11) + 48 * lv ≤ R.locals) (hcs : cells ≤ R.cells ∧ slots ≤ R.slots) (hcat : (rest.map fun v => v.category).sum ≤ 8) (hst : st0 = As.reverse ++ rest) (hdg : decode cc pc = .ok (.invokestatic index, 3))
    (kk : ∀ (M1 : Mem) (H1 : Heap) (locs1 : List Loc), Q1 M1 → Zz E T D ad K A H0 M1 H1 locs1 → W p l e R s m args below meth c H1 locs1 cells slots Q (F0 m (pc + 3) ls rest)) : W p l e R s m args below meth c H locs cells slots Q (F0 m pc ls st0) :=
  cl_V (va_runS C.1 hM (va_cwS n C.1.2.2.2.2 (gdS hcode hlink hstt hini) rfl rfl rfl hy ⟨hR.1, hR.2⟩) ⟨blW, fun U hU hW => ⟨rfl, by rw [hU], by rw [hU]; exact Z.1, C.2.warm hW, Z.2.1⟩⟩ rfl hn hls hst (lv_room hcat) hdg ⟨hcs.1, hcs.2⟩) Z kk
/-! the library -/
theorem m_max (C : CallFix p m c cc nL s args TB own) (hls : ls.size = nL) (hlink : Cond.methodLink own index (⟨"java/lang/Math", "max", "(II)I"⟩ : MethodName) ∈ TB) (hf : 1 ≤ R.frames) (hlo : (rest.map fun v => v.category).sum + 13 ≤ R.locals) {x y : Int32} (hdg : decode cc pc = .ok (.invokestatic index, 3))
    (kk : W p l e R s m args below meth c H locs 0 0 Q (F0 m (pc + 3) ls (.int (if x < y then y else x) :: rest))) : W p l e R s m args below meth c H locs 0 0 Q (F0 m pc ls (.int y :: .int x :: rest)) :=
  va_mmax C.1 C.2.1 (C.2.2.1.trans hls.symm) C.2.2.2.1 (C.2.2.2.2 _ hlink) (C.2.2.2.2 _ tw_2_170) (C.2.2.2.2 _ tw_1_14) (C.2.2.2.2 _ tw_2_171) hf hlo (Nat.zero_le _) (Nat.zero_le _) hdg kk
theorem m_min (C : CallFix p m c cc nL s args TB own) (hls : ls.size = nL) (hlink : Cond.methodLink own index (⟨"java/lang/Math", "min", "(II)I"⟩ : MethodName) ∈ TB) (hf : 1 ≤ R.frames) (hlo : (rest.map fun v => v.category).sum + 13 ≤ R.locals) {x y : Int32} (hdg : decode cc pc = .ok (.invokestatic index, 3))
    (kk : W p l e R s m args below meth c H locs 0 0 Q (F0 m (pc + 3) ls (.int (if y < x then y else x) :: rest))) : W p l e R s m args below meth c H locs 0 0 Q (F0 m pc ls (.int y :: .int x :: rest)) :=
  va_mmin C.1 C.2.1 (C.2.2.1.trans hls.symm) C.2.2.2.1 (C.2.2.2.2 _ hlink) (C.2.2.2.2 _ tw_2_167) (C.2.2.2.2 _ tw_1_14) (C.2.2.2.2 _ tw_2_168) hf hlo (Nat.zero_le _) (Nat.zero_le _) hdg kk
theorem m_abs (C : CallFix p m c cc nL s args TB own) (hls : ls.size = nL) (hlink : Cond.methodLink own index (⟨"java/lang/Math", "abs", "(I)I"⟩ : MethodName) ∈ TB) (hf : 1 ≤ R.frames) (hlo : (rest.map fun v => v.category).sum + 13 ≤ R.locals) {x : Int32} (hdg : decode cc pc = .ok (.invokestatic index, 3))
    (kk : W p l e R s m args below meth c H locs 0 0 Q (F0 m (pc + 3) ls (.int (if 0 ≤ x then x else 0 - x) :: rest))) : W p l e R s m args below meth c H locs 0 0 Q (F0 m pc ls (.int x :: rest)) :=
  va_mabs C.1 C.2.1 (C.2.2.1.trans hls.symm) C.2.2.2.1 (C.2.2.2.2 _ hlink) (C.2.2.2.2 _ tw_4_30) (C.2.2.2.2 _ tw_1_14) (C.2.2.2.2 _ tw_4_31) hf hlo (Nat.zero_le _) (Nat.zero_le _) hdg kk
theorem a_cp {sp dp n : Int32} {k0 k1 n0 n1 : Nat} (C : Cx T D p s m args c cc nL own) (Z : Zz E T D ad K A H0 M H locs) (hls : ls.size = nL) (ha : IA E K k0 n0) (hb : IA E K k1 n1) (h1 : ¬ sp < 0) (h2 : ¬ dp < 0) (h3 : ¬ n < 0) (h4 : sp.toNatClampNeg + n.toNatClampNeg ≤ n0) (h5 : dp.toNatClampNeg + n.toNatClampNeg ≤ n1) (hlink : Cond.methodLink own index (⟨"java/lang/System", "arraycopy", "(Ljava/lang/Object;ILjava/lang/Object;II)V"⟩ : MethodName) ∈ TB) (hf : 1 ≤ R.frames) (hlo : (rest.map fun v => v.category).sum + (nativeFrameWords "java/lang/System" "arraycopy" 5 + 11) ≤ R.locals) (hdg : decode cc pc = .ok (.invokestatic index, 3))
    (kk : ∀ (M1 : Mem) (H1 : Heap) (locs1 : List Loc), M1 = mu M k1 (va_cpy (M k0) (M k1) sp.toNatClampNeg dp.toNatClampNeg n.toNatClampNeg) → Zz E T D ad K A H0 M1 H1 locs1 → W p l e R s m args below meth c H1 locs1 cells slots Q (F0 m (pc + 3) ls rest)) : W p l e R s m args below meth c H locs cells slots Q (F0 m pc ls (.int n :: .int dp :: .ref (ad k1) :: .int sp :: .ref (ad k0) :: rest)) := by
  refine va_copyi C.x C.b (C.1.2.2.1.trans hls.symm) C.1.2.2.2.1 (C.1.2.2.2.2 _ hlink) (C.1.2.2.2.2 _ tw_4_85) (C.1.2.2.2.2 _ tw_4_84) (C.1.2.2.2.2 _ tw_1_21) C.2.1 Z.1 Z.D Z.2.2.2.2 k0 k1 0 0 (f := M k0) (g := M k1) (ty := .int) (by rw [ws_at ha.1, ha.2]) (by rw [ws_at hb.1, hb.2]) rfl rfl rfl h1 h2 h3 h4 h5 (fun _ _ => rfl) hf hlo hdg (fun H1 locs1 hP hD hS => ?_)
  rw [ws_set hb.1 (hb.2 T ad _)] at hP
  exact kk _ H1 locs1 rfl ⟨hP, Z.2.1, Z.2.2.1, Z.2.2.2.1, hS⟩
end BASE3
/-! a super call of a method that the superclass itself only inherits -/
section BASE4
variable {p : Program} {l : Launch} {e : Env} {R : Room} {s : State} {m : MethodId} {args : Array Value} {below : List Frame} {meth : Method} {c : Code} {H : Heap} {locs : List Loc} {cells slots : Nat} {Q : State → Prop}
theorem va_callSX {T : State} (X : Stand p l e R s m args below meth c T locs cells slots) (hexec : p.tables.exec = Jvm.exec) {own owner : String} {index : Nat} {x y : MethodName} {bytes : ByteArray} {maxL : Nat} {ret : Option FieldType}
    (hown : s.vm.findClass own = some m.cls) (hlink : (Cond.methodLink own index x).before args s = true) (hsame : (Cond.sameMethod x.cls owner x.name x.desc).before args s = true) (hyx : y = ⟨owner, x.name, x.desc⟩) (hsup : (Cond.superclass own x.cls).before args s = true) (hsup2 : (Cond.superclass x.cls owner).before args s = true)
    (hinst : (Cond.instanceMethod y).before args s = true) (hcode : (Cond.code y bytes maxL ret).before args s = true) (hno : x.name ≠ "<init>")
    {W : Nat} {Pre : Pt → Array Value → Prop} {Post : Pt → Array Value → Option Value → Pt → Prop} (hK : Back l R p e below s args y 3 W Pre Post)
    {b : Addr} {cellB : Cell} {kB : Class} (hcell : T.heap[b]? = some cellB) (hobj : cellB.vm.isStatics = false) (hkB : s.vm.classes[cellB.cls]? = some kB)
    {g : JFrame} (hg : g.method = m) (hsize : g.locals.size = c.maxLocals) {argsL rest : List Value} (hlen : ∀ sig, parseMethodDescriptor x.desc = some sig → argsL.length = sig.parameters.length)
    (hstack : g.stack = argsL.reverse ++ .ref b :: rest) (hW : 2 * g.monitorRoom + (rest.map fun v => v.category).sum ≤ W) (hdg : decode c.code g.pc = .ok (.invokespecial index, 3))
    (hpre : ∀ vm₁, s.WarmedH vm₁ → Pre ⟨T.setVm vm₁, locs, cells, slots⟩ (Value.ref b :: argsL).toArray) :
    ∃ (v : Option Value) (vm₁ : Vm) (B : Pt), s.WarmedH vm₁ ∧ Stand p l e R s m args below meth c B.U B.locs B.cells B.slots ∧ Post ⟨T.setVm vm₁, locs, cells, slots⟩ (Value.ref b :: argsL).toArray v B ∧
      ∀ target, Steps p.tables e below (B.U.setTop { g with pc := g.pc + 3, stack := v.toList ++ rest }) target → Steps p.tables e below (T.setTop g) target := by
  subst hyx
  obtain ⟨mk, methM, hnamed, hmethM, hstM, habM⟩ := Cond.instanceMethod_spec hinst
  obtain ⟨methM', cM, hmethM', -, -, -, -, -, -, hsigM⟩ := Cond.code_spec hnamed hcode
  cases hmethM.symm.trans hmethM'
  obtain ⟨ps, dk, kp, hps, hdk, hkp, hsuper, -, -, hnid⟩ := Cond.superclass_spec hown hsup
  obtain ⟨po, dk2, kp2, hpo, hdk2, hkp2, hsuper2, -, -, hnid2⟩ := Cond.superclass_spec hps hsup2
  have hpm : po = mk.cls := Option.some.inj (hpo.symm.trans (findClass_of_methodNamed hnamed))
  have hsz : 0 < s.vm.classes.size := Nat.lt_of_le_of_lt (Nat.zero_le _) (Array.getElem?_eq_some_iff.mp hdk).1
  have hsub : s.vm.isSubclass ps mk.cls = true := by
    rw [← hpm]
    obtain ⟨n, hn⟩ : ∃ n, s.vm.classes.size = n + 1 := ⟨s.vm.classes.size - 1, by omega⟩
    simp [Vm.isSubclass, Vm.isSubclassAux, hn, hdk2, hsuper2]
  obtain ⟨vm₁, X₁, hstep₁⟩ := X.invokespecialUp hexec hown hlink hsame hnamed hmethM hstM habM hno hdk hnid hps hsuper hsub (a := b) (cell := cellB) hcell
    (fun z h => by rw [h] at hobj; cases hobj) hkB (g := g) hg (argsL := argsL) (rest := rest) (hlen _ hsigM) hstack hdg
  obtain ⟨v, B, X', hpost, hsteps⟩ := hK m meth c ⟨T.setVm vm₁, locs, cells, slots⟩ { g with stack := rest } (.invokespecial index) mk (Value.ref b :: argsL).toArray X₁ hg hsize hdg hW (X₁.named hnamed) (hpre vm₁ X₁.warmed)
  exact ⟨v, vm₁, B, X₁.warmed, X', hpost, fun target h => hstep₁ _ (by rw [doInvoke_state]; exact hsteps.trans h)⟩
variable {cc : ByteArray} {nL : Nat} {own : String} {pc index : Nat} {ls : Array Slot} {rest st0 : List Value} {a : Array Value} {E : ET} {T : Nat → ClassId} {D : va_G} {ad : Nat → Nat} {K : Nat} {A : Nat → Prop} {H0 : Heap} {M : Mem}
theorem k_SXW {Q1 : Int32 → Mem → Prop} {x y : MethodName} {bytes : ByteArray} {maxL lv n index : Nat} {ret : Option FieldType} {Cy owner : String} {As : List Value} {F : (Nat → Nat) → (Nat → Int32) → List Value} {ci k : Nat} {Tn : u_T} {N : Nat}
    (hM : Met l y (Cond.code y bytes maxL ret :: TB) (RM lv) (va_Pc (.ref (ad k) :: As) (WrP E T D ad K M H.size)) (QcW E T D ad K (AA ad K H.size) Q1) 0 0 (AA ad K H.size))
    (hlink : Cond.methodLink own index x ∈ TB) (hsame : Cond.sameMethod x.cls owner x.name x.desc ∈ TB) (hsup : Cond.superclass own x.cls ∈ TB) (hsup2 : Cond.superclass x.cls owner ∈ TB) (hins : Cond.instanceMethod y ∈ TB) (hini : Cond.initialized y.cls ∈ TB) (hcode : Cond.code y bytes maxL ret ∈ TB) (hd : x.name ≠ "<init>" ∧ (parseMethodDescriptor x.desc).map (fun d => d.parameters.length) = some n) (hR : (RM lv).frames + 1 ≤ R.frames ∧ 8 + (maxL + 11) + (RM lv).locals ≤ R.locals) (hyx : y = ⟨owner, x.name, x.desc⟩) (hc : vwCl[ci]? = some (Cy, Tn, N)) (hn : As.length = n)
    (C : Cx T D p s m args c cc nL own) (hls : ls.size = nL) (Z : Zz E T D ad K A H0 M H locs) (ho : OA E K k ci F) (hcs : cells ≤ R.cells ∧ slots ≤ R.slots) (hcat : (rest.map fun v => v.category).sum ≤ 8) (hst : st0 = As.reverse ++ .ref (ad k) :: rest) (hdg : decode cc pc = .ok (.invokespecial index, 3))
    (kk : ∀ (r : Int32) (M1 : Mem) (H1 : Heap) (locs1 : List Loc), Q1 r M1 → Zz E T D ad K A H0 M1 H1 locs1 → W p l e R s m args below meth c H1 locs1 cells slots Q (F0 m (pc + 3) ls (.int r :: rest))) : W p l e R s m args below meth c H locs cells slots Q (F0 m pc ls st0) := by
  have hts := C.1.2.2.2.2
  have hK : Back l R p e below s args y 3 8 (PreOf R 0 0 (va_Pc (.ref (ad k) :: As) (WrP E T D ad K M H.size))) (PostOf (QcW E T D ad K (AA ad K H.size) Q1) 0 0 (AA ad K H.size)) :=
    back_of (bytes := bytes) (maxL := maxL) (ret := ret) hM blW rfl rfl hR.1 hR.2 (pay_in hts (gdT hcode)) List.mem_cons_self (fun a' U hW => word_at hW (Or.inl (by first | rfl | simp [Cond.onTables, Cond.keeps, Cond.steady])) (hts _ hini))
  obtain ⟨hfc, kB, hkB, -⟩ := (C.2.1.1 ci _ hc).2
  obtain ⟨cellB, hcB, hoB, hclB⟩ := va_recv C.2.1 Z.1 (q0 := k) hc (by rw [ws_at ho.1, ho.2])
  have hcls := Option.some.inj (hfc.symm.trans hclB)
  rw [hcls] at hkB
  refine cl_W (a := (Value.ref (ad k) :: As).toArray) ?_ Z kk
  intro U hU X
  obtain ⟨v, vm₁, ⟨U', l2, c2, s2⟩, hW₁, X', ⟨g', mk, t, L, e1, e2, hq, h1, hL, h2, h3⟩, st⟩ := va_callSX X C.x (bytes := bytes) (maxL := maxL) (ret := ret) C.1.2.2.2.1 (hts _ hlink) (hts _ hsame) hyx (hts _ hsup) (hts _ hsup2) (hts _ hins) (hts _ hcode) hd.1 hK (by rw [hU]; exact hcB) hoB hkB (g := F0 m pc ls st0) rfl (hls.trans C.1.2.2.1.symm) (argsL := As) (rest := rest) (fun sig h => by have h2 := hd.2; rw [h] at h2; exact hn.trans (Option.some.inj h2).symm) hst (lv_room hcat) (by rw [C.b]; exact hdg)
    (fun vm₁ hW₁ => ⟨hcs.1, hcs.2, rfl, by show U.heap.size = _; rw [hU], by show va_P D vwCl _ U.heap; rw [hU]; exact Z.1, C.2.warm hW₁, Z.2.1⟩)
  dsimp only [Pt.U, Pt.locs, Pt.cells, Pt.slots] at X' e1 e2 h1 h2 h3 st
  subst h1; subst h2; subst h3
  exact ⟨v, (U.setVm vm₁).calling g' mk (Value.ref (ad k) :: As).toArray, t, U', L, hU, X', hL, e1, e2, hq, st⟩
end BASE4
